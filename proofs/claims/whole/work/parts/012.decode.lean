theorem dX0_init_0 : decode cX0_init 0 = .ok (.aload_n 0, 1) := by decide +kernel
theorem dX0_init_1 : decode cX0_init 1 = .ok (.invokespecial 3, 3) := by decide +kernel
theorem dX0_init_4 : decode cX0_init 4 = .ok (.aload_n 0, 1) := by decide +kernel
theorem dX0_init_5 : decode cX0_init 5 = .ok (.bipush 20, 2) := by decide +kernel
theorem dX0_init_7 : decode cX0_init 7 = .ok (.newarray .long, 2) := by decide +kernel
theorem dX0_init_9 : decode cX0_init 9 = .ok (.putfield 11, 3) := by decide +kernel
theorem dX0_init_12 : decode cX0_init 12 = .ok (.aload_n 0, 1) := by decide +kernel
theorem dX0_init_13 : decode cX0_init 13 = .ok (.bipush 20, 2) := by decide +kernel
theorem dX0_init_15 : decode cX0_init 15 = .ok (.newarray .int, 2) := by decide +kernel
theorem dX0_init_17 : decode cX0_init 17 = .ok (.putfield 15, 3) := by decide +kernel
theorem dX0_init_20 : decode cX0_init 20 = .ok (.aload_n 0, 1) := by decide +kernel
theorem dX0_init_21 : decode cX0_init 21 = .ok (.bipush 20, 2) := by decide +kernel
theorem dX0_init_23 : decode cX0_init 23 = .ok (.newarray .int, 2) := by decide +kernel
theorem dX0_init_25 : decode cX0_init 25 = .ok (.putfield 19, 3) := by decide +kernel
theorem dX0_init_28 : decode cX0_init 28 = .ok (.aload_n 0, 1) := by decide +kernel
theorem dX0_init_29 : decode cX0_init 29 = .ok (.bipush 8, 2) := by decide +kernel
theorem dX0_init_31 : decode cX0_init 31 = .ok (.newarray .int, 2) := by decide +kernel
theorem dX0_init_33 : decode cX0_init 33 = .ok (.putfield 22, 3) := by decide +kernel
theorem dX0_init_36 : decode cX0_init 36 = .ok (.aload_n 0, 1) := by decide +kernel
theorem dX0_init_37 : decode cX0_init 37 = .ok (.bipush 8, 2) := by decide +kernel
theorem dX0_init_39 : decode cX0_init 39 = .ok (.newarray .int, 2) := by decide +kernel
theorem dX0_init_41 : decode cX0_init 41 = .ok (.putfield 25, 3) := by decide +kernel
theorem dX0_init_44 : decode cX0_init 44 = .ok (.aload_n 0, 1) := by decide +kernel
theorem dX0_init_45 : decode cX0_init 45 = .ok (.iconst 0, 1) := by decide +kernel
theorem dX0_init_46 : decode cX0_init 46 = .ok (.putfield 28, 3) := by decide +kernel
theorem dX0_init_49 : decode cX0_init 49 = .ok (.aload_n 0, 1) := by decide +kernel
theorem dX0_init_50 : decode cX0_init 50 = .ok (.aload_n 1, 1) := by decide +kernel
theorem dX0_init_51 : decode cX0_init 51 = .ok (.putfield 32, 3) := by decide +kernel
theorem dX0_init_54 : decode cX0_init 54 = .ok (.return_, 1) := by decide +kernel
theorem dX0_check_0 : decode cX0_check 0 = .ok (.aload_n 0, 1) := by decide +kernel
theorem dX0_check_1 : decode cX0_check 1 = .ok (.invokevirtual 36, 3) := by decide +kernel
theorem dX0_check_4 : decode cX0_check 4 = .ok (.aload_n 0, 1) := by decide +kernel
theorem dX0_check_5 : decode cX0_check 5 = .ok (.invokevirtual 39, 3) := by decide +kernel
theorem dX0_check_8 : decode cX0_check 8 = .ok (.iconst 0, 1) := by decide +kernel
theorem dX0_check_9 : decode cX0_check 9 = .ok (.istore_n 1, 1) := by decide +kernel
theorem dX0_check_10 : decode cX0_check 10 = .ok (.iload_n 1, 1) := by decide +kernel
theorem dX0_check_11 : decode cX0_check 11 = .ok (.aload_n 0, 1) := by decide +kernel
theorem dX0_check_12 : decode cX0_check 12 = .ok (.getfield 32, 3) := by decide +kernel
theorem dX0_check_15 : decode cX0_check 15 = .ok (.getfield 42, 3) := by decide +kernel
theorem dX0_check_18 : decode cX0_check 18 = .ok (.if_icmp .ge 35, 3) := by decide +kernel
theorem dX0_check_21 : decode cX0_check 21 = .ok (.aload_n 0, 1) := by decide +kernel
theorem dX0_check_22 : decode cX0_check 22 = .ok (.getfield 32, 3) := by decide +kernel
theorem dX0_check_25 : decode cX0_check 25 = .ok (.getfield 47, 3) := by decide +kernel
theorem dX0_check_28 : decode cX0_check 28 = .ok (.ifCond .ne 25, 3) := by decide +kernel
theorem dX0_check_31 : decode cX0_check 31 = .ok (.aload_n 0, 1) := by decide +kernel
theorem dX0_check_32 : decode cX0_check 32 = .ok (.getfield 32, 3) := by decide +kernel
theorem dX0_check_35 : decode cX0_check 35 = .ok (.iload_n 1, 1) := by decide +kernel
theorem dX0_check_36 : decode cX0_check 36 = .ok (.invokevirtual 50, 3) := by decide +kernel
theorem dX0_check_39 : decode cX0_check 39 = .ok (.ifCond .eq 8, 3) := by decide +kernel
theorem dX0_check_42 : decode cX0_check 42 = .ok (.aload_n 0, 1) := by decide +kernel
theorem dX0_check_43 : decode cX0_check 43 = .ok (.iload_n 1, 1) := by decide +kernel
theorem dX0_check_44 : decode cX0_check 44 = .ok (.invokevirtual 54, 3) := by decide +kernel
theorem dX0_check_47 : decode cX0_check 47 = .ok (.iinc 1 1, 3) := by decide +kernel
theorem dX0_check_50 : decode cX0_check 50 = .ok (.goto (-40), 3) := by decide +kernel
theorem dX0_check_53 : decode cX0_check 53 = .ok (.return_, 1) := by decide +kernel
theorem dX0_build_0 : decode cX0_build 0 = .ok (.aload_n 1, 1) := by decide +kernel
theorem dX0_build_1 : decode cX0_build 1 = .ok (.invokevirtual 58, 3) := by decide +kernel
theorem dX0_build_4 : decode cX0_build 4 = .ok (.aload_n 2, 1) := by decide +kernel
theorem dX0_build_5 : decode cX0_build 5 = .ok (.invokevirtual 63, 3) := by decide +kernel
theorem dX0_build_8 : decode cX0_build 8 = .ok (.iconst 0, 1) := by decide +kernel
theorem dX0_build_9 : decode cX0_build 9 = .ok (.istore_n 3, 1) := by decide +kernel
theorem dX0_build_10 : decode cX0_build 10 = .ok (.iload_n 3, 1) := by decide +kernel
theorem dX0_build_11 : decode cX0_build 11 = .ok (.aload_n 0, 1) := by decide +kernel
theorem dX0_build_12 : decode cX0_build 12 = .ok (.getfield 32, 3) := by decide +kernel
theorem dX0_build_15 : decode cX0_build 15 = .ok (.getfield 42, 3) := by decide +kernel
theorem dX0_build_18 : decode cX0_build 18 = .ok (.if_icmp .ge 15, 3) := by decide +kernel
theorem dX0_build_21 : decode cX0_build 21 = .ok (.aload_n 0, 1) := by decide +kernel
theorem dX0_build_22 : decode cX0_build 22 = .ok (.iload_n 3, 1) := by decide +kernel
theorem dX0_build_23 : decode cX0_build 23 = .ok (.aload_n 1, 1) := by decide +kernel
theorem dX0_build_24 : decode cX0_build 24 = .ok (.invokevirtual 66, 3) := by decide +kernel
theorem dX0_build_27 : decode cX0_build 27 = .ok (.iinc 3 1, 3) := by decide +kernel
theorem dX0_build_30 : decode cX0_build 30 = .ok (.goto (-20), 3) := by decide +kernel
theorem dX0_build_33 : decode cX0_build 33 = .ok (.iconst 0, 1) := by decide +kernel
theorem dX0_build_34 : decode cX0_build 34 = .ok (.istore_n 3, 1) := by decide +kernel
theorem dX0_build_35 : decode cX0_build 35 = .ok (.iload_n 3, 1) := by decide +kernel
theorem dX0_build_36 : decode cX0_build 36 = .ok (.aload_n 0, 1) := by decide +kernel
theorem dX0_build_37 : decode cX0_build 37 = .ok (.getfield 32, 3) := by decide +kernel
theorem dX0_build_40 : decode cX0_build 40 = .ok (.getfield 42, 3) := by decide +kernel
theorem dX0_build_43 : decode cX0_build 43 = .ok (.if_icmp .ge 28, 3) := by decide +kernel
theorem dX0_build_46 : decode cX0_build 46 = .ok (.aload_n 0, 1) := by decide +kernel
theorem dX0_build_47 : decode cX0_build 47 = .ok (.getfield 32, 3) := by decide +kernel
theorem dX0_build_50 : decode cX0_build 50 = .ok (.iload_n 3, 1) := by decide +kernel
theorem dX0_build_51 : decode cX0_build 51 = .ok (.invokevirtual 70, 3) := by decide +kernel
theorem dX0_build_54 : decode cX0_build 54 = .ok (.iconst 3, 1) := by decide +kernel
theorem dX0_build_55 : decode cX0_build 55 = .ok (.if_icmp .ne 10, 3) := by decide +kernel
theorem dX0_build_58 : decode cX0_build 58 = .ok (.aload_n 0, 1) := by decide +kernel
theorem dX0_build_59 : decode cX0_build 59 = .ok (.iload_n 3, 1) := by decide +kernel
theorem dX0_build_60 : decode cX0_build 60 = .ok (.aload_n 1, 1) := by decide +kernel
theorem dX0_build_61 : decode cX0_build 61 = .ok (.aload_n 2, 1) := by decide +kernel
theorem dX0_build_62 : decode cX0_build 62 = .ok (.invokevirtual 74, 3) := by decide +kernel
theorem dX0_build_65 : decode cX0_build 65 = .ok (.iinc 3 1, 3) := by decide +kernel
theorem dX0_build_68 : decode cX0_build 68 = .ok (.goto (-33), 3) := by decide +kernel
theorem dX0_build_71 : decode cX0_build 71 = .ok (.iconst 0, 1) := by decide +kernel
theorem dX0_build_72 : decode cX0_build 72 = .ok (.istore_n 3, 1) := by decide +kernel
theorem dX0_build_73 : decode cX0_build 73 = .ok (.iload_n 3, 1) := by decide +kernel
theorem dX0_build_74 : decode cX0_build 74 = .ok (.aload_n 0, 1) := by decide +kernel
theorem dX0_build_75 : decode cX0_build 75 = .ok (.getfield 32, 3) := by decide +kernel
theorem dX0_build_78 : decode cX0_build 78 = .ok (.getfield 42, 3) := by decide +kernel
theorem dX0_build_81 : decode cX0_build 81 = .ok (.if_icmp .ge 54, 3) := by decide +kernel
theorem dX0_build_84 : decode cX0_build 84 = .ok (.aload_n 0, 1) := by decide +kernel
theorem dX0_build_85 : decode cX0_build 85 = .ok (.getfield 32, 3) := by decide +kernel
theorem dX0_build_88 : decode cX0_build 88 = .ok (.iload_n 3, 1) := by decide +kernel
theorem dX0_build_89 : decode cX0_build 89 = .ok (.invokevirtual 70, 3) := by decide +kernel
theorem dX0_build_92 : decode cX0_build 92 = .ok (.istore 4, 2) := by decide +kernel
theorem dX0_build_94 : decode cX0_build 94 = .ok (.iload 4, 2) := by decide +kernel
theorem dX0_build_96 : decode cX0_build 96 = .ok (.iconst 4, 1) := by decide +kernel
theorem dX0_build_97 : decode cX0_build 97 = .ok (.if_icmp .eq 9, 3) := by decide +kernel
theorem dX0_build_100 : decode cX0_build 100 = .ok (.iload 4, 2) := by decide +kernel
theorem dX0_build_102 : decode cX0_build 102 = .ok (.iconst 5, 1) := by decide +kernel
theorem dX0_build_103 : decode cX0_build 103 = .ok (.if_icmp .ne 26, 3) := by decide +kernel
theorem dX0_build_106 : decode cX0_build 106 = .ok (.aload_n 2, 1) := by decide +kernel
theorem dX0_build_107 : decode cX0_build 107 = .ok (.aload_n 0, 1) := by decide +kernel
theorem dX0_build_108 : decode cX0_build 108 = .ok (.iload_n 3, 1) := by decide +kernel
theorem dX0_build_109 : decode cX0_build 109 = .ok (.iconst 1, 1) := by decide +kernel
theorem dX0_build_110 : decode cX0_build 110 = .ok (.iadd, 1) := by decide +kernel
theorem dX0_build_111 : decode cX0_build 111 = .ok (.iconst 3, 1) := by decide +kernel
theorem dX0_build_112 : decode cX0_build 112 = .ok (.invokevirtual 78, 3) := by decide +kernel
theorem dX0_build_115 : decode cX0_build 115 = .ok (.iload 4, 2) := by decide +kernel
theorem dX0_build_117 : decode cX0_build 117 = .ok (.iconst 4, 1) := by decide +kernel
theorem dX0_build_118 : decode cX0_build 118 = .ok (.if_icmp .ne 7, 3) := by decide +kernel
theorem dX0_build_121 : decode cX0_build 121 = .ok (.iconst 1, 1) := by decide +kernel
theorem dX0_build_122 : decode cX0_build 122 = .ok (.goto 4, 3) := by decide +kernel
theorem dX0_build_125 : decode cX0_build 125 = .ok (.iconst 2, 1) := by decide +kernel
theorem dX0_build_126 : decode cX0_build 126 = .ok (.invokevirtual 82, 3) := by decide +kernel
theorem dX0_build_129 : decode cX0_build 129 = .ok (.iinc 3 1, 3) := by decide +kernel
theorem dX0_build_132 : decode cX0_build 132 = .ok (.goto (-59), 3) := by decide +kernel
theorem dX0_build_135 : decode cX0_build 135 = .ok (.return_, 1) := by decide +kernel
theorem dX0_gatherNames_0 : decode cX0_gatherNames 0 = .ok (.aload_n 0, 1) := by decide +kernel
theorem dX0_gatherNames_1 : decode cX0_gatherNames 1 = .ok (.iconst 0, 1) := by decide +kernel
theorem dX0_gatherNames_2 : decode cX0_gatherNames 2 = .ok (.putfield 28, 3) := by decide +kernel
theorem dX0_gatherNames_5 : decode cX0_gatherNames 5 = .ok (.iconst 0, 1) := by decide +kernel
theorem dX0_gatherNames_6 : decode cX0_gatherNames 6 = .ok (.istore_n 1, 1) := by decide +kernel
theorem dX0_gatherNames_7 : decode cX0_gatherNames 7 = .ok (.iconst 0, 1) := by decide +kernel
theorem dX0_gatherNames_8 : decode cX0_gatherNames 8 = .ok (.istore_n 2, 1) := by decide +kernel
theorem dX0_gatherNames_9 : decode cX0_gatherNames 9 = .ok (.iconst 0, 1) := by decide +kernel
theorem dX0_gatherNames_10 : decode cX0_gatherNames 10 = .ok (.istore_n 3, 1) := by decide +kernel
theorem dX0_gatherNames_11 : decode cX0_gatherNames 11 = .ok (.iload_n 3, 1) := by decide +kernel
theorem dX0_gatherNames_12 : decode cX0_gatherNames 12 = .ok (.aload_n 0, 1) := by decide +kernel
theorem dX0_gatherNames_13 : decode cX0_gatherNames 13 = .ok (.getfield 32, 3) := by decide +kernel
theorem dX0_gatherNames_16 : decode cX0_gatherNames 16 = .ok (.getfield 42, 3) := by decide +kernel
theorem dX0_gatherNames_19 : decode cX0_gatherNames 19 = .ok (.if_icmp .ge 56, 3) := by decide +kernel
theorem dX0_gatherNames_22 : decode cX0_gatherNames 22 = .ok (.aload_n 0, 1) := by decide +kernel
theorem dX0_gatherNames_23 : decode cX0_gatherNames 23 = .ok (.getfield 32, 3) := by decide +kernel
theorem dX0_gatherNames_26 : decode cX0_gatherNames 26 = .ok (.iload_n 3, 1) := by decide +kernel
theorem dX0_gatherNames_27 : decode cX0_gatherNames 27 = .ok (.invokevirtual 70, 3) := by decide +kernel
theorem dX0_gatherNames_30 : decode cX0_gatherNames 30 = .ok (.istore 4, 2) := by decide +kernel
theorem dX0_gatherNames_32 : decode cX0_gatherNames 32 = .ok (.iload 4, 2) := by decide +kernel
theorem dX0_gatherNames_34 : decode cX0_gatherNames 34 = .ok (.iconst 1, 1) := by decide +kernel
theorem dX0_gatherNames_35 : decode cX0_gatherNames 35 = .ok (.if_icmp .ne 17, 3) := by decide +kernel
theorem dX0_gatherNames_38 : decode cX0_gatherNames 38 = .ok (.aload_n 0, 1) := by decide +kernel
theorem dX0_gatherNames_39 : decode cX0_gatherNames 39 = .ok (.iload_n 3, 1) := by decide +kernel
theorem dX0_gatherNames_40 : decode cX0_gatherNames 40 = .ok (.iconst 1, 1) := by decide +kernel
theorem dX0_gatherNames_41 : decode cX0_gatherNames 41 = .ok (.iadd, 1) := by decide +kernel
theorem dX0_gatherNames_42 : decode cX0_gatherNames 42 = .ok (.iload_n 1, 1) := by decide +kernel
theorem dX0_gatherNames_43 : decode cX0_gatherNames 43 = .ok (.invokevirtual 86, 3) := by decide +kernel
theorem dX0_gatherNames_46 : decode cX0_gatherNames 46 = .ok (.iinc 1 1, 3) := by decide +kernel
theorem dX0_gatherNames_49 : decode cX0_gatherNames 49 = .ok (.goto 20, 3) := by decide +kernel
theorem dX0_gatherNames_52 : decode cX0_gatherNames 52 = .ok (.iload 4, 2) := by decide +kernel
theorem dX0_gatherNames_54 : decode cX0_gatherNames 54 = .ok (.iconst 3, 1) := by decide +kernel
theorem dX0_gatherNames_55 : decode cX0_gatherNames 55 = .ok (.if_icmp .ne 14, 3) := by decide +kernel
theorem dX0_gatherNames_58 : decode cX0_gatherNames 58 = .ok (.aload_n 0, 1) := by decide +kernel
theorem dX0_gatherNames_59 : decode cX0_gatherNames 59 = .ok (.iload_n 3, 1) := by decide +kernel
theorem dX0_gatherNames_60 : decode cX0_gatherNames 60 = .ok (.iconst 1, 1) := by decide +kernel
theorem dX0_gatherNames_61 : decode cX0_gatherNames 61 = .ok (.iadd, 1) := by decide +kernel
theorem dX0_gatherNames_62 : decode cX0_gatherNames 62 = .ok (.iload_n 2, 1) := by decide +kernel
theorem dX0_gatherNames_63 : decode cX0_gatherNames 63 = .ok (.invokevirtual 86, 3) := by decide +kernel
theorem dX0_gatherNames_66 : decode cX0_gatherNames 66 = .ok (.iinc 2 1, 3) := by decide +kernel
theorem dX0_gatherNames_69 : decode cX0_gatherNames 69 = .ok (.iinc 3 1, 3) := by decide +kernel
theorem dX0_gatherNames_72 : decode cX0_gatherNames 72 = .ok (.goto (-61), 3) := by decide +kernel
theorem dX0_gatherNames_75 : decode cX0_gatherNames 75 = .ok (.return_, 1) := by decide +kernel
theorem dX0_addOwn_0 : decode cX0_addOwn 0 = .ok (.aload_n 0, 1) := by decide +kernel
theorem dX0_addOwn_1 : decode cX0_addOwn 1 = .ok (.getfield 28, 3) := by decide +kernel
theorem dX0_addOwn_4 : decode cX0_addOwn 4 = .ok (.ifCond .lt 59, 3) := by decide +kernel
theorem dX0_addOwn_7 : decode cX0_addOwn 7 = .ok (.aload_n 0, 1) := by decide +kernel
theorem dX0_addOwn_8 : decode cX0_addOwn 8 = .ok (.getfield 28, 3) := by decide +kernel
theorem dX0_addOwn_11 : decode cX0_addOwn 11 = .ok (.bipush 20, 2) := by decide +kernel
theorem dX0_addOwn_13 : decode cX0_addOwn 13 = .ok (.if_icmp .ge 50, 3) := by decide +kernel
theorem dX0_addOwn_16 : decode cX0_addOwn 16 = .ok (.aload_n 0, 1) := by decide +kernel
theorem dX0_addOwn_17 : decode cX0_addOwn 17 = .ok (.getfield 11, 3) := by decide +kernel
theorem dX0_addOwn_20 : decode cX0_addOwn 20 = .ok (.aload_n 0, 1) := by decide +kernel
theorem dX0_addOwn_21 : decode cX0_addOwn 21 = .ok (.getfield 28, 3) := by decide +kernel
theorem dX0_addOwn_24 : decode cX0_addOwn 24 = .ok (.aload_n 0, 1) := by decide +kernel
theorem dX0_addOwn_25 : decode cX0_addOwn 25 = .ok (.getfield 32, 3) := by decide +kernel
theorem dX0_addOwn_28 : decode cX0_addOwn 28 = .ok (.iload_n 1, 1) := by decide +kernel
theorem dX0_addOwn_29 : decode cX0_addOwn 29 = .ok (.invokevirtual 89, 3) := by decide +kernel
theorem dX0_addOwn_32 : decode cX0_addOwn 32 = .ok (.lastore, 1) := by decide +kernel
theorem dX0_addOwn_33 : decode cX0_addOwn 33 = .ok (.aload_n 0, 1) := by decide +kernel
theorem dX0_addOwn_34 : decode cX0_addOwn 34 = .ok (.getfield 15, 3) := by decide +kernel
theorem dX0_addOwn_37 : decode cX0_addOwn 37 = .ok (.aload_n 0, 1) := by decide +kernel
theorem dX0_addOwn_38 : decode cX0_addOwn 38 = .ok (.getfield 28, 3) := by decide +kernel
theorem dX0_addOwn_41 : decode cX0_addOwn 41 = .ok (.iload_n 1, 1) := by decide +kernel
theorem dX0_addOwn_42 : decode cX0_addOwn 42 = .ok (.iastore, 1) := by decide +kernel
theorem dX0_addOwn_43 : decode cX0_addOwn 43 = .ok (.aload_n 0, 1) := by decide +kernel
theorem dX0_addOwn_44 : decode cX0_addOwn 44 = .ok (.getfield 19, 3) := by decide +kernel
theorem dX0_addOwn_47 : decode cX0_addOwn 47 = .ok (.aload_n 0, 1) := by decide +kernel
theorem dX0_addOwn_48 : decode cX0_addOwn 48 = .ok (.getfield 28, 3) := by decide +kernel
theorem dX0_addOwn_51 : decode cX0_addOwn 51 = .ok (.iload_n 2, 1) := by decide +kernel
theorem dX0_addOwn_52 : decode cX0_addOwn 52 = .ok (.iastore, 1) := by decide +kernel
theorem dX0_addOwn_53 : decode cX0_addOwn 53 = .ok (.aload_n 0, 1) := by decide +kernel
theorem dX0_addOwn_54 : decode cX0_addOwn 54 = .ok (.dup, 1) := by decide +kernel
theorem dX0_addOwn_55 : decode cX0_addOwn 55 = .ok (.getfield 28, 3) := by decide +kernel
theorem dX0_addOwn_58 : decode cX0_addOwn 58 = .ok (.iconst 1, 1) := by decide +kernel
theorem dX0_addOwn_59 : decode cX0_addOwn 59 = .ok (.iadd, 1) := by decide +kernel
theorem dX0_addOwn_60 : decode cX0_addOwn 60 = .ok (.putfield 28, 3) := by decide +kernel
theorem dX0_addOwn_63 : decode cX0_addOwn 63 = .ok (.return_, 1) := by decide +kernel
theorem dX0_gatherLinks_0 : decode cX0_gatherLinks 0 = .ok (.aload_n 0, 1) := by decide +kernel
theorem dX0_gatherLinks_1 : decode cX0_gatherLinks 1 = .ok (.getfield 22, 3) := by decide +kernel
theorem dX0_gatherLinks_4 : decode cX0_gatherLinks 4 = .ok (.iconst 0, 1) := by decide +kernel
theorem dX0_gatherLinks_5 : decode cX0_gatherLinks 5 = .ok (.invokestatic 93, 3) := by decide +kernel
theorem dX0_gatherLinks_8 : decode cX0_gatherLinks 8 = .ok (.aload_n 0, 1) := by decide +kernel
theorem dX0_gatherLinks_9 : decode cX0_gatherLinks 9 = .ok (.getfield 25, 3) := by decide +kernel
theorem dX0_gatherLinks_12 : decode cX0_gatherLinks 12 = .ok (.iconst 0, 1) := by decide +kernel
theorem dX0_gatherLinks_13 : decode cX0_gatherLinks 13 = .ok (.invokestatic 93, 3) := by decide +kernel
theorem dX0_gatherLinks_16 : decode cX0_gatherLinks 16 = .ok (.iconst 0, 1) := by decide +kernel
theorem dX0_gatherLinks_17 : decode cX0_gatherLinks 17 = .ok (.istore_n 1, 1) := by decide +kernel
theorem dX0_gatherLinks_18 : decode cX0_gatherLinks 18 = .ok (.iload_n 1, 1) := by decide +kernel
theorem dX0_gatherLinks_19 : decode cX0_gatherLinks 19 = .ok (.aload_n 0, 1) := by decide +kernel
theorem dX0_gatherLinks_20 : decode cX0_gatherLinks 20 = .ok (.getfield 32, 3) := by decide +kernel
theorem dX0_gatherLinks_23 : decode cX0_gatherLinks 23 = .ok (.getfield 42, 3) := by decide +kernel
theorem dX0_gatherLinks_26 : decode cX0_gatherLinks 26 = .ok (.if_icmp .ge 44, 3) := by decide +kernel
theorem dX0_gatherLinks_29 : decode cX0_gatherLinks 29 = .ok (.aload_n 0, 1) := by decide +kernel
theorem dX0_gatherLinks_30 : decode cX0_gatherLinks 30 = .ok (.getfield 32, 3) := by decide +kernel
theorem dX0_gatherLinks_33 : decode cX0_gatherLinks 33 = .ok (.iload_n 1, 1) := by decide +kernel
theorem dX0_gatherLinks_34 : decode cX0_gatherLinks 34 = .ok (.invokevirtual 70, 3) := by decide +kernel
theorem dX0_gatherLinks_37 : decode cX0_gatherLinks 37 = .ok (.iconst 2, 1) := by decide +kernel
theorem dX0_gatherLinks_38 : decode cX0_gatherLinks 38 = .ok (.if_icmp .ne 26, 3) := by decide +kernel
theorem dX0_gatherLinks_41 : decode cX0_gatherLinks 41 = .ok (.aload_n 0, 1) := by decide +kernel
theorem dX0_gatherLinks_42 : decode cX0_gatherLinks 42 = .ok (.getfield 22, 3) := by decide +kernel
theorem dX0_gatherLinks_45 : decode cX0_gatherLinks 45 = .ok (.aload_n 0, 1) := by decide +kernel
theorem dX0_gatherLinks_46 : decode cX0_gatherLinks 46 = .ok (.iload_n 1, 1) := by decide +kernel
theorem dX0_gatherLinks_47 : decode cX0_gatherLinks 47 = .ok (.iconst 1, 1) := by decide +kernel
theorem dX0_gatherLinks_48 : decode cX0_gatherLinks 48 = .ok (.iadd, 1) := by decide +kernel
theorem dX0_gatherLinks_49 : decode cX0_gatherLinks 49 = .ok (.iconst 1, 1) := by decide +kernel
theorem dX0_gatherLinks_50 : decode cX0_gatherLinks 50 = .ok (.invokevirtual 78, 3) := by decide +kernel
theorem dX0_gatherLinks_53 : decode cX0_gatherLinks 53 = .ok (.aload_n 0, 1) := by decide +kernel
theorem dX0_gatherLinks_54 : decode cX0_gatherLinks 54 = .ok (.iload_n 1, 1) := by decide +kernel
theorem dX0_gatherLinks_55 : decode cX0_gatherLinks 55 = .ok (.iconst 2, 1) := by decide +kernel
theorem dX0_gatherLinks_56 : decode cX0_gatherLinks 56 = .ok (.iadd, 1) := by decide +kernel
theorem dX0_gatherLinks_57 : decode cX0_gatherLinks 57 = .ok (.iconst 1, 1) := by decide +kernel
theorem dX0_gatherLinks_58 : decode cX0_gatherLinks 58 = .ok (.invokevirtual 78, 3) := by decide +kernel
theorem dX0_gatherLinks_61 : decode cX0_gatherLinks 61 = .ok (.invokestatic 99, 3) := by decide +kernel
theorem dX0_gatherLinks_64 : decode cX0_gatherLinks 64 = .ok (.iinc 1 1, 3) := by decide +kernel
theorem dX0_gatherLinks_67 : decode cX0_gatherLinks 67 = .ok (.goto (-49), 3) := by decide +kernel
theorem dX0_gatherLinks_70 : decode cX0_gatherLinks 70 = .ok (.return_, 1) := by decide +kernel
theorem dX0_checkLine_0 : decode cX0_checkLine 0 = .ok (.aload_n 0, 1) := by decide +kernel
theorem dX0_checkLine_1 : decode cX0_checkLine 1 = .ok (.getfield 32, 3) := by decide +kernel
theorem dX0_checkLine_4 : decode cX0_checkLine 4 = .ok (.iload_n 1, 1) := by decide +kernel
theorem dX0_checkLine_5 : decode cX0_checkLine 5 = .ok (.invokevirtual 70, 3) := by decide +kernel
theorem dX0_checkLine_8 : decode cX0_checkLine 8 = .ok (.tableswitch 142 1 8 #[48, 58, 66, 142, 142, 83, 111, 139], 48) := by decide +kernel
theorem dX0_checkLine_56 : decode cX0_checkLine 56 = .ok (.aload_n 0, 1) := by decide +kernel
theorem dX0_checkLine_57 : decode cX0_checkLine 57 = .ok (.iload_n 1, 1) := by decide +kernel
theorem dX0_checkLine_58 : decode cX0_checkLine 58 = .ok (.iconst 1, 1) := by decide +kernel
theorem dX0_checkLine_59 : decode cX0_checkLine 59 = .ok (.iadd, 1) := by decide +kernel
theorem dX0_checkLine_60 : decode cX0_checkLine 60 = .ok (.invokevirtual 103, 3) := by decide +kernel
theorem dX0_checkLine_63 : decode cX0_checkLine 63 = .ok (.goto 112, 3) := by decide +kernel
theorem dX0_checkLine_66 : decode cX0_checkLine 66 = .ok (.aload_n 0, 1) := by decide +kernel
theorem dX0_checkLine_67 : decode cX0_checkLine 67 = .ok (.iload_n 1, 1) := by decide +kernel
theorem dX0_checkLine_68 : decode cX0_checkLine 68 = .ok (.invokevirtual 106, 3) := by decide +kernel
theorem dX0_checkLine_71 : decode cX0_checkLine 71 = .ok (.goto 104, 3) := by decide +kernel
theorem dX0_checkLine_74 : decode cX0_checkLine 74 = .ok (.aload_n 0, 1) := by decide +kernel
theorem dX0_checkLine_75 : decode cX0_checkLine 75 = .ok (.iload_n 1, 1) := by decide +kernel
theorem dX0_checkLine_76 : decode cX0_checkLine 76 = .ok (.iconst 1, 1) := by decide +kernel
theorem dX0_checkLine_77 : decode cX0_checkLine 77 = .ok (.iadd, 1) := by decide +kernel
theorem dX0_checkLine_78 : decode cX0_checkLine 78 = .ok (.invokevirtual 103, 3) := by decide +kernel
theorem dX0_checkLine_81 : decode cX0_checkLine 81 = .ok (.aload_n 0, 1) := by decide +kernel
theorem dX0_checkLine_82 : decode cX0_checkLine 82 = .ok (.iload_n 1, 1) := by decide +kernel
theorem dX0_checkLine_83 : decode cX0_checkLine 83 = .ok (.iconst 2, 1) := by decide +kernel
theorem dX0_checkLine_84 : decode cX0_checkLine 84 = .ok (.iadd, 1) := by decide +kernel
theorem dX0_checkLine_85 : decode cX0_checkLine 85 = .ok (.invokevirtual 109, 3) := by decide +kernel
theorem dX0_checkLine_88 : decode cX0_checkLine 88 = .ok (.goto 87, 3) := by decide +kernel
theorem dX0_checkLine_91 : decode cX0_checkLine 91 = .ok (.aload_n 0, 1) := by decide +kernel
theorem dX0_checkLine_92 : decode cX0_checkLine 92 = .ok (.aload_n 0, 1) := by decide +kernel
theorem dX0_checkLine_93 : decode cX0_checkLine 93 = .ok (.iload_n 1, 1) := by decide +kernel
theorem dX0_checkLine_94 : decode cX0_checkLine 94 = .ok (.iconst 1, 1) := by decide +kernel
theorem dX0_checkLine_95 : decode cX0_checkLine 95 = .ok (.iadd, 1) := by decide +kernel
theorem dX0_checkLine_96 : decode cX0_checkLine 96 = .ok (.iconst 1, 1) := by decide +kernel
theorem dX0_checkLine_97 : decode cX0_checkLine 97 = .ok (.invokevirtual 78, 3) := by decide +kernel
theorem dX0_checkLine_100 : decode cX0_checkLine 100 = .ok (.iconst (-1), 1) := by decide +kernel
theorem dX0_checkLine_101 : decode cX0_checkLine 101 = .ok (.if_icmp .ne 7, 3) := by decide +kernel
theorem dX0_checkLine_104 : decode cX0_checkLine 104 = .ok (.iconst 1, 1) := by decide +kernel
theorem dX0_checkLine_105 : decode cX0_checkLine 105 = .ok (.goto 4, 3) := by decide +kernel
theorem dX0_checkLine_108 : decode cX0_checkLine 108 = .ok (.iconst 0, 1) := by decide +kernel
theorem dX0_checkLine_109 : decode cX0_checkLine 109 = .ok (.iconst 4, 1) := by decide +kernel
theorem dX0_checkLine_110 : decode cX0_checkLine 110 = .ok (.iload_n 1, 1) := by decide +kernel
theorem dX0_checkLine_111 : decode cX0_checkLine 111 = .ok (.iconst 1, 1) := by decide +kernel
theorem dX0_checkLine_112 : decode cX0_checkLine 112 = .ok (.iadd, 1) := by decide +kernel
theorem dX0_checkLine_113 : decode cX0_checkLine 113 = .ok (.invokevirtual 112, 3) := by decide +kernel
theorem dX0_checkLine_116 : decode cX0_checkLine 116 = .ok (.goto 59, 3) := by decide +kernel
theorem dX0_checkLine_119 : decode cX0_checkLine 119 = .ok (.aload_n 0, 1) := by decide +kernel
theorem dX0_checkLine_120 : decode cX0_checkLine 120 = .ok (.aload_n 0, 1) := by decide +kernel
theorem dX0_checkLine_121 : decode cX0_checkLine 121 = .ok (.iload_n 1, 1) := by decide +kernel
theorem dX0_checkLine_122 : decode cX0_checkLine 122 = .ok (.iconst 1, 1) := by decide +kernel
theorem dX0_checkLine_123 : decode cX0_checkLine 123 = .ok (.iadd, 1) := by decide +kernel
theorem dX0_checkLine_124 : decode cX0_checkLine 124 = .ok (.bipush 99, 2) := by decide +kernel
theorem dX0_checkLine_126 : decode cX0_checkLine 126 = .ok (.invokevirtual 116, 3) := by decide +kernel
theorem dX0_checkLine_129 : decode cX0_checkLine 129 = .ok (.ifCond .ne 7, 3) := by decide +kernel
theorem dX0_checkLine_132 : decode cX0_checkLine 132 = .ok (.iconst 1, 1) := by decide +kernel
theorem dX0_checkLine_133 : decode cX0_checkLine 133 = .ok (.goto 4, 3) := by decide +kernel
theorem dX0_checkLine_136 : decode cX0_checkLine 136 = .ok (.iconst 0, 1) := by decide +kernel
theorem dX0_checkLine_137 : decode cX0_checkLine 137 = .ok (.iconst 5, 1) := by decide +kernel
theorem dX0_checkLine_138 : decode cX0_checkLine 138 = .ok (.iload_n 1, 1) := by decide +kernel
theorem dX0_checkLine_139 : decode cX0_checkLine 139 = .ok (.iconst 1, 1) := by decide +kernel
theorem dX0_checkLine_140 : decode cX0_checkLine 140 = .ok (.iadd, 1) := by decide +kernel
theorem dX0_checkLine_141 : decode cX0_checkLine 141 = .ok (.invokevirtual 112, 3) := by decide +kernel
theorem dX0_checkLine_144 : decode cX0_checkLine 144 = .ok (.goto 31, 3) := by decide +kernel
theorem dX0_checkLine_147 : decode cX0_checkLine 147 = .ok (.goto 28, 3) := by decide +kernel
theorem dX0_checkLine_150 : decode cX0_checkLine 150 = .ok (.aload_n 0, 1) := by decide +kernel
theorem dX0_checkLine_151 : decode cX0_checkLine 151 = .ok (.aload_n 0, 1) := by decide +kernel
theorem dX0_checkLine_152 : decode cX0_checkLine 152 = .ok (.iload_n 1, 1) := by decide +kernel
theorem dX0_checkLine_153 : decode cX0_checkLine 153 = .ok (.iconst 1, 1) := by decide +kernel
theorem dX0_checkLine_154 : decode cX0_checkLine 154 = .ok (.iadd, 1) := by decide +kernel
theorem dX0_checkLine_155 : decode cX0_checkLine 155 = .ok (.iconst 3, 1) := by decide +kernel
theorem dX0_checkLine_156 : decode cX0_checkLine 156 = .ok (.invokevirtual 78, 3) := by decide +kernel
theorem dX0_checkLine_159 : decode cX0_checkLine 159 = .ok (.iconst (-1), 1) := by decide +kernel
theorem dX0_checkLine_160 : decode cX0_checkLine 160 = .ok (.if_icmp .ne 7, 3) := by decide +kernel
theorem dX0_checkLine_163 : decode cX0_checkLine 163 = .ok (.iconst 1, 1) := by decide +kernel
theorem dX0_checkLine_164 : decode cX0_checkLine 164 = .ok (.goto 4, 3) := by decide +kernel
theorem dX0_checkLine_167 : decode cX0_checkLine 167 = .ok (.iconst 0, 1) := by decide +kernel
theorem dX0_checkLine_168 : decode cX0_checkLine 168 = .ok (.iconst 4, 1) := by decide +kernel
theorem dX0_checkLine_169 : decode cX0_checkLine 169 = .ok (.iload_n 1, 1) := by decide +kernel
theorem dX0_checkLine_170 : decode cX0_checkLine 170 = .ok (.iconst 1, 1) := by decide +kernel
theorem dX0_checkLine_171 : decode cX0_checkLine 171 = .ok (.iadd, 1) := by decide +kernel
theorem dX0_checkLine_172 : decode cX0_checkLine 172 = .ok (.invokevirtual 112, 3) := by decide +kernel
theorem dX0_checkLine_175 : decode cX0_checkLine 175 = .ok (.return_, 1) := by decide +kernel
theorem dX0_checkOwn_0 : decode cX0_checkOwn 0 = .ok (.aload_n 0, 1) := by decide +kernel
theorem dX0_checkOwn_1 : decode cX0_checkOwn 1 = .ok (.iload_n 1, 1) := by decide +kernel
theorem dX0_checkOwn_2 : decode cX0_checkOwn 2 = .ok (.invokevirtual 120, 3) := by decide +kernel
theorem dX0_checkOwn_5 : decode cX0_checkOwn 5 = .ok (.istore_n 2, 1) := by decide +kernel
theorem dX0_checkOwn_6 : decode cX0_checkOwn 6 = .ok (.aload_n 0, 1) := by decide +kernel
theorem dX0_checkOwn_7 : decode cX0_checkOwn 7 = .ok (.aload_n 0, 1) := by decide +kernel
theorem dX0_checkOwn_8 : decode cX0_checkOwn 8 = .ok (.iload_n 2, 1) := by decide +kernel
theorem dX0_checkOwn_9 : decode cX0_checkOwn 9 = .ok (.invokevirtual 123, 3) := by decide +kernel
theorem dX0_checkOwn_12 : decode cX0_checkOwn 12 = .ok (.ifCond .eq 17, 3) := by decide +kernel
theorem dX0_checkOwn_15 : decode cX0_checkOwn 15 = .ok (.aload_n 0, 1) := by decide +kernel
theorem dX0_checkOwn_16 : decode cX0_checkOwn 16 = .ok (.getfield 15, 3) := by decide +kernel
theorem dX0_checkOwn_19 : decode cX0_checkOwn 19 = .ok (.iload_n 2, 1) := by decide +kernel
theorem dX0_checkOwn_20 : decode cX0_checkOwn 20 = .ok (.iaload, 1) := by decide +kernel
theorem dX0_checkOwn_21 : decode cX0_checkOwn 21 = .ok (.iload_n 1, 1) := by decide +kernel
theorem dX0_checkOwn_22 : decode cX0_checkOwn 22 = .ok (.if_icmp .ge 7, 3) := by decide +kernel
theorem dX0_checkOwn_25 : decode cX0_checkOwn 25 = .ok (.iconst 1, 1) := by decide +kernel
theorem dX0_checkOwn_26 : decode cX0_checkOwn 26 = .ok (.goto 4, 3) := by decide +kernel
theorem dX0_checkOwn_29 : decode cX0_checkOwn 29 = .ok (.iconst 0, 1) := by decide +kernel
theorem dX0_checkOwn_30 : decode cX0_checkOwn 30 = .ok (.iconst 3, 1) := by decide +kernel
theorem dX0_checkOwn_31 : decode cX0_checkOwn 31 = .ok (.iload_n 1, 1) := by decide +kernel
theorem dX0_checkOwn_32 : decode cX0_checkOwn 32 = .ok (.invokevirtual 112, 3) := by decide +kernel
theorem dX0_checkOwn_35 : decode cX0_checkOwn 35 = .ok (.return_, 1) := by decide +kernel
theorem dX0_checkLink_0 : decode cX0_checkLink 0 = .ok (.aload_n 0, 1) := by decide +kernel
theorem dX0_checkLink_1 : decode cX0_checkLink 1 = .ok (.iload_n 1, 1) := by decide +kernel
theorem dX0_checkLink_2 : decode cX0_checkLink 2 = .ok (.iconst 1, 1) := by decide +kernel
theorem dX0_checkLink_3 : decode cX0_checkLink 3 = .ok (.iadd, 1) := by decide +kernel
theorem dX0_checkLink_4 : decode cX0_checkLink 4 = .ok (.iconst 1, 1) := by decide +kernel
theorem dX0_checkLink_5 : decode cX0_checkLink 5 = .ok (.invokevirtual 78, 3) := by decide +kernel
theorem dX0_checkLink_8 : decode cX0_checkLink 8 = .ok (.istore_n 2, 1) := by decide +kernel
theorem dX0_checkLink_9 : decode cX0_checkLink 9 = .ok (.aload_n 0, 1) := by decide +kernel
theorem dX0_checkLink_10 : decode cX0_checkLink 10 = .ok (.iload_n 1, 1) := by decide +kernel
theorem dX0_checkLink_11 : decode cX0_checkLink 11 = .ok (.iconst 2, 1) := by decide +kernel
theorem dX0_checkLink_12 : decode cX0_checkLink 12 = .ok (.iadd, 1) := by decide +kernel
theorem dX0_checkLink_13 : decode cX0_checkLink 13 = .ok (.iconst 1, 1) := by decide +kernel
theorem dX0_checkLink_14 : decode cX0_checkLink 14 = .ok (.invokevirtual 78, 3) := by decide +kernel
theorem dX0_checkLink_17 : decode cX0_checkLink 17 = .ok (.istore_n 3, 1) := by decide +kernel
theorem dX0_checkLink_18 : decode cX0_checkLink 18 = .ok (.aload_n 0, 1) := by decide +kernel
theorem dX0_checkLink_19 : decode cX0_checkLink 19 = .ok (.iload_n 2, 1) := by decide +kernel
theorem dX0_checkLink_20 : decode cX0_checkLink 20 = .ok (.iconst (-1), 1) := by decide +kernel
theorem dX0_checkLink_21 : decode cX0_checkLink 21 = .ok (.if_icmp .ne 7, 3) := by decide +kernel
theorem dX0_checkLink_24 : decode cX0_checkLink 24 = .ok (.iconst 1, 1) := by decide +kernel
theorem dX0_checkLink_25 : decode cX0_checkLink 25 = .ok (.goto 4, 3) := by decide +kernel
theorem dX0_checkLink_28 : decode cX0_checkLink 28 = .ok (.iconst 0, 1) := by decide +kernel
theorem dX0_checkLink_29 : decode cX0_checkLink 29 = .ok (.iconst 4, 1) := by decide +kernel
theorem dX0_checkLink_30 : decode cX0_checkLink 30 = .ok (.iload_n 1, 1) := by decide +kernel
theorem dX0_checkLink_31 : decode cX0_checkLink 31 = .ok (.iconst 1, 1) := by decide +kernel
theorem dX0_checkLink_32 : decode cX0_checkLink 32 = .ok (.iadd, 1) := by decide +kernel
theorem dX0_checkLink_33 : decode cX0_checkLink 33 = .ok (.invokevirtual 112, 3) := by decide +kernel
theorem dX0_checkLink_36 : decode cX0_checkLink 36 = .ok (.aload_n 0, 1) := by decide +kernel
theorem dX0_checkLink_37 : decode cX0_checkLink 37 = .ok (.iload_n 2, 1) := by decide +kernel
theorem dX0_checkLink_38 : decode cX0_checkLink 38 = .ok (.iload_n 3, 1) := by decide +kernel
theorem dX0_checkLink_39 : decode cX0_checkLink 39 = .ok (.if_icmp .eq 15, 3) := by decide +kernel
theorem dX0_checkLink_42 : decode cX0_checkLink 42 = .ok (.aload_n 0, 1) := by decide +kernel
theorem dX0_checkLink_43 : decode cX0_checkLink 43 = .ok (.getfield 25, 3) := by decide +kernel
theorem dX0_checkLink_46 : decode cX0_checkLink 46 = .ok (.iload_n 2, 1) := by decide +kernel
theorem dX0_checkLink_47 : decode cX0_checkLink 47 = .ok (.iload_n 3, 1) := by decide +kernel
theorem dX0_checkLink_48 : decode cX0_checkLink 48 = .ok (.invokestatic 126, 3) := by decide +kernel
theorem dX0_checkLink_51 : decode cX0_checkLink 51 = .ok (.ifCond .eq 7, 3) := by decide +kernel
theorem dX0_checkLink_54 : decode cX0_checkLink 54 = .ok (.iconst 1, 1) := by decide +kernel
theorem dX0_checkLink_55 : decode cX0_checkLink 55 = .ok (.goto 4, 3) := by decide +kernel
theorem dX0_checkLink_58 : decode cX0_checkLink 58 = .ok (.iconst 0, 1) := by decide +kernel
theorem dX0_checkLink_59 : decode cX0_checkLink 59 = .ok (.iconst 3, 1) := by decide +kernel
theorem dX0_checkLink_60 : decode cX0_checkLink 60 = .ok (.iload_n 1, 1) := by decide +kernel
theorem dX0_checkLink_61 : decode cX0_checkLink 61 = .ok (.iconst 2, 1) := by decide +kernel
theorem dX0_checkLink_62 : decode cX0_checkLink 62 = .ok (.iadd, 1) := by decide +kernel
theorem dX0_checkLink_63 : decode cX0_checkLink 63 = .ok (.invokevirtual 112, 3) := by decide +kernel
theorem dX0_checkLink_66 : decode cX0_checkLink 66 = .ok (.aload_n 0, 1) := by decide +kernel
theorem dX0_checkLink_67 : decode cX0_checkLink 67 = .ok (.iload_n 3, 1) := by decide +kernel
theorem dX0_checkLink_68 : decode cX0_checkLink 68 = .ok (.iconst (-1), 1) := by decide +kernel
theorem dX0_checkLink_69 : decode cX0_checkLink 69 = .ok (.if_icmp .ne 7, 3) := by decide +kernel
theorem dX0_checkLink_72 : decode cX0_checkLink 72 = .ok (.iconst 1, 1) := by decide +kernel
theorem dX0_checkLink_73 : decode cX0_checkLink 73 = .ok (.goto 4, 3) := by decide +kernel
theorem dX0_checkLink_76 : decode cX0_checkLink 76 = .ok (.iconst 0, 1) := by decide +kernel
theorem dX0_checkLink_77 : decode cX0_checkLink 77 = .ok (.iconst 4, 1) := by decide +kernel
theorem dX0_checkLink_78 : decode cX0_checkLink 78 = .ok (.iload_n 1, 1) := by decide +kernel
theorem dX0_checkLink_79 : decode cX0_checkLink 79 = .ok (.iconst 2, 1) := by decide +kernel
theorem dX0_checkLink_80 : decode cX0_checkLink 80 = .ok (.iadd, 1) := by decide +kernel
theorem dX0_checkLink_81 : decode cX0_checkLink 81 = .ok (.invokevirtual 112, 3) := by decide +kernel
theorem dX0_checkLink_84 : decode cX0_checkLink 84 = .ok (.aload_n 0, 1) := by decide +kernel
theorem dX0_checkLink_85 : decode cX0_checkLink 85 = .ok (.aload_n 0, 1) := by decide +kernel
theorem dX0_checkLink_86 : decode cX0_checkLink 86 = .ok (.iload_n 1, 1) := by decide +kernel
theorem dX0_checkLink_87 : decode cX0_checkLink 87 = .ok (.iconst 3, 1) := by decide +kernel
theorem dX0_checkLink_88 : decode cX0_checkLink 88 = .ok (.iadd, 1) := by decide +kernel
theorem dX0_checkLink_89 : decode cX0_checkLink 89 = .ok (.bipush 9, 2) := by decide +kernel
theorem dX0_checkLink_91 : decode cX0_checkLink 91 = .ok (.invokevirtual 116, 3) := by decide +kernel
theorem dX0_checkLink_94 : decode cX0_checkLink 94 = .ok (.ifCond .ne 7, 3) := by decide +kernel
theorem dX0_checkLink_97 : decode cX0_checkLink 97 = .ok (.iconst 1, 1) := by decide +kernel
theorem dX0_checkLink_98 : decode cX0_checkLink 98 = .ok (.goto 4, 3) := by decide +kernel
theorem dX0_checkLink_101 : decode cX0_checkLink 101 = .ok (.iconst 0, 1) := by decide +kernel
theorem dX0_checkLink_102 : decode cX0_checkLink 102 = .ok (.iconst 5, 1) := by decide +kernel
theorem dX0_checkLink_103 : decode cX0_checkLink 103 = .ok (.iload_n 1, 1) := by decide +kernel
theorem dX0_checkLink_104 : decode cX0_checkLink 104 = .ok (.iconst 3, 1) := by decide +kernel
theorem dX0_checkLink_105 : decode cX0_checkLink 105 = .ok (.iadd, 1) := by decide +kernel
theorem dX0_checkLink_106 : decode cX0_checkLink 106 = .ok (.invokevirtual 112, 3) := by decide +kernel
theorem dX0_checkLink_109 : decode cX0_checkLink 109 = .ok (.aload_n 0, 1) := by decide +kernel
theorem dX0_checkLink_110 : decode cX0_checkLink 110 = .ok (.getfield 25, 3) := by decide +kernel
theorem dX0_checkLink_113 : decode cX0_checkLink 113 = .ok (.iload_n 2, 1) := by decide +kernel
theorem dX0_checkLink_114 : decode cX0_checkLink 114 = .ok (.iload_n 3, 1) := by decide +kernel
theorem dX0_checkLink_115 : decode cX0_checkLink 115 = .ok (.invokestatic 99, 3) := by decide +kernel
theorem dX0_checkLink_118 : decode cX0_checkLink 118 = .ok (.return_, 1) := by decide +kernel
theorem dX0_checkRow_0 : decode cX0_checkRow 0 = .ok (.iconst (-1), 1) := by decide +kernel
theorem dX0_checkRow_1 : decode cX0_checkRow 1 = .ok (.istore_n 2, 1) := by decide +kernel
theorem dX0_checkRow_2 : decode cX0_checkRow 2 = .ok (.iconst 0, 1) := by decide +kernel
theorem dX0_checkRow_3 : decode cX0_checkRow 3 = .ok (.istore_n 3, 1) := by decide +kernel
theorem dX0_checkRow_4 : decode cX0_checkRow 4 = .ok (.iconst 0, 1) := by decide +kernel
theorem dX0_checkRow_5 : decode cX0_checkRow 5 = .ok (.istore 4, 2) := by decide +kernel
theorem dX0_checkRow_7 : decode cX0_checkRow 7 = .ok (.iload 4, 2) := by decide +kernel
theorem dX0_checkRow_9 : decode cX0_checkRow 9 = .ok (.bipush 8, 2) := by decide +kernel
theorem dX0_checkRow_11 : decode cX0_checkRow 11 = .ok (.if_icmp .ge 127, 3) := by decide +kernel
theorem dX0_checkRow_14 : decode cX0_checkRow 14 = .ok (.aload_n 0, 1) := by decide +kernel
theorem dX0_checkRow_15 : decode cX0_checkRow 15 = .ok (.getfield 32, 3) := by decide +kernel
theorem dX0_checkRow_18 : decode cX0_checkRow 18 = .ok (.iload_n 1, 1) := by decide +kernel
theorem dX0_checkRow_19 : decode cX0_checkRow 19 = .ok (.iload 4, 2) := by decide +kernel
theorem dX0_checkRow_21 : decode cX0_checkRow 21 = .ok (.iadd, 1) := by decide +kernel
theorem dX0_checkRow_22 : decode cX0_checkRow 22 = .ok (.invokevirtual 70, 3) := by decide +kernel
theorem dX0_checkRow_25 : decode cX0_checkRow 25 = .ok (.bipush 9, 2) := by decide +kernel
theorem dX0_checkRow_27 : decode cX0_checkRow 27 = .ok (.if_icmp .ne 111, 3) := by decide +kernel
theorem dX0_checkRow_30 : decode cX0_checkRow 30 = .ok (.aload_n 0, 1) := by decide +kernel
theorem dX0_checkRow_31 : decode cX0_checkRow 31 = .ok (.iload_n 1, 1) := by decide +kernel
theorem dX0_checkRow_32 : decode cX0_checkRow 32 = .ok (.iload 4, 2) := by decide +kernel
theorem dX0_checkRow_34 : decode cX0_checkRow 34 = .ok (.iadd, 1) := by decide +kernel
theorem dX0_checkRow_35 : decode cX0_checkRow 35 = .ok (.iconst 1, 1) := by decide +kernel
theorem dX0_checkRow_36 : decode cX0_checkRow 36 = .ok (.invokevirtual 78, 3) := by decide +kernel
theorem dX0_checkRow_39 : decode cX0_checkRow 39 = .ok (.istore 5, 2) := by decide +kernel
theorem dX0_checkRow_41 : decode cX0_checkRow 41 = .ok (.aload_n 0, 1) := by decide +kernel
theorem dX0_checkRow_42 : decode cX0_checkRow 42 = .ok (.iload 5, 2) := by decide +kernel
theorem dX0_checkRow_44 : decode cX0_checkRow 44 = .ok (.iconst (-1), 1) := by decide +kernel
theorem dX0_checkRow_45 : decode cX0_checkRow 45 = .ok (.if_icmp .ne 7, 3) := by decide +kernel
theorem dX0_checkRow_48 : decode cX0_checkRow 48 = .ok (.iconst 1, 1) := by decide +kernel
theorem dX0_checkRow_49 : decode cX0_checkRow 49 = .ok (.goto 4, 3) := by decide +kernel
theorem dX0_checkRow_52 : decode cX0_checkRow 52 = .ok (.iconst 0, 1) := by decide +kernel
theorem dX0_checkRow_53 : decode cX0_checkRow 53 = .ok (.iconst 4, 1) := by decide +kernel
theorem dX0_checkRow_54 : decode cX0_checkRow 54 = .ok (.iload_n 1, 1) := by decide +kernel
theorem dX0_checkRow_55 : decode cX0_checkRow 55 = .ok (.iload 4, 2) := by decide +kernel
theorem dX0_checkRow_57 : decode cX0_checkRow 57 = .ok (.iadd, 1) := by decide +kernel
theorem dX0_checkRow_58 : decode cX0_checkRow 58 = .ok (.invokevirtual 112, 3) := by decide +kernel
theorem dX0_checkRow_61 : decode cX0_checkRow 61 = .ok (.iload 5, 2) := by decide +kernel
theorem dX0_checkRow_63 : decode cX0_checkRow 63 = .ok (.iconst (-1), 1) := by decide +kernel
theorem dX0_checkRow_64 : decode cX0_checkRow 64 = .ok (.if_icmp .eq 65, 3) := by decide +kernel
theorem dX0_checkRow_67 : decode cX0_checkRow 67 = .ok (.aload_n 0, 1) := by decide +kernel
theorem dX0_checkRow_68 : decode cX0_checkRow 68 = .ok (.iload_n 3, 1) := by decide +kernel
theorem dX0_checkRow_69 : decode cX0_checkRow 69 = .ok (.iload 5, 2) := by decide +kernel
theorem dX0_checkRow_71 : decode cX0_checkRow 71 = .ok (.ishr, 1) := by decide +kernel
theorem dX0_checkRow_72 : decode cX0_checkRow 72 = .ok (.iconst 1, 1) := by decide +kernel
theorem dX0_checkRow_73 : decode cX0_checkRow 73 = .ok (.iand, 1) := by decide +kernel
theorem dX0_checkRow_74 : decode cX0_checkRow 74 = .ok (.ifCond .eq 7, 3) := by decide +kernel
theorem dX0_checkRow_77 : decode cX0_checkRow 77 = .ok (.iconst 1, 1) := by decide +kernel
theorem dX0_checkRow_78 : decode cX0_checkRow 78 = .ok (.goto 4, 3) := by decide +kernel
theorem dX0_checkRow_81 : decode cX0_checkRow 81 = .ok (.iconst 0, 1) := by decide +kernel
theorem dX0_checkRow_82 : decode cX0_checkRow 82 = .ok (.iconst 5, 1) := by decide +kernel
theorem dX0_checkRow_83 : decode cX0_checkRow 83 = .ok (.iload_n 1, 1) := by decide +kernel
theorem dX0_checkRow_84 : decode cX0_checkRow 84 = .ok (.iload 4, 2) := by decide +kernel
theorem dX0_checkRow_86 : decode cX0_checkRow 86 = .ok (.iadd, 1) := by decide +kernel
theorem dX0_checkRow_87 : decode cX0_checkRow 87 = .ok (.invokevirtual 112, 3) := by decide +kernel
theorem dX0_checkRow_90 : decode cX0_checkRow 90 = .ok (.aload_n 0, 1) := by decide +kernel
theorem dX0_checkRow_91 : decode cX0_checkRow 91 = .ok (.iload_n 2, 1) := by decide +kernel
theorem dX0_checkRow_92 : decode cX0_checkRow 92 = .ok (.iconst (-1), 1) := by decide +kernel
theorem dX0_checkRow_93 : decode cX0_checkRow 93 = .ok (.if_icmp .eq 20, 3) := by decide +kernel
theorem dX0_checkRow_96 : decode cX0_checkRow 96 = .ok (.aload_n 0, 1) := by decide +kernel
theorem dX0_checkRow_97 : decode cX0_checkRow 97 = .ok (.getfield 22, 3) := by decide +kernel
theorem dX0_checkRow_100 : decode cX0_checkRow 100 = .ok (.iload_n 2, 1) := by decide +kernel
theorem dX0_checkRow_101 : decode cX0_checkRow 101 = .ok (.iload 5, 2) := by decide +kernel
theorem dX0_checkRow_103 : decode cX0_checkRow 103 = .ok (.invokestatic 126, 3) := by decide +kernel
theorem dX0_checkRow_106 : decode cX0_checkRow 106 = .ok (.ifCond .ne 7, 3) := by decide +kernel
theorem dX0_checkRow_109 : decode cX0_checkRow 109 = .ok (.iconst 1, 1) := by decide +kernel
theorem dX0_checkRow_110 : decode cX0_checkRow 110 = .ok (.goto 4, 3) := by decide +kernel
theorem dX0_checkRow_113 : decode cX0_checkRow 113 = .ok (.iconst 0, 1) := by decide +kernel
theorem dX0_checkRow_114 : decode cX0_checkRow 114 = .ok (.iconst 5, 1) := by decide +kernel
theorem dX0_checkRow_115 : decode cX0_checkRow 115 = .ok (.iload_n 1, 1) := by decide +kernel
theorem dX0_checkRow_116 : decode cX0_checkRow 116 = .ok (.iload 4, 2) := by decide +kernel
theorem dX0_checkRow_118 : decode cX0_checkRow 118 = .ok (.iadd, 1) := by decide +kernel
theorem dX0_checkRow_119 : decode cX0_checkRow 119 = .ok (.invokevirtual 112, 3) := by decide +kernel
theorem dX0_checkRow_122 : decode cX0_checkRow 122 = .ok (.iload_n 3, 1) := by decide +kernel
theorem dX0_checkRow_123 : decode cX0_checkRow 123 = .ok (.iconst 1, 1) := by decide +kernel
theorem dX0_checkRow_124 : decode cX0_checkRow 124 = .ok (.iload 5, 2) := by decide +kernel
theorem dX0_checkRow_126 : decode cX0_checkRow 126 = .ok (.ishl, 1) := by decide +kernel
theorem dX0_checkRow_127 : decode cX0_checkRow 127 = .ok (.ior, 1) := by decide +kernel
theorem dX0_checkRow_128 : decode cX0_checkRow 128 = .ok (.istore_n 3, 1) := by decide +kernel
theorem dX0_checkRow_129 : decode cX0_checkRow 129 = .ok (.iload 5, 2) := by decide +kernel
theorem dX0_checkRow_131 : decode cX0_checkRow 131 = .ok (.istore_n 2, 1) := by decide +kernel
theorem dX0_checkRow_132 : decode cX0_checkRow 132 = .ok (.iinc 4 1, 3) := by decide +kernel
theorem dX0_checkRow_135 : decode cX0_checkRow 135 = .ok (.goto (-128), 3) := by decide +kernel
theorem dX0_checkRow_138 : decode cX0_checkRow 138 = .ok (.return_, 1) := by decide +kernel
theorem dX0_failIf_0 : decode cX0_failIf 0 = .ok (.iload_n 1, 1) := by decide +kernel
theorem dX0_failIf_1 : decode cX0_failIf 1 = .ok (.ifCond .eq 29, 3) := by decide +kernel
theorem dX0_failIf_4 : decode cX0_failIf 4 = .ok (.aload_n 0, 1) := by decide +kernel
theorem dX0_failIf_5 : decode cX0_failIf 5 = .ok (.getfield 32, 3) := by decide +kernel
theorem dX0_failIf_8 : decode cX0_failIf 8 = .ok (.getfield 47, 3) := by decide +kernel
theorem dX0_failIf_11 : decode cX0_failIf 11 = .ok (.ifCond .ne 19, 3) := by decide +kernel
theorem dX0_failIf_14 : decode cX0_failIf 14 = .ok (.aload_n 0, 1) := by decide +kernel
theorem dX0_failIf_15 : decode cX0_failIf 15 = .ok (.getfield 32, 3) := by decide +kernel
theorem dX0_failIf_18 : decode cX0_failIf 18 = .ok (.iload_n 2, 1) := by decide +kernel
theorem dX0_failIf_19 : decode cX0_failIf 19 = .ok (.aload_n 0, 1) := by decide +kernel
theorem dX0_failIf_20 : decode cX0_failIf 20 = .ok (.getfield 32, 3) := by decide +kernel
theorem dX0_failIf_23 : decode cX0_failIf 23 = .ok (.iload_n 3, 1) := by decide +kernel
theorem dX0_failIf_24 : decode cX0_failIf 24 = .ok (.invokevirtual 130, 3) := by decide +kernel
theorem dX0_failIf_27 : decode cX0_failIf 27 = .ok (.invokevirtual 133, 3) := by decide +kernel
theorem dX0_failIf_30 : decode cX0_failIf 30 = .ok (.return_, 1) := by decide +kernel
theorem dX0_isWithin_0 : decode cX0_isWithin 0 = .ok (.aload_n 0, 1) := by decide +kernel
theorem dX0_isWithin_1 : decode cX0_isWithin 1 = .ok (.getfield 32, 3) := by decide +kernel
theorem dX0_isWithin_4 : decode cX0_isWithin 4 = .ok (.iload_n 1, 1) := by decide +kernel
theorem dX0_isWithin_5 : decode cX0_isWithin 5 = .ok (.invokevirtual 89, 3) := by decide +kernel
theorem dX0_isWithin_8 : decode cX0_isWithin 8 = .ok (.lstore_n 3, 1) := by decide +kernel
theorem dX0_isWithin_9 : decode cX0_isWithin 9 = .ok (.lload_n 3, 1) := by decide +kernel
theorem dX0_isWithin_10 : decode cX0_isWithin 10 = .ok (.lconst 1, 1) := by decide +kernel
theorem dX0_isWithin_11 : decode cX0_isWithin 11 = .ok (.lcmp, 1) := by decide +kernel
theorem dX0_isWithin_12 : decode cX0_isWithin 12 = .ok (.ifCond .lt 14, 3) := by decide +kernel
theorem dX0_isWithin_15 : decode cX0_isWithin 15 = .ok (.lload_n 3, 1) := by decide +kernel
theorem dX0_isWithin_16 : decode cX0_isWithin 16 = .ok (.iload_n 2, 1) := by decide +kernel
theorem dX0_isWithin_17 : decode cX0_isWithin 17 = .ok (.i2l, 1) := by decide +kernel
theorem dX0_isWithin_18 : decode cX0_isWithin 18 = .ok (.lcmp, 1) := by decide +kernel
theorem dX0_isWithin_19 : decode cX0_isWithin 19 = .ok (.ifCond .gt 7, 3) := by decide +kernel
theorem dX0_isWithin_22 : decode cX0_isWithin 22 = .ok (.iconst 1, 1) := by decide +kernel
theorem dX0_isWithin_23 : decode cX0_isWithin 23 = .ok (.goto 4, 3) := by decide +kernel
theorem dX0_isWithin_26 : decode cX0_isWithin 26 = .ok (.iconst 0, 1) := by decide +kernel
theorem dX0_isWithin_27 : decode cX0_isWithin 27 = .ok (.ireturn, 1) := by decide +kernel
theorem dX0_isOwn_0 : decode cX0_isOwn 0 = .ok (.iload_n 1, 1) := by decide +kernel
theorem dX0_isOwn_1 : decode cX0_isOwn 1 = .ok (.ifCond .lt 21, 3) := by decide +kernel
theorem dX0_isOwn_4 : decode cX0_isOwn 4 = .ok (.iload_n 1, 1) := by decide +kernel
theorem dX0_isOwn_5 : decode cX0_isOwn 5 = .ok (.aload_n 0, 1) := by decide +kernel
theorem dX0_isOwn_6 : decode cX0_isOwn 6 = .ok (.getfield 28, 3) := by decide +kernel
theorem dX0_isOwn_9 : decode cX0_isOwn 9 = .ok (.if_icmp .ge 13, 3) := by decide +kernel
theorem dX0_isOwn_12 : decode cX0_isOwn 12 = .ok (.iload_n 1, 1) := by decide +kernel
theorem dX0_isOwn_13 : decode cX0_isOwn 13 = .ok (.bipush 20, 2) := by decide +kernel
theorem dX0_isOwn_15 : decode cX0_isOwn 15 = .ok (.if_icmp .ge 7, 3) := by decide +kernel
theorem dX0_isOwn_18 : decode cX0_isOwn 18 = .ok (.iconst 1, 1) := by decide +kernel
theorem dX0_isOwn_19 : decode cX0_isOwn 19 = .ok (.goto 4, 3) := by decide +kernel
theorem dX0_isOwn_22 : decode cX0_isOwn 22 = .ok (.iconst 0, 1) := by decide +kernel
theorem dX0_isOwn_23 : decode cX0_isOwn 23 = .ok (.ireturn, 1) := by decide +kernel
theorem dX0_ownOf_0 : decode cX0_ownOf 0 = .ok (.aload_n 0, 1) := by decide +kernel
theorem dX0_ownOf_1 : decode cX0_ownOf 1 = .ok (.getfield 32, 3) := by decide +kernel
theorem dX0_ownOf_4 : decode cX0_ownOf 4 = .ok (.iload_n 1, 1) := by decide +kernel
theorem dX0_ownOf_5 : decode cX0_ownOf 5 = .ok (.invokevirtual 89, 3) := by decide +kernel
theorem dX0_ownOf_8 : decode cX0_ownOf 8 = .ok (.lstore_n 2, 1) := by decide +kernel
theorem dX0_ownOf_9 : decode cX0_ownOf 9 = .ok (.iconst 0, 1) := by decide +kernel
theorem dX0_ownOf_10 : decode cX0_ownOf 10 = .ok (.istore 4, 2) := by decide +kernel
theorem dX0_ownOf_12 : decode cX0_ownOf 12 = .ok (.iload 4, 2) := by decide +kernel
theorem dX0_ownOf_14 : decode cX0_ownOf 14 = .ok (.aload_n 0, 1) := by decide +kernel
theorem dX0_ownOf_15 : decode cX0_ownOf 15 = .ok (.getfield 28, 3) := by decide +kernel
theorem dX0_ownOf_18 : decode cX0_ownOf 18 = .ok (.if_icmp .ge 31, 3) := by decide +kernel
theorem dX0_ownOf_21 : decode cX0_ownOf 21 = .ok (.iload 4, 2) := by decide +kernel
theorem dX0_ownOf_23 : decode cX0_ownOf 23 = .ok (.bipush 20, 2) := by decide +kernel
theorem dX0_ownOf_25 : decode cX0_ownOf 25 = .ok (.if_icmp .ge 24, 3) := by decide +kernel
theorem dX0_ownOf_28 : decode cX0_ownOf 28 = .ok (.aload_n 0, 1) := by decide +kernel
theorem dX0_ownOf_29 : decode cX0_ownOf 29 = .ok (.getfield 11, 3) := by decide +kernel
theorem dX0_ownOf_32 : decode cX0_ownOf 32 = .ok (.iload 4, 2) := by decide +kernel
theorem dX0_ownOf_34 : decode cX0_ownOf 34 = .ok (.laload, 1) := by decide +kernel
theorem dX0_ownOf_35 : decode cX0_ownOf 35 = .ok (.lload_n 2, 1) := by decide +kernel
theorem dX0_ownOf_36 : decode cX0_ownOf 36 = .ok (.lcmp, 1) := by decide +kernel
theorem dX0_ownOf_37 : decode cX0_ownOf 37 = .ok (.ifCond .ne 6, 3) := by decide +kernel
theorem dX0_ownOf_40 : decode cX0_ownOf 40 = .ok (.iload 4, 2) := by decide +kernel
theorem dX0_ownOf_42 : decode cX0_ownOf 42 = .ok (.ireturn, 1) := by decide +kernel
theorem dX0_ownOf_43 : decode cX0_ownOf 43 = .ok (.iinc 4 1, 3) := by decide +kernel
theorem dX0_ownOf_46 : decode cX0_ownOf 46 = .ok (.goto (-34), 3) := by decide +kernel
theorem dX0_ownOf_49 : decode cX0_ownOf 49 = .ok (.iconst (-1), 1) := by decide +kernel
theorem dX0_ownOf_50 : decode cX0_ownOf 50 = .ok (.ireturn, 1) := by decide +kernel
theorem dX0_numberNamed_0 : decode cX0_numberNamed 0 = .ok (.aload_n 0, 1) := by decide +kernel
theorem dX0_numberNamed_1 : decode cX0_numberNamed 1 = .ok (.iload_n 1, 1) := by decide +kernel
theorem dX0_numberNamed_2 : decode cX0_numberNamed 2 = .ok (.invokevirtual 120, 3) := by decide +kernel
theorem dX0_numberNamed_5 : decode cX0_numberNamed 5 = .ok (.istore_n 3, 1) := by decide +kernel
theorem dX0_numberNamed_6 : decode cX0_numberNamed 6 = .ok (.aload_n 0, 1) := by decide +kernel
theorem dX0_numberNamed_7 : decode cX0_numberNamed 7 = .ok (.iload_n 3, 1) := by decide +kernel
theorem dX0_numberNamed_8 : decode cX0_numberNamed 8 = .ok (.invokevirtual 123, 3) := by decide +kernel
theorem dX0_numberNamed_11 : decode cX0_numberNamed 11 = .ok (.ifCond .eq 22, 3) := by decide +kernel
theorem dX0_numberNamed_14 : decode cX0_numberNamed 14 = .ok (.aload_n 0, 1) := by decide +kernel
theorem dX0_numberNamed_15 : decode cX0_numberNamed 15 = .ok (.getfield 32, 3) := by decide +kernel
theorem dX0_numberNamed_18 : decode cX0_numberNamed 18 = .ok (.aload_n 0, 1) := by decide +kernel
theorem dX0_numberNamed_19 : decode cX0_numberNamed 19 = .ok (.getfield 15, 3) := by decide +kernel
theorem dX0_numberNamed_22 : decode cX0_numberNamed 22 = .ok (.iload_n 3, 1) := by decide +kernel
theorem dX0_numberNamed_23 : decode cX0_numberNamed 23 = .ok (.iaload, 1) := by decide +kernel
theorem dX0_numberNamed_24 : decode cX0_numberNamed 24 = .ok (.iconst 1, 1) := by decide +kernel
theorem dX0_numberNamed_25 : decode cX0_numberNamed 25 = .ok (.isub, 1) := by decide +kernel
theorem dX0_numberNamed_26 : decode cX0_numberNamed 26 = .ok (.invokevirtual 70, 3) := by decide +kernel
theorem dX0_numberNamed_29 : decode cX0_numberNamed 29 = .ok (.iload_n 2, 1) := by decide +kernel
theorem dX0_numberNamed_30 : decode cX0_numberNamed 30 = .ok (.if_icmp .eq 5, 3) := by decide +kernel
theorem dX0_numberNamed_33 : decode cX0_numberNamed 33 = .ok (.iconst (-1), 1) := by decide +kernel
theorem dX0_numberNamed_34 : decode cX0_numberNamed 34 = .ok (.ireturn, 1) := by decide +kernel
theorem dX0_numberNamed_35 : decode cX0_numberNamed 35 = .ok (.aload_n 0, 1) := by decide +kernel
theorem dX0_numberNamed_36 : decode cX0_numberNamed 36 = .ok (.getfield 19, 3) := by decide +kernel
theorem dX0_numberNamed_39 : decode cX0_numberNamed 39 = .ok (.iload_n 3, 1) := by decide +kernel
theorem dX0_numberNamed_40 : decode cX0_numberNamed 40 = .ok (.iaload, 1) := by decide +kernel
theorem dX0_numberNamed_41 : decode cX0_numberNamed 41 = .ok (.ireturn, 1) := by decide +kernel
theorem dX0_join_0 : decode cX0_join 0 = .ok (.iload_n 1, 1) := by decide +kernel
theorem dX0_join_1 : decode cX0_join 1 = .ok (.invokestatic 136, 3) := by decide +kernel
theorem dX0_join_4 : decode cX0_join 4 = .ok (.ifCond .eq 33, 3) := by decide +kernel
theorem dX0_join_7 : decode cX0_join 7 = .ok (.iload_n 2, 1) := by decide +kernel
theorem dX0_join_8 : decode cX0_join 8 = .ok (.invokestatic 136, 3) := by decide +kernel
theorem dX0_join_11 : decode cX0_join 11 = .ok (.ifCond .eq 26, 3) := by decide +kernel
theorem dX0_join_14 : decode cX0_join 14 = .ok (.iload_n 1, 1) := by decide +kernel
theorem dX0_join_15 : decode cX0_join 15 = .ok (.iload_n 2, 1) := by decide +kernel
theorem dX0_join_16 : decode cX0_join 16 = .ok (.if_icmp .eq 21, 3) := by decide +kernel
theorem dX0_join_19 : decode cX0_join 19 = .ok (.aload_n 0, 1) := by decide +kernel
theorem dX0_join_20 : decode cX0_join 20 = .ok (.iload_n 1, 1) := by decide +kernel
theorem dX0_join_21 : decode cX0_join 21 = .ok (.dup2, 1) := by decide +kernel
theorem dX0_join_22 : decode cX0_join 22 = .ok (.iaload, 1) := by decide +kernel
theorem dX0_join_23 : decode cX0_join 23 = .ok (.iconst 1, 1) := by decide +kernel
theorem dX0_join_24 : decode cX0_join 24 = .ok (.iload_n 2, 1) := by decide +kernel
theorem dX0_join_25 : decode cX0_join 25 = .ok (.ishl, 1) := by decide +kernel
theorem dX0_join_26 : decode cX0_join 26 = .ok (.ior, 1) := by decide +kernel
theorem dX0_join_27 : decode cX0_join 27 = .ok (.iastore, 1) := by decide +kernel
theorem dX0_join_28 : decode cX0_join 28 = .ok (.aload_n 0, 1) := by decide +kernel
theorem dX0_join_29 : decode cX0_join 29 = .ok (.iload_n 2, 1) := by decide +kernel
theorem dX0_join_30 : decode cX0_join 30 = .ok (.dup2, 1) := by decide +kernel
theorem dX0_join_31 : decode cX0_join 31 = .ok (.iaload, 1) := by decide +kernel
theorem dX0_join_32 : decode cX0_join 32 = .ok (.iconst 1, 1) := by decide +kernel
theorem dX0_join_33 : decode cX0_join 33 = .ok (.iload_n 1, 1) := by decide +kernel
theorem dX0_join_34 : decode cX0_join 34 = .ok (.ishl, 1) := by decide +kernel
theorem dX0_join_35 : decode cX0_join 35 = .ok (.ior, 1) := by decide +kernel
theorem dX0_join_36 : decode cX0_join 36 = .ok (.iastore, 1) := by decide +kernel
theorem dX0_join_37 : decode cX0_join 37 = .ok (.return_, 1) := by decide +kernel
theorem dX0_areJoined_0 : decode cX0_areJoined 0 = .ok (.iload_n 1, 1) := by decide +kernel
theorem dX0_areJoined_1 : decode cX0_areJoined 1 = .ok (.invokestatic 136, 3) := by decide +kernel
theorem dX0_areJoined_4 : decode cX0_areJoined 4 = .ok (.ifCond .eq 24, 3) := by decide +kernel
theorem dX0_areJoined_7 : decode cX0_areJoined 7 = .ok (.iload_n 2, 1) := by decide +kernel
theorem dX0_areJoined_8 : decode cX0_areJoined 8 = .ok (.invokestatic 136, 3) := by decide +kernel
theorem dX0_areJoined_11 : decode cX0_areJoined 11 = .ok (.ifCond .eq 17, 3) := by decide +kernel
theorem dX0_areJoined_14 : decode cX0_areJoined 14 = .ok (.aload_n 0, 1) := by decide +kernel
theorem dX0_areJoined_15 : decode cX0_areJoined 15 = .ok (.iload_n 1, 1) := by decide +kernel
theorem dX0_areJoined_16 : decode cX0_areJoined 16 = .ok (.iaload, 1) := by decide +kernel
theorem dX0_areJoined_17 : decode cX0_areJoined 17 = .ok (.iload_n 2, 1) := by decide +kernel
theorem dX0_areJoined_18 : decode cX0_areJoined 18 = .ok (.ishr, 1) := by decide +kernel
theorem dX0_areJoined_19 : decode cX0_areJoined 19 = .ok (.iconst 1, 1) := by decide +kernel
theorem dX0_areJoined_20 : decode cX0_areJoined 20 = .ok (.iand, 1) := by decide +kernel
theorem dX0_areJoined_21 : decode cX0_areJoined 21 = .ok (.ifCond .eq 7, 3) := by decide +kernel
theorem dX0_areJoined_24 : decode cX0_areJoined 24 = .ok (.iconst 1, 1) := by decide +kernel
theorem dX0_areJoined_25 : decode cX0_areJoined 25 = .ok (.goto 4, 3) := by decide +kernel
theorem dX0_areJoined_28 : decode cX0_areJoined 28 = .ok (.iconst 0, 1) := by decide +kernel
theorem dX0_areJoined_29 : decode cX0_areJoined 29 = .ok (.ireturn, 1) := by decide +kernel
theorem dX0_buildNet_0 : decode cX0_buildNet 0 = .ok (.aload_n 0, 1) := by decide +kernel
theorem dX0_buildNet_1 : decode cX0_buildNet 1 = .ok (.getfield 32, 3) := by decide +kernel
theorem dX0_buildNet_4 : decode cX0_buildNet 4 = .ok (.iload_n 1, 1) := by decide +kernel
theorem dX0_buildNet_5 : decode cX0_buildNet 5 = .ok (.invokevirtual 70, 3) := by decide +kernel
theorem dX0_buildNet_8 : decode cX0_buildNet 8 = .ok (.tableswitch 128 1 8 #[48, 61, 128, 128, 128, 70, 92, 110], 48) := by decide +kernel
theorem dX0_buildNet_56 : decode cX0_buildNet 56 = .ok (.aload_n 2, 1) := by decide +kernel
theorem dX0_buildNet_57 : decode cX0_buildNet 57 = .ok (.dup, 1) := by decide +kernel
theorem dX0_buildNet_58 : decode cX0_buildNet 58 = .ok (.getfield 139, 3) := by decide +kernel
theorem dX0_buildNet_61 : decode cX0_buildNet 61 = .ok (.iconst 1, 1) := by decide +kernel
theorem dX0_buildNet_62 : decode cX0_buildNet 62 = .ok (.iadd, 1) := by decide +kernel
theorem dX0_buildNet_63 : decode cX0_buildNet 63 = .ok (.putfield 139, 3) := by decide +kernel
theorem dX0_buildNet_66 : decode cX0_buildNet 66 = .ok (.goto 70, 3) := by decide +kernel
theorem dX0_buildNet_69 : decode cX0_buildNet 69 = .ok (.aload_n 0, 1) := by decide +kernel
theorem dX0_buildNet_70 : decode cX0_buildNet 70 = .ok (.iload_n 1, 1) := by decide +kernel
theorem dX0_buildNet_71 : decode cX0_buildNet 71 = .ok (.aload_n 2, 1) := by decide +kernel
theorem dX0_buildNet_72 : decode cX0_buildNet 72 = .ok (.invokevirtual 142, 3) := by decide +kernel
theorem dX0_buildNet_75 : decode cX0_buildNet 75 = .ok (.goto 61, 3) := by decide +kernel
theorem dX0_buildNet_78 : decode cX0_buildNet 78 = .ok (.aload_n 2, 1) := by decide +kernel
theorem dX0_buildNet_79 : decode cX0_buildNet 79 = .ok (.dup, 1) := by decide +kernel
theorem dX0_buildNet_80 : decode cX0_buildNet 80 = .ok (.getfield 145, 3) := by decide +kernel
theorem dX0_buildNet_83 : decode cX0_buildNet 83 = .ok (.iconst 1, 1) := by decide +kernel
theorem dX0_buildNet_84 : decode cX0_buildNet 84 = .ok (.aload_n 0, 1) := by decide +kernel
theorem dX0_buildNet_85 : decode cX0_buildNet 85 = .ok (.iload_n 1, 1) := by decide +kernel
theorem dX0_buildNet_86 : decode cX0_buildNet 86 = .ok (.iconst 1, 1) := by decide +kernel
theorem dX0_buildNet_87 : decode cX0_buildNet 87 = .ok (.iadd, 1) := by decide +kernel
theorem dX0_buildNet_88 : decode cX0_buildNet 88 = .ok (.iconst 1, 1) := by decide +kernel
theorem dX0_buildNet_89 : decode cX0_buildNet 89 = .ok (.invokevirtual 78, 3) := by decide +kernel
theorem dX0_buildNet_92 : decode cX0_buildNet 92 = .ok (.ishl, 1) := by decide +kernel
theorem dX0_buildNet_93 : decode cX0_buildNet 93 = .ok (.ior, 1) := by decide +kernel
theorem dX0_buildNet_94 : decode cX0_buildNet 94 = .ok (.putfield 145, 3) := by decide +kernel
theorem dX0_buildNet_97 : decode cX0_buildNet 97 = .ok (.goto 39, 3) := by decide +kernel
theorem dX0_buildNet_100 : decode cX0_buildNet 100 = .ok (.aload_n 2, 1) := by decide +kernel
theorem dX0_buildNet_101 : decode cX0_buildNet 101 = .ok (.aload_n 0, 1) := by decide +kernel
theorem dX0_buildNet_102 : decode cX0_buildNet 102 = .ok (.getfield 32, 3) := by decide +kernel
theorem dX0_buildNet_105 : decode cX0_buildNet 105 = .ok (.iload_n 1, 1) := by decide +kernel
theorem dX0_buildNet_106 : decode cX0_buildNet 106 = .ok (.iconst 1, 1) := by decide +kernel
theorem dX0_buildNet_107 : decode cX0_buildNet 107 = .ok (.iadd, 1) := by decide +kernel
theorem dX0_buildNet_108 : decode cX0_buildNet 108 = .ok (.invokevirtual 89, 3) := by decide +kernel
theorem dX0_buildNet_111 : decode cX0_buildNet 111 = .ok (.l2i, 1) := by decide +kernel
theorem dX0_buildNet_112 : decode cX0_buildNet 112 = .ok (.putfield 148, 3) := by decide +kernel
theorem dX0_buildNet_115 : decode cX0_buildNet 115 = .ok (.goto 21, 3) := by decide +kernel
theorem dX0_buildNet_118 : decode cX0_buildNet 118 = .ok (.aload_n 2, 1) := by decide +kernel
theorem dX0_buildNet_119 : decode cX0_buildNet 119 = .ok (.aload_n 0, 1) := by decide +kernel
theorem dX0_buildNet_120 : decode cX0_buildNet 120 = .ok (.getfield 32, 3) := by decide +kernel
theorem dX0_buildNet_123 : decode cX0_buildNet 123 = .ok (.iload_n 1, 1) := by decide +kernel
theorem dX0_buildNet_124 : decode cX0_buildNet 124 = .ok (.iconst 1, 1) := by decide +kernel
theorem dX0_buildNet_125 : decode cX0_buildNet 125 = .ok (.iadd, 1) := by decide +kernel
theorem dX0_buildNet_126 : decode cX0_buildNet 126 = .ok (.invokevirtual 89, 3) := by decide +kernel
theorem dX0_buildNet_129 : decode cX0_buildNet 129 = .ok (.l2i, 1) := by decide +kernel
theorem dX0_buildNet_130 : decode cX0_buildNet 130 = .ok (.putfield 151, 3) := by decide +kernel
theorem dX0_buildNet_133 : decode cX0_buildNet 133 = .ok (.goto 3, 3) := by decide +kernel
theorem dX0_buildNet_136 : decode cX0_buildNet 136 = .ok (.return_, 1) := by decide +kernel
theorem dX0_buildLink_0 : decode cX0_buildLink 0 = .ok (.aload_n 0, 1) := by decide +kernel
theorem dX0_buildLink_1 : decode cX0_buildLink 1 = .ok (.iload_n 1, 1) := by decide +kernel
theorem dX0_buildLink_2 : decode cX0_buildLink 2 = .ok (.iconst 1, 1) := by decide +kernel
theorem dX0_buildLink_3 : decode cX0_buildLink 3 = .ok (.iadd, 1) := by decide +kernel
theorem dX0_buildLink_4 : decode cX0_buildLink 4 = .ok (.iconst 1, 1) := by decide +kernel
theorem dX0_buildLink_5 : decode cX0_buildLink 5 = .ok (.invokevirtual 78, 3) := by decide +kernel
theorem dX0_buildLink_8 : decode cX0_buildLink 8 = .ok (.istore_n 3, 1) := by decide +kernel
theorem dX0_buildLink_9 : decode cX0_buildLink 9 = .ok (.aload_n 0, 1) := by decide +kernel
theorem dX0_buildLink_10 : decode cX0_buildLink 10 = .ok (.iload_n 1, 1) := by decide +kernel
theorem dX0_buildLink_11 : decode cX0_buildLink 11 = .ok (.iconst 2, 1) := by decide +kernel
theorem dX0_buildLink_12 : decode cX0_buildLink 12 = .ok (.iadd, 1) := by decide +kernel
theorem dX0_buildLink_13 : decode cX0_buildLink 13 = .ok (.iconst 1, 1) := by decide +kernel
theorem dX0_buildLink_14 : decode cX0_buildLink 14 = .ok (.invokevirtual 78, 3) := by decide +kernel
theorem dX0_buildLink_17 : decode cX0_buildLink 17 = .ok (.istore 4, 2) := by decide +kernel
theorem dX0_buildLink_19 : decode cX0_buildLink 19 = .ok (.aload_n 2, 1) := by decide +kernel
theorem dX0_buildLink_20 : decode cX0_buildLink 20 = .ok (.iload_n 3, 1) := by decide +kernel
theorem dX0_buildLink_21 : decode cX0_buildLink 21 = .ok (.iload 4, 2) := by decide +kernel
theorem dX0_buildLink_23 : decode cX0_buildLink 23 = .ok (.aload_n 0, 1) := by decide +kernel
theorem dX0_buildLink_24 : decode cX0_buildLink 24 = .ok (.getfield 32, 3) := by decide +kernel
theorem dX0_buildLink_27 : decode cX0_buildLink 27 = .ok (.iload_n 1, 1) := by decide +kernel
theorem dX0_buildLink_28 : decode cX0_buildLink 28 = .ok (.iconst 3, 1) := by decide +kernel
theorem dX0_buildLink_29 : decode cX0_buildLink 29 = .ok (.iadd, 1) := by decide +kernel
theorem dX0_buildLink_30 : decode cX0_buildLink 30 = .ok (.invokevirtual 89, 3) := by decide +kernel
theorem dX0_buildLink_33 : decode cX0_buildLink 33 = .ok (.l2i, 1) := by decide +kernel
theorem dX0_buildLink_34 : decode cX0_buildLink 34 = .ok (.invokevirtual 154, 3) := by decide +kernel
theorem dX0_buildLink_37 : decode cX0_buildLink 37 = .ok (.return_, 1) := by decide +kernel
theorem dX0_buildWay_0 : decode cX0_buildWay 0 = .ok (.iconst 0, 1) := by decide +kernel
theorem dX0_buildWay_1 : decode cX0_buildWay 1 = .ok (.istore 4, 2) := by decide +kernel
theorem dX0_buildWay_3 : decode cX0_buildWay 3 = .ok (.iload_n 1, 1) := by decide +kernel
theorem dX0_buildWay_4 : decode cX0_buildWay 4 = .ok (.iconst 2, 1) := by decide +kernel
theorem dX0_buildWay_5 : decode cX0_buildWay 5 = .ok (.iadd, 1) := by decide +kernel
theorem dX0_buildWay_6 : decode cX0_buildWay 6 = .ok (.istore 5, 2) := by decide +kernel
theorem dX0_buildWay_8 : decode cX0_buildWay 8 = .ok (.iload 5, 2) := by decide +kernel
theorem dX0_buildWay_10 : decode cX0_buildWay 10 = .ok (.aload_n 0, 1) := by decide +kernel
theorem dX0_buildWay_11 : decode cX0_buildWay 11 = .ok (.getfield 32, 3) := by decide +kernel
theorem dX0_buildWay_14 : decode cX0_buildWay 14 = .ok (.getfield 42, 3) := by decide +kernel
theorem dX0_buildWay_17 : decode cX0_buildWay 17 = .ok (.if_icmp .ge 37, 3) := by decide +kernel
theorem dX0_buildWay_20 : decode cX0_buildWay 20 = .ok (.aload_n 0, 1) := by decide +kernel
theorem dX0_buildWay_21 : decode cX0_buildWay 21 = .ok (.getfield 32, 3) := by decide +kernel
theorem dX0_buildWay_24 : decode cX0_buildWay 24 = .ok (.iload 5, 2) := by decide +kernel
theorem dX0_buildWay_26 : decode cX0_buildWay 26 = .ok (.invokevirtual 70, 3) := by decide +kernel
theorem dX0_buildWay_29 : decode cX0_buildWay 29 = .ok (.bipush 9, 2) := by decide +kernel
theorem dX0_buildWay_31 : decode cX0_buildWay 31 = .ok (.if_icmp .ne 23, 3) := by decide +kernel
theorem dX0_buildWay_34 : decode cX0_buildWay 34 = .ok (.iload 4, 2) := by decide +kernel
theorem dX0_buildWay_36 : decode cX0_buildWay 36 = .ok (.aload_n 0, 1) := by decide +kernel
theorem dX0_buildWay_37 : decode cX0_buildWay 37 = .ok (.iload 5, 2) := by decide +kernel
theorem dX0_buildWay_39 : decode cX0_buildWay 39 = .ok (.iconst 1, 1) := by decide +kernel
theorem dX0_buildWay_40 : decode cX0_buildWay 40 = .ok (.invokevirtual 78, 3) := by decide +kernel
theorem dX0_buildWay_43 : decode cX0_buildWay 43 = .ok (.invokestatic 158, 3) := by decide +kernel
theorem dX0_buildWay_46 : decode cX0_buildWay 46 = .ok (.istore 4, 2) := by decide +kernel
theorem dX0_buildWay_48 : decode cX0_buildWay 48 = .ok (.iinc 5 1, 3) := by decide +kernel
theorem dX0_buildWay_51 : decode cX0_buildWay 51 = .ok (.goto (-43), 3) := by decide +kernel
theorem dX0_buildWay_54 : decode cX0_buildWay 54 = .ok (.aload_n 3, 1) := by decide +kernel
theorem dX0_buildWay_55 : decode cX0_buildWay 55 = .ok (.iload 4, 2) := by decide +kernel
theorem dX0_buildWay_57 : decode cX0_buildWay 57 = .ok (.aload_n 2, 1) := by decide +kernel
theorem dX0_buildWay_58 : decode cX0_buildWay 58 = .ok (.iload 4, 2) := by decide +kernel
theorem dX0_buildWay_60 : decode cX0_buildWay 60 = .ok (.invokevirtual 161, 3) := by decide +kernel
theorem dX0_buildWay_63 : decode cX0_buildWay 63 = .ok (.invokevirtual 164, 3) := by decide +kernel
theorem dX0_buildWay_66 : decode cX0_buildWay 66 = .ok (.return_, 1) := by decide +kernel
theorem dX1_init_0 : decode cX1_init 0 = .ok (.aload_n 0, 1) := by decide +kernel
theorem dX1_init_1 : decode cX1_init 1 = .ok (.invokespecial 3, 3) := by decide +kernel
theorem dX1_init_4 : decode cX1_init 4 = .ok (.aload_n 0, 1) := by decide +kernel
theorem dX1_init_5 : decode cX1_init 5 = .ok (.bipush 40, 2) := by decide +kernel
theorem dX1_init_7 : decode cX1_init 7 = .ok (.newarray .int, 2) := by decide +kernel
theorem dX1_init_9 : decode cX1_init 9 = .ok (.putfield 11, 3) := by decide +kernel
theorem dX1_init_12 : decode cX1_init 12 = .ok (.aload_n 0, 1) := by decide +kernel
theorem dX1_init_13 : decode cX1_init 13 = .ok (.iconst 3, 1) := by decide +kernel
theorem dX1_init_14 : decode cX1_init 14 = .ok (.anewarray 15, 3) := by decide +kernel
theorem dX1_init_17 : decode cX1_init 17 = .ok (.putfield 17, 3) := by decide +kernel
theorem dX1_init_20 : decode cX1_init 20 = .ok (.aload_n 0, 1) := by decide +kernel
theorem dX1_init_21 : decode cX1_init 21 = .ok (.iconst 3, 1) := by decide +kernel
theorem dX1_init_22 : decode cX1_init 22 = .ok (.newarray .boolean, 2) := by decide +kernel
theorem dX1_init_24 : decode cX1_init 24 = .ok (.putfield 21, 3) := by decide +kernel
theorem dX1_init_27 : decode cX1_init 27 = .ok (.aload_n 0, 1) := by decide +kernel
theorem dX1_init_28 : decode cX1_init 28 = .ok (.iconst 0, 1) := by decide +kernel
theorem dX1_init_29 : decode cX1_init 29 = .ok (.putfield 25, 3) := by decide +kernel
theorem dX1_init_32 : decode cX1_init 32 = .ok (.iconst 0, 1) := by decide +kernel
theorem dX1_init_33 : decode cX1_init 33 = .ok (.istore_n 1, 1) := by decide +kernel
theorem dX1_init_34 : decode cX1_init 34 = .ok (.iload_n 1, 1) := by decide +kernel
theorem dX1_init_35 : decode cX1_init 35 = .ok (.iconst 3, 1) := by decide +kernel
theorem dX1_init_36 : decode cX1_init 36 = .ok (.if_icmp .ge 22, 3) := by decide +kernel
theorem dX1_init_39 : decode cX1_init 39 = .ok (.aload_n 0, 1) := by decide +kernel
theorem dX1_init_40 : decode cX1_init 40 = .ok (.getfield 17, 3) := by decide +kernel
theorem dX1_init_43 : decode cX1_init 43 = .ok (.iload_n 1, 1) := by decide +kernel
theorem dX1_init_44 : decode cX1_init 44 = .ok (.new 15, 3) := by decide +kernel
theorem dX1_init_47 : decode cX1_init 47 = .ok (.dup, 1) := by decide +kernel
theorem dX1_init_48 : decode cX1_init 48 = .ok (.invokespecial 29, 3) := by decide +kernel
theorem dX1_init_51 : decode cX1_init 51 = .ok (.aastore, 1) := by decide +kernel
theorem dX1_init_52 : decode cX1_init 52 = .ok (.iinc 1 1, 3) := by decide +kernel
theorem dX1_init_55 : decode cX1_init 55 = .ok (.goto (-21), 3) := by decide +kernel
theorem dX1_init_58 : decode cX1_init 58 = .ok (.return_, 1) := by decide +kernel
theorem dX1_noteLaid_0 : decode cX1_noteLaid 0 = .ok (.aload_n 0, 1) := by decide +kernel
theorem dX1_noteLaid_1 : decode cX1_noteLaid 1 = .ok (.iconst (-1), 1) := by decide +kernel
theorem dX1_noteLaid_2 : decode cX1_noteLaid 2 = .ok (.invokevirtual 30, 3) := by decide +kernel
theorem dX1_noteLaid_5 : decode cX1_noteLaid 5 = .ok (.return_, 1) := by decide +kernel
theorem dX1_noteTold_0 : decode cX1_noteTold 0 = .ok (.aload_n 0, 1) := by decide +kernel
theorem dX1_noteTold_1 : decode cX1_noteTold 1 = .ok (.iload_n 1, 1) := by decide +kernel
theorem dX1_noteTold_2 : decode cX1_noteTold 2 = .ok (.iconst 4, 1) := by decide +kernel
theorem dX1_noteTold_3 : decode cX1_noteTold 3 = .ok (.imul, 1) := by decide +kernel
theorem dX1_noteTold_4 : decode cX1_noteTold 4 = .ok (.iload_n 2, 1) := by decide +kernel
theorem dX1_noteTold_5 : decode cX1_noteTold 5 = .ok (.iadd, 1) := by decide +kernel
theorem dX1_noteTold_6 : decode cX1_noteTold 6 = .ok (.invokevirtual 30, 3) := by decide +kernel
theorem dX1_noteTold_9 : decode cX1_noteTold 9 = .ok (.return_, 1) := by decide +kernel
theorem dX1_wayOf_0 : decode cX1_wayOf 0 = .ok (.iload_n 0, 1) := by decide +kernel
theorem dX1_wayOf_1 : decode cX1_wayOf 1 = .ok (.iconst 4, 1) := by decide +kernel
theorem dX1_wayOf_2 : decode cX1_wayOf 2 = .ok (.idiv, 1) := by decide +kernel
theorem dX1_wayOf_3 : decode cX1_wayOf 3 = .ok (.ireturn, 1) := by decide +kernel
theorem dX1_outcomeOf_0 : decode cX1_outcomeOf 0 = .ok (.iload_n 0, 1) := by decide +kernel
theorem dX1_outcomeOf_1 : decode cX1_outcomeOf 1 = .ok (.iconst 4, 1) := by decide +kernel
theorem dX1_outcomeOf_2 : decode cX1_outcomeOf 2 = .ok (.irem, 1) := by decide +kernel
theorem dX1_outcomeOf_3 : decode cX1_outcomeOf 3 = .ok (.ireturn, 1) := by decide +kernel
theorem dX1_takeLast_0 : decode cX1_takeLast 0 = .ok (.aload_n 0, 1) := by decide +kernel
theorem dX1_takeLast_1 : decode cX1_takeLast 1 = .ok (.getfield 25, 3) := by decide +kernel
theorem dX1_takeLast_4 : decode cX1_takeLast 4 = .ok (.ifCond .le 12, 3) := by decide +kernel
theorem dX1_takeLast_7 : decode cX1_takeLast 7 = .ok (.aload_n 0, 1) := by decide +kernel
theorem dX1_takeLast_8 : decode cX1_takeLast 8 = .ok (.getfield 25, 3) := by decide +kernel
theorem dX1_takeLast_11 : decode cX1_takeLast 11 = .ok (.bipush 40, 2) := by decide +kernel
theorem dX1_takeLast_13 : decode cX1_takeLast 13 = .ok (.if_icmp .le 5, 3) := by decide +kernel
theorem dX1_takeLast_16 : decode cX1_takeLast 16 = .ok (.iconst (-1), 1) := by decide +kernel
theorem dX1_takeLast_17 : decode cX1_takeLast 17 = .ok (.ireturn, 1) := by decide +kernel
theorem dX1_takeLast_18 : decode cX1_takeLast 18 = .ok (.aload_n 0, 1) := by decide +kernel
theorem dX1_takeLast_19 : decode cX1_takeLast 19 = .ok (.dup, 1) := by decide +kernel
theorem dX1_takeLast_20 : decode cX1_takeLast 20 = .ok (.getfield 25, 3) := by decide +kernel
theorem dX1_takeLast_23 : decode cX1_takeLast 23 = .ok (.iconst 1, 1) := by decide +kernel
theorem dX1_takeLast_24 : decode cX1_takeLast 24 = .ok (.isub, 1) := by decide +kernel
theorem dX1_takeLast_25 : decode cX1_takeLast 25 = .ok (.putfield 25, 3) := by decide +kernel
theorem dX1_takeLast_28 : decode cX1_takeLast 28 = .ok (.aload_n 0, 1) := by decide +kernel
theorem dX1_takeLast_29 : decode cX1_takeLast 29 = .ok (.getfield 11, 3) := by decide +kernel
theorem dX1_takeLast_32 : decode cX1_takeLast 32 = .ok (.aload_n 0, 1) := by decide +kernel
theorem dX1_takeLast_33 : decode cX1_takeLast 33 = .ok (.getfield 25, 3) := by decide +kernel
theorem dX1_takeLast_36 : decode cX1_takeLast 36 = .ok (.iaload, 1) := by decide +kernel
theorem dX1_takeLast_37 : decode cX1_takeLast 37 = .ok (.ireturn, 1) := by decide +kernel
theorem dX1_forgetAll_0 : decode cX1_forgetAll 0 = .ok (.aload_n 0, 1) := by decide +kernel
theorem dX1_forgetAll_1 : decode cX1_forgetAll 1 = .ok (.iconst 0, 1) := by decide +kernel
theorem dX1_forgetAll_2 : decode cX1_forgetAll 2 = .ok (.putfield 25, 3) := by decide +kernel
theorem dX1_forgetAll_5 : decode cX1_forgetAll 5 = .ok (.iconst 0, 1) := by decide +kernel
theorem dX1_forgetAll_6 : decode cX1_forgetAll 6 = .ok (.istore_n 1, 1) := by decide +kernel
theorem dX1_forgetAll_7 : decode cX1_forgetAll 7 = .ok (.iload_n 1, 1) := by decide +kernel
theorem dX1_forgetAll_8 : decode cX1_forgetAll 8 = .ok (.iconst 3, 1) := by decide +kernel
theorem dX1_forgetAll_9 : decode cX1_forgetAll 9 = .ok (.if_icmp .ge 16, 3) := by decide +kernel
theorem dX1_forgetAll_12 : decode cX1_forgetAll 12 = .ok (.aload_n 0, 1) := by decide +kernel
theorem dX1_forgetAll_13 : decode cX1_forgetAll 13 = .ok (.getfield 21, 3) := by decide +kernel
theorem dX1_forgetAll_16 : decode cX1_forgetAll 16 = .ok (.iload_n 1, 1) := by decide +kernel
theorem dX1_forgetAll_17 : decode cX1_forgetAll 17 = .ok (.iconst 0, 1) := by decide +kernel
theorem dX1_forgetAll_18 : decode cX1_forgetAll 18 = .ok (.bastore, 1) := by decide +kernel
theorem dX1_forgetAll_19 : decode cX1_forgetAll 19 = .ok (.iinc 1 1, 3) := by decide +kernel
theorem dX1_forgetAll_22 : decode cX1_forgetAll 22 = .ok (.goto (-15), 3) := by decide +kernel
theorem dX1_forgetAll_25 : decode cX1_forgetAll 25 = .ok (.return_, 1) := by decide +kernel
theorem dX1_keep_0 : decode cX1_keep 0 = .ok (.iload_n 1, 1) := by decide +kernel
theorem dX1_keep_1 : decode cX1_keep 1 = .ok (.invokestatic 34, 3) := by decide +kernel
theorem dX1_keep_4 : decode cX1_keep 4 = .ok (.ifCond .eq 12, 3) := by decide +kernel
theorem dX1_keep_7 : decode cX1_keep 7 = .ok (.aload_n 0, 1) := by decide +kernel
theorem dX1_keep_8 : decode cX1_keep 8 = .ok (.getfield 17, 3) := by decide +kernel
theorem dX1_keep_11 : decode cX1_keep 11 = .ok (.iload_n 1, 1) := by decide +kernel
theorem dX1_keep_12 : decode cX1_keep 12 = .ok (.aaload, 1) := by decide +kernel
theorem dX1_keep_13 : decode cX1_keep 13 = .ok (.ifnonnull 5, 3) := by decide +kernel
theorem dX1_keep_16 : decode cX1_keep 16 = .ok (.iconst 0, 1) := by decide +kernel
theorem dX1_keep_17 : decode cX1_keep 17 = .ok (.ireturn, 1) := by decide +kernel
theorem dX1_keep_18 : decode cX1_keep 18 = .ok (.aload_n 0, 1) := by decide +kernel
theorem dX1_keep_19 : decode cX1_keep 19 = .ok (.getfield 17, 3) := by decide +kernel
theorem dX1_keep_22 : decode cX1_keep 22 = .ok (.iload_n 1, 1) := by decide +kernel
theorem dX1_keep_23 : decode cX1_keep 23 = .ok (.aaload, 1) := by decide +kernel
theorem dX1_keep_24 : decode cX1_keep 24 = .ok (.aload_n 2, 1) := by decide +kernel
theorem dX1_keep_25 : decode cX1_keep 25 = .ok (.invokevirtual 38, 3) := by decide +kernel
theorem dX1_keep_28 : decode cX1_keep 28 = .ok (.aload_n 0, 1) := by decide +kernel
theorem dX1_keep_29 : decode cX1_keep 29 = .ok (.getfield 21, 3) := by decide +kernel
theorem dX1_keep_32 : decode cX1_keep 32 = .ok (.iload_n 1, 1) := by decide +kernel
theorem dX1_keep_33 : decode cX1_keep 33 = .ok (.iconst 1, 1) := by decide +kernel
theorem dX1_keep_34 : decode cX1_keep 34 = .ok (.bastore, 1) := by decide +kernel
theorem dX1_keep_35 : decode cX1_keep 35 = .ok (.iconst 1, 1) := by decide +kernel
theorem dX1_keep_36 : decode cX1_keep 36 = .ok (.ireturn, 1) := by decide +kernel
theorem dX1_bringBack_0 : decode cX1_bringBack 0 = .ok (.iload_n 1, 1) := by decide +kernel
theorem dX1_bringBack_1 : decode cX1_bringBack 1 = .ok (.invokestatic 34, 3) := by decide +kernel
theorem dX1_bringBack_4 : decode cX1_bringBack 4 = .ok (.ifCond .eq 21, 3) := by decide +kernel
theorem dX1_bringBack_7 : decode cX1_bringBack 7 = .ok (.aload_n 0, 1) := by decide +kernel
theorem dX1_bringBack_8 : decode cX1_bringBack 8 = .ok (.getfield 21, 3) := by decide +kernel
theorem dX1_bringBack_11 : decode cX1_bringBack 11 = .ok (.iload_n 1, 1) := by decide +kernel
theorem dX1_bringBack_12 : decode cX1_bringBack 12 = .ok (.baload, 1) := by decide +kernel
theorem dX1_bringBack_13 : decode cX1_bringBack 13 = .ok (.ifCond .eq 12, 3) := by decide +kernel
theorem dX1_bringBack_16 : decode cX1_bringBack 16 = .ok (.aload_n 0, 1) := by decide +kernel
theorem dX1_bringBack_17 : decode cX1_bringBack 17 = .ok (.getfield 17, 3) := by decide +kernel
theorem dX1_bringBack_20 : decode cX1_bringBack 20 = .ok (.iload_n 1, 1) := by decide +kernel
theorem dX1_bringBack_21 : decode cX1_bringBack 21 = .ok (.aaload, 1) := by decide +kernel
theorem dX1_bringBack_22 : decode cX1_bringBack 22 = .ok (.ifnonnull 5, 3) := by decide +kernel
theorem dX1_bringBack_25 : decode cX1_bringBack 25 = .ok (.iconst 0, 1) := by decide +kernel
theorem dX1_bringBack_26 : decode cX1_bringBack 26 = .ok (.ireturn, 1) := by decide +kernel
theorem dX1_bringBack_27 : decode cX1_bringBack 27 = .ok (.aload_n 2, 1) := by decide +kernel
theorem dX1_bringBack_28 : decode cX1_bringBack 28 = .ok (.aload_n 0, 1) := by decide +kernel
theorem dX1_bringBack_29 : decode cX1_bringBack 29 = .ok (.getfield 17, 3) := by decide +kernel
theorem dX1_bringBack_32 : decode cX1_bringBack 32 = .ok (.iload_n 1, 1) := by decide +kernel
theorem dX1_bringBack_33 : decode cX1_bringBack 33 = .ok (.aaload, 1) := by decide +kernel
theorem dX1_bringBack_34 : decode cX1_bringBack 34 = .ok (.invokevirtual 38, 3) := by decide +kernel
theorem dX1_bringBack_37 : decode cX1_bringBack 37 = .ok (.aload_n 0, 1) := by decide +kernel
theorem dX1_bringBack_38 : decode cX1_bringBack 38 = .ok (.iconst 0, 1) := by decide +kernel
theorem dX1_bringBack_39 : decode cX1_bringBack 39 = .ok (.putfield 25, 3) := by decide +kernel
theorem dX1_bringBack_42 : decode cX1_bringBack 42 = .ok (.iconst 1, 1) := by decide +kernel
theorem dX1_bringBack_43 : decode cX1_bringBack 43 = .ok (.ireturn, 1) := by decide +kernel
theorem dX1_slotsHeld_0 : decode cX1_slotsHeld 0 = .ok (.iconst 0, 1) := by decide +kernel
theorem dX1_slotsHeld_1 : decode cX1_slotsHeld 1 = .ok (.istore_n 1, 1) := by decide +kernel
theorem dX1_slotsHeld_2 : decode cX1_slotsHeld 2 = .ok (.iconst 0, 1) := by decide +kernel
theorem dX1_slotsHeld_3 : decode cX1_slotsHeld 3 = .ok (.istore_n 2, 1) := by decide +kernel
theorem dX1_slotsHeld_4 : decode cX1_slotsHeld 4 = .ok (.iload_n 2, 1) := by decide +kernel
theorem dX1_slotsHeld_5 : decode cX1_slotsHeld 5 = .ok (.iconst 3, 1) := by decide +kernel
theorem dX1_slotsHeld_6 : decode cX1_slotsHeld 6 = .ok (.if_icmp .ge 26, 3) := by decide +kernel
theorem dX1_slotsHeld_9 : decode cX1_slotsHeld 9 = .ok (.iload_n 1, 1) := by decide +kernel
theorem dX1_slotsHeld_10 : decode cX1_slotsHeld 10 = .ok (.aload_n 0, 1) := by decide +kernel
theorem dX1_slotsHeld_11 : decode cX1_slotsHeld 11 = .ok (.getfield 21, 3) := by decide +kernel
theorem dX1_slotsHeld_14 : decode cX1_slotsHeld 14 = .ok (.iload_n 2, 1) := by decide +kernel
theorem dX1_slotsHeld_15 : decode cX1_slotsHeld 15 = .ok (.baload, 1) := by decide +kernel
theorem dX1_slotsHeld_16 : decode cX1_slotsHeld 16 = .ok (.ifCond .eq 7, 3) := by decide +kernel
theorem dX1_slotsHeld_19 : decode cX1_slotsHeld 19 = .ok (.iconst 1, 1) := by decide +kernel
theorem dX1_slotsHeld_20 : decode cX1_slotsHeld 20 = .ok (.goto 4, 3) := by decide +kernel
theorem dX1_slotsHeld_23 : decode cX1_slotsHeld 23 = .ok (.iconst 0, 1) := by decide +kernel
theorem dX1_slotsHeld_24 : decode cX1_slotsHeld 24 = .ok (.iadd, 1) := by decide +kernel
theorem dX1_slotsHeld_25 : decode cX1_slotsHeld 25 = .ok (.istore_n 1, 1) := by decide +kernel
theorem dX1_slotsHeld_26 : decode cX1_slotsHeld 26 = .ok (.iinc 2 1, 3) := by decide +kernel
theorem dX1_slotsHeld_29 : decode cX1_slotsHeld 29 = .ok (.goto (-25), 3) := by decide +kernel
theorem dX1_slotsHeld_32 : decode cX1_slotsHeld 32 = .ok (.iload_n 1, 1) := by decide +kernel
theorem dX1_slotsHeld_33 : decode cX1_slotsHeld 33 = .ok (.ireturn, 1) := by decide +kernel
theorem dX1_isSlot_0 : decode cX1_isSlot 0 = .ok (.iload_n 0, 1) := by decide +kernel
theorem dX1_isSlot_1 : decode cX1_isSlot 1 = .ok (.ifCond .lt 12, 3) := by decide +kernel
theorem dX1_isSlot_4 : decode cX1_isSlot 4 = .ok (.iload_n 0, 1) := by decide +kernel
theorem dX1_isSlot_5 : decode cX1_isSlot 5 = .ok (.iconst 3, 1) := by decide +kernel
theorem dX1_isSlot_6 : decode cX1_isSlot 6 = .ok (.if_icmp .ge 7, 3) := by decide +kernel
theorem dX1_isSlot_9 : decode cX1_isSlot 9 = .ok (.iconst 1, 1) := by decide +kernel
theorem dX1_isSlot_10 : decode cX1_isSlot 10 = .ok (.goto 4, 3) := by decide +kernel
theorem dX1_isSlot_13 : decode cX1_isSlot 13 = .ok (.iconst 0, 1) := by decide +kernel
theorem dX1_isSlot_14 : decode cX1_isSlot 14 = .ok (.ireturn, 1) := by decide +kernel
theorem dX1_note_0 : decode cX1_note 0 = .ok (.aload_n 0, 1) := by decide +kernel
theorem dX1_note_1 : decode cX1_note 1 = .ok (.getfield 25, 3) := by decide +kernel
theorem dX1_note_4 : decode cX1_note 4 = .ok (.bipush 40, 2) := by decide +kernel
theorem dX1_note_6 : decode cX1_note 6 = .ok (.if_icmp .lt 24, 3) := by decide +kernel
theorem dX1_note_9 : decode cX1_note 9 = .ok (.aload_n 0, 1) := by decide +kernel
theorem dX1_note_10 : decode cX1_note 10 = .ok (.getfield 11, 3) := by decide +kernel
theorem dX1_note_13 : decode cX1_note 13 = .ok (.iconst 1, 1) := by decide +kernel
theorem dX1_note_14 : decode cX1_note 14 = .ok (.aload_n 0, 1) := by decide +kernel
theorem dX1_note_15 : decode cX1_note 15 = .ok (.getfield 11, 3) := by decide +kernel
theorem dX1_note_18 : decode cX1_note 18 = .ok (.iconst 0, 1) := by decide +kernel
theorem dX1_note_19 : decode cX1_note 19 = .ok (.bipush 39, 2) := by decide +kernel
theorem dX1_note_21 : decode cX1_note 21 = .ok (.invokestatic 42, 3) := by decide +kernel
theorem dX1_note_24 : decode cX1_note 24 = .ok (.aload_n 0, 1) := by decide +kernel
theorem dX1_note_25 : decode cX1_note 25 = .ok (.bipush 39, 2) := by decide +kernel
theorem dX1_note_27 : decode cX1_note 27 = .ok (.putfield 25, 3) := by decide +kernel
theorem dX1_note_30 : decode cX1_note 30 = .ok (.aload_n 0, 1) := by decide +kernel
theorem dX1_note_31 : decode cX1_note 31 = .ok (.getfield 25, 3) := by decide +kernel
theorem dX1_note_34 : decode cX1_note 34 = .ok (.ifCond .lt 23, 3) := by decide +kernel
theorem dX1_note_37 : decode cX1_note 37 = .ok (.aload_n 0, 1) := by decide +kernel
theorem dX1_note_38 : decode cX1_note 38 = .ok (.getfield 11, 3) := by decide +kernel
theorem dX1_note_41 : decode cX1_note 41 = .ok (.aload_n 0, 1) := by decide +kernel
theorem dX1_note_42 : decode cX1_note 42 = .ok (.getfield 25, 3) := by decide +kernel
theorem dX1_note_45 : decode cX1_note 45 = .ok (.iload_n 1, 1) := by decide +kernel
theorem dX1_note_46 : decode cX1_note 46 = .ok (.iastore, 1) := by decide +kernel
theorem dX1_note_47 : decode cX1_note 47 = .ok (.aload_n 0, 1) := by decide +kernel
theorem dX1_note_48 : decode cX1_note 48 = .ok (.dup, 1) := by decide +kernel
theorem dX1_note_49 : decode cX1_note 49 = .ok (.getfield 25, 3) := by decide +kernel
theorem dX1_note_52 : decode cX1_note 52 = .ok (.iconst 1, 1) := by decide +kernel
theorem dX1_note_53 : decode cX1_note 53 = .ok (.iadd, 1) := by decide +kernel
theorem dX1_note_54 : decode cX1_note 54 = .ok (.putfield 25, 3) := by decide +kernel
theorem dX1_note_57 : decode cX1_note 57 = .ok (.return_, 1) := by decide +kernel
theorem dX2_init_0 : decode cX2_init 0 = .ok (.aload_n 0, 1) := by decide +kernel
theorem dX2_init_1 : decode cX2_init 1 = .ok (.invokespecial 5, 3) := by decide +kernel
theorem dX2_init_4 : decode cX2_init 4 = .ok (.aload_n 0, 1) := by decide +kernel
theorem dX2_init_5 : decode cX2_init 5 = .ok (.bipush 12, 2) := by decide +kernel
theorem dX2_init_7 : decode cX2_init 7 = .ok (.newarray .int, 2) := by decide +kernel
theorem dX2_init_9 : decode cX2_init 9 = .ok (.putfield 11, 3) := by decide +kernel
theorem dX2_init_12 : decode cX2_init 12 = .ok (.aload_n 0, 1) := by decide +kernel
theorem dX2_init_13 : decode cX2_init 13 = .ok (.bipush 12, 2) := by decide +kernel
theorem dX2_init_15 : decode cX2_init 15 = .ok (.newarray .int, 2) := by decide +kernel
theorem dX2_init_17 : decode cX2_init 17 = .ok (.putfield 15, 3) := by decide +kernel
theorem dX2_init_20 : decode cX2_init 20 = .ok (.aload_n 0, 1) := by decide +kernel
theorem dX2_init_21 : decode cX2_init 21 = .ok (.bipush 12, 2) := by decide +kernel
theorem dX2_init_23 : decode cX2_init 23 = .ok (.newarray .int, 2) := by decide +kernel
theorem dX2_init_25 : decode cX2_init 25 = .ok (.putfield 18, 3) := by decide +kernel
theorem dX2_init_28 : decode cX2_init 28 = .ok (.aload_n 0, 1) := by decide +kernel
theorem dX2_init_29 : decode cX2_init 29 = .ok (.bipush 64, 2) := by decide +kernel
theorem dX2_init_31 : decode cX2_init 31 = .ok (.newarray .int, 2) := by decide +kernel
theorem dX2_init_33 : decode cX2_init 33 = .ok (.putfield 21, 3) := by decide +kernel
theorem dX2_init_36 : decode cX2_init 36 = .ok (.aload_n 0, 1) := by decide +kernel
theorem dX2_init_37 : decode cX2_init 37 = .ok (.lconst 0, 1) := by decide +kernel
theorem dX2_init_38 : decode cX2_init 38 = .ok (.putfield 24, 3) := by decide +kernel
theorem dX2_init_41 : decode cX2_init 41 = .ok (.aload_n 0, 1) := by decide +kernel
theorem dX2_init_42 : decode cX2_init 42 = .ok (.iconst 0, 1) := by decide +kernel
theorem dX2_init_43 : decode cX2_init 43 = .ok (.putfield 28, 3) := by decide +kernel
theorem dX2_init_46 : decode cX2_init 46 = .ok (.aload_n 0, 1) := by decide +kernel
theorem dX2_init_47 : decode cX2_init 47 = .ok (.iconst 0, 1) := by decide +kernel
theorem dX2_init_48 : decode cX2_init 48 = .ok (.putfield 32, 3) := by decide +kernel
theorem dX2_init_51 : decode cX2_init 51 = .ok (.aload_n 0, 1) := by decide +kernel
theorem dX2_init_52 : decode cX2_init 52 = .ok (.iconst 0, 1) := by decide +kernel
theorem dX2_init_53 : decode cX2_init 53 = .ok (.putfield 35, 3) := by decide +kernel
theorem dX2_init_56 : decode cX2_init 56 = .ok (.aload_n 0, 1) := by decide +kernel
theorem dX2_init_57 : decode cX2_init 57 = .ok (.bipush 20, 2) := by decide +kernel
theorem dX2_init_59 : decode cX2_init 59 = .ok (.putfield 38, 3) := by decide +kernel
theorem dX2_init_62 : decode cX2_init 62 = .ok (.aload_n 0, 1) := by decide +kernel
theorem dX2_init_63 : decode cX2_init 63 = .ok (.iconst 0, 1) := by decide +kernel
theorem dX2_init_64 : decode cX2_init 64 = .ok (.putfield 41, 3) := by decide +kernel
theorem dX2_init_67 : decode cX2_init 67 = .ok (.aload_n 0, 1) := by decide +kernel
theorem dX2_init_68 : decode cX2_init 68 = .ok (.getfield 21, 3) := by decide +kernel
theorem dX2_init_71 : decode cX2_init 71 = .ok (.iconst (-1), 1) := by decide +kernel
theorem dX2_init_72 : decode cX2_init 72 = .ok (.invokestatic 44, 3) := by decide +kernel
theorem dX2_init_75 : decode cX2_init 75 = .ok (.return_, 1) := by decide +kernel
theorem dX2_clear_0 : decode cX2_clear 0 = .ok (.aload_n 0, 1) := by decide +kernel
theorem dX2_clear_1 : decode cX2_clear 1 = .ok (.iconst 0, 1) := by decide +kernel
theorem dX2_clear_2 : decode cX2_clear 2 = .ok (.putfield 28, 3) := by decide +kernel
theorem dX2_clear_5 : decode cX2_clear 5 = .ok (.aload_n 0, 1) := by decide +kernel
theorem dX2_clear_6 : decode cX2_clear 6 = .ok (.iconst 0, 1) := by decide +kernel
theorem dX2_clear_7 : decode cX2_clear 7 = .ok (.putfield 32, 3) := by decide +kernel
theorem dX2_clear_10 : decode cX2_clear 10 = .ok (.aload_n 0, 1) := by decide +kernel
theorem dX2_clear_11 : decode cX2_clear 11 = .ok (.iconst 0, 1) := by decide +kernel
theorem dX2_clear_12 : decode cX2_clear 12 = .ok (.putfield 35, 3) := by decide +kernel
theorem dX2_clear_15 : decode cX2_clear 15 = .ok (.aload_n 0, 1) := by decide +kernel
theorem dX2_clear_16 : decode cX2_clear 16 = .ok (.bipush 20, 2) := by decide +kernel
theorem dX2_clear_18 : decode cX2_clear 18 = .ok (.putfield 38, 3) := by decide +kernel
theorem dX2_clear_21 : decode cX2_clear 21 = .ok (.aload_n 0, 1) := by decide +kernel
theorem dX2_clear_22 : decode cX2_clear 22 = .ok (.iconst 0, 1) := by decide +kernel
theorem dX2_clear_23 : decode cX2_clear 23 = .ok (.putfield 41, 3) := by decide +kernel
theorem dX2_clear_26 : decode cX2_clear 26 = .ok (.aload_n 0, 1) := by decide +kernel
theorem dX2_clear_27 : decode cX2_clear 27 = .ok (.getfield 21, 3) := by decide +kernel
theorem dX2_clear_30 : decode cX2_clear 30 = .ok (.iconst (-1), 1) := by decide +kernel
theorem dX2_clear_31 : decode cX2_clear 31 = .ok (.invokestatic 44, 3) := by decide +kernel
theorem dX2_clear_34 : decode cX2_clear 34 = .ok (.return_, 1) := by decide +kernel
theorem dX2_addLink_0 : decode cX2_addLink 0 = .ok (.aload_n 0, 1) := by decide +kernel
theorem dX2_addLink_1 : decode cX2_addLink 1 = .ok (.getfield 32, 3) := by decide +kernel
theorem dX2_addLink_4 : decode cX2_addLink 4 = .ok (.ifCond .lt 26, 3) := by decide +kernel
theorem dX2_addLink_7 : decode cX2_addLink 7 = .ok (.aload_n 0, 1) := by decide +kernel
theorem dX2_addLink_8 : decode cX2_addLink 8 = .ok (.getfield 32, 3) := by decide +kernel
theorem dX2_addLink_11 : decode cX2_addLink 11 = .ok (.bipush 12, 2) := by decide +kernel
theorem dX2_addLink_13 : decode cX2_addLink 13 = .ok (.if_icmp .ge 17, 3) := by decide +kernel
theorem dX2_addLink_16 : decode cX2_addLink 16 = .ok (.iload_n 1, 1) := by decide +kernel
theorem dX2_addLink_17 : decode cX2_addLink 17 = .ok (.invokestatic 50, 3) := by decide +kernel
theorem dX2_addLink_20 : decode cX2_addLink 20 = .ok (.ifCond .eq 10, 3) := by decide +kernel
theorem dX2_addLink_23 : decode cX2_addLink 23 = .ok (.iload_n 2, 1) := by decide +kernel
theorem dX2_addLink_24 : decode cX2_addLink 24 = .ok (.invokestatic 50, 3) := by decide +kernel
theorem dX2_addLink_27 : decode cX2_addLink 27 = .ok (.ifCond .ne 4, 3) := by decide +kernel
theorem dX2_addLink_30 : decode cX2_addLink 30 = .ok (.return_, 1) := by decide +kernel
theorem dX2_addLink_31 : decode cX2_addLink 31 = .ok (.aload_n 0, 1) := by decide +kernel
theorem dX2_addLink_32 : decode cX2_addLink 32 = .ok (.getfield 11, 3) := by decide +kernel
theorem dX2_addLink_35 : decode cX2_addLink 35 = .ok (.aload_n 0, 1) := by decide +kernel
theorem dX2_addLink_36 : decode cX2_addLink 36 = .ok (.getfield 32, 3) := by decide +kernel
theorem dX2_addLink_39 : decode cX2_addLink 39 = .ok (.iload_n 1, 1) := by decide +kernel
theorem dX2_addLink_40 : decode cX2_addLink 40 = .ok (.iload_n 2, 1) := by decide +kernel
theorem dX2_addLink_41 : decode cX2_addLink 41 = .ok (.invokestatic 54, 3) := by decide +kernel
theorem dX2_addLink_44 : decode cX2_addLink 44 = .ok (.iastore, 1) := by decide +kernel
theorem dX2_addLink_45 : decode cX2_addLink 45 = .ok (.aload_n 0, 1) := by decide +kernel
theorem dX2_addLink_46 : decode cX2_addLink 46 = .ok (.getfield 15, 3) := by decide +kernel
theorem dX2_addLink_49 : decode cX2_addLink 49 = .ok (.aload_n 0, 1) := by decide +kernel
theorem dX2_addLink_50 : decode cX2_addLink 50 = .ok (.getfield 32, 3) := by decide +kernel
theorem dX2_addLink_53 : decode cX2_addLink 53 = .ok (.iload_n 1, 1) := by decide +kernel
theorem dX2_addLink_54 : decode cX2_addLink 54 = .ok (.iload_n 2, 1) := by decide +kernel
theorem dX2_addLink_55 : decode cX2_addLink 55 = .ok (.invokestatic 60, 3) := by decide +kernel
theorem dX2_addLink_58 : decode cX2_addLink 58 = .ok (.iastore, 1) := by decide +kernel
theorem dX2_addLink_59 : decode cX2_addLink 59 = .ok (.aload_n 0, 1) := by decide +kernel
theorem dX2_addLink_60 : decode cX2_addLink 60 = .ok (.getfield 18, 3) := by decide +kernel
theorem dX2_addLink_63 : decode cX2_addLink 63 = .ok (.aload_n 0, 1) := by decide +kernel
theorem dX2_addLink_64 : decode cX2_addLink 64 = .ok (.getfield 32, 3) := by decide +kernel
theorem dX2_addLink_67 : decode cX2_addLink 67 = .ok (.iload_n 3, 1) := by decide +kernel
theorem dX2_addLink_68 : decode cX2_addLink 68 = .ok (.iastore, 1) := by decide +kernel
theorem dX2_addLink_69 : decode cX2_addLink 69 = .ok (.aload_n 0, 1) := by decide +kernel
theorem dX2_addLink_70 : decode cX2_addLink 70 = .ok (.getfield 21, 3) := by decide +kernel
theorem dX2_addLink_73 : decode cX2_addLink 73 = .ok (.iload_n 1, 1) := by decide +kernel
theorem dX2_addLink_74 : decode cX2_addLink 74 = .ok (.bipush 8, 2) := by decide +kernel
theorem dX2_addLink_76 : decode cX2_addLink 76 = .ok (.imul, 1) := by decide +kernel
theorem dX2_addLink_77 : decode cX2_addLink 77 = .ok (.iload_n 2, 1) := by decide +kernel
theorem dX2_addLink_78 : decode cX2_addLink 78 = .ok (.iadd, 1) := by decide +kernel
theorem dX2_addLink_79 : decode cX2_addLink 79 = .ok (.aload_n 0, 1) := by decide +kernel
theorem dX2_addLink_80 : decode cX2_addLink 80 = .ok (.getfield 32, 3) := by decide +kernel
theorem dX2_addLink_83 : decode cX2_addLink 83 = .ok (.iastore, 1) := by decide +kernel
theorem dX2_addLink_84 : decode cX2_addLink 84 = .ok (.aload_n 0, 1) := by decide +kernel
theorem dX2_addLink_85 : decode cX2_addLink 85 = .ok (.getfield 21, 3) := by decide +kernel
theorem dX2_addLink_88 : decode cX2_addLink 88 = .ok (.iload_n 2, 1) := by decide +kernel
theorem dX2_addLink_89 : decode cX2_addLink 89 = .ok (.bipush 8, 2) := by decide +kernel
theorem dX2_addLink_91 : decode cX2_addLink 91 = .ok (.imul, 1) := by decide +kernel
theorem dX2_addLink_92 : decode cX2_addLink 92 = .ok (.iload_n 1, 1) := by decide +kernel
theorem dX2_addLink_93 : decode cX2_addLink 93 = .ok (.iadd, 1) := by decide +kernel
theorem dX2_addLink_94 : decode cX2_addLink 94 = .ok (.aload_n 0, 1) := by decide +kernel
theorem dX2_addLink_95 : decode cX2_addLink 95 = .ok (.getfield 32, 3) := by decide +kernel
theorem dX2_addLink_98 : decode cX2_addLink 98 = .ok (.iastore, 1) := by decide +kernel
theorem dX2_addLink_99 : decode cX2_addLink 99 = .ok (.aload_n 0, 1) := by decide +kernel
theorem dX2_addLink_100 : decode cX2_addLink 100 = .ok (.dup, 1) := by decide +kernel
theorem dX2_addLink_101 : decode cX2_addLink 101 = .ok (.getfield 32, 3) := by decide +kernel
theorem dX2_addLink_104 : decode cX2_addLink 104 = .ok (.iconst 1, 1) := by decide +kernel
theorem dX2_addLink_105 : decode cX2_addLink 105 = .ok (.iadd, 1) := by decide +kernel
theorem dX2_addLink_106 : decode cX2_addLink 106 = .ok (.putfield 32, 3) := by decide +kernel
theorem dX2_addLink_109 : decode cX2_addLink 109 = .ok (.return_, 1) := by decide +kernel
theorem dX2_hasPost_0 : decode cX2_hasPost 0 = .ok (.iload_n 1, 1) := by decide +kernel
theorem dX2_hasPost_1 : decode cX2_hasPost 1 = .ok (.ifCond .lt 15, 3) := by decide +kernel
theorem dX2_hasPost_4 : decode cX2_hasPost 4 = .ok (.iload_n 1, 1) := by decide +kernel
theorem dX2_hasPost_5 : decode cX2_hasPost 5 = .ok (.aload_n 0, 1) := by decide +kernel
theorem dX2_hasPost_6 : decode cX2_hasPost 6 = .ok (.getfield 28, 3) := by decide +kernel
theorem dX2_hasPost_9 : decode cX2_hasPost 9 = .ok (.if_icmp .ge 7, 3) := by decide +kernel
theorem dX2_hasPost_12 : decode cX2_hasPost 12 = .ok (.iconst 1, 1) := by decide +kernel
theorem dX2_hasPost_13 : decode cX2_hasPost 13 = .ok (.goto 4, 3) := by decide +kernel
theorem dX2_hasPost_16 : decode cX2_hasPost 16 = .ok (.iconst 0, 1) := by decide +kernel
theorem dX2_hasPost_17 : decode cX2_hasPost 17 = .ok (.ireturn, 1) := by decide +kernel
theorem dX2_hasLink_0 : decode cX2_hasLink 0 = .ok (.iload_n 1, 1) := by decide +kernel
theorem dX2_hasLink_1 : decode cX2_hasLink 1 = .ok (.ifCond .lt 21, 3) := by decide +kernel
theorem dX2_hasLink_4 : decode cX2_hasLink 4 = .ok (.iload_n 1, 1) := by decide +kernel
theorem dX2_hasLink_5 : decode cX2_hasLink 5 = .ok (.aload_n 0, 1) := by decide +kernel
theorem dX2_hasLink_6 : decode cX2_hasLink 6 = .ok (.getfield 32, 3) := by decide +kernel
theorem dX2_hasLink_9 : decode cX2_hasLink 9 = .ok (.if_icmp .ge 13, 3) := by decide +kernel
theorem dX2_hasLink_12 : decode cX2_hasLink 12 = .ok (.iload_n 1, 1) := by decide +kernel
theorem dX2_hasLink_13 : decode cX2_hasLink 13 = .ok (.bipush 12, 2) := by decide +kernel
theorem dX2_hasLink_15 : decode cX2_hasLink 15 = .ok (.if_icmp .ge 7, 3) := by decide +kernel
theorem dX2_hasLink_18 : decode cX2_hasLink 18 = .ok (.iconst 1, 1) := by decide +kernel
theorem dX2_hasLink_19 : decode cX2_hasLink 19 = .ok (.goto 4, 3) := by decide +kernel
theorem dX2_hasLink_22 : decode cX2_hasLink 22 = .ok (.iconst 0, 1) := by decide +kernel
theorem dX2_hasLink_23 : decode cX2_hasLink 23 = .ok (.ireturn, 1) := by decide +kernel
theorem dX2_hasSet_0 : decode cX2_hasSet 0 = .ok (.iload_n 1, 1) := by decide +kernel
theorem dX2_hasSet_1 : decode cX2_hasSet 1 = .ok (.ifCond .lt 15, 3) := by decide +kernel
theorem dX2_hasSet_4 : decode cX2_hasSet 4 = .ok (.iload_n 1, 1) := by decide +kernel
theorem dX2_hasSet_5 : decode cX2_hasSet 5 = .ok (.aload_n 0, 1) := by decide +kernel
theorem dX2_hasSet_6 : decode cX2_hasSet 6 = .ok (.invokevirtual 63, 3) := by decide +kernel
theorem dX2_hasSet_9 : decode cX2_hasSet 9 = .ok (.if_icmp .ge 7, 3) := by decide +kernel
theorem dX2_hasSet_12 : decode cX2_hasSet 12 = .ok (.iconst 1, 1) := by decide +kernel
theorem dX2_hasSet_13 : decode cX2_hasSet 13 = .ok (.goto 4, 3) := by decide +kernel
theorem dX2_hasSet_16 : decode cX2_hasSet 16 = .ok (.iconst 0, 1) := by decide +kernel
theorem dX2_hasSet_17 : decode cX2_hasSet 17 = .ok (.ireturn, 1) := by decide +kernel
theorem dX2_setCount_0 : decode cX2_setCount 0 = .ok (.iconst 1, 1) := by decide +kernel
theorem dX2_setCount_1 : decode cX2_setCount 1 = .ok (.aload_n 0, 1) := by decide +kernel
theorem dX2_setCount_2 : decode cX2_setCount 2 = .ok (.getfield 32, 3) := by decide +kernel
theorem dX2_setCount_5 : decode cX2_setCount 5 = .ok (.ishl, 1) := by decide +kernel
theorem dX2_setCount_6 : decode cX2_setCount 6 = .ok (.ireturn, 1) := by decide +kernel
theorem dX2_allLinks_0 : decode cX2_allLinks 0 = .ok (.aload_n 0, 1) := by decide +kernel
theorem dX2_allLinks_1 : decode cX2_allLinks 1 = .ok (.invokevirtual 63, 3) := by decide +kernel
theorem dX2_allLinks_4 : decode cX2_allLinks 4 = .ok (.iconst 1, 1) := by decide +kernel
theorem dX2_allLinks_5 : decode cX2_allLinks 5 = .ok (.isub, 1) := by decide +kernel
theorem dX2_allLinks_6 : decode cX2_allLinks 6 = .ok (.ireturn, 1) := by decide +kernel
theorem dX2_lowOf_0 : decode cX2_lowOf 0 = .ok (.aload_n 0, 1) := by decide +kernel
theorem dX2_lowOf_1 : decode cX2_lowOf 1 = .ok (.iload_n 1, 1) := by decide +kernel
theorem dX2_lowOf_2 : decode cX2_lowOf 2 = .ok (.invokevirtual 67, 3) := by decide +kernel
theorem dX2_lowOf_5 : decode cX2_lowOf 5 = .ok (.ifCond .eq 12, 3) := by decide +kernel
theorem dX2_lowOf_8 : decode cX2_lowOf 8 = .ok (.aload_n 0, 1) := by decide +kernel
theorem dX2_lowOf_9 : decode cX2_lowOf 9 = .ok (.getfield 11, 3) := by decide +kernel
theorem dX2_lowOf_12 : decode cX2_lowOf 12 = .ok (.iload_n 1, 1) := by decide +kernel
theorem dX2_lowOf_13 : decode cX2_lowOf 13 = .ok (.iaload, 1) := by decide +kernel
theorem dX2_lowOf_14 : decode cX2_lowOf 14 = .ok (.goto 4, 3) := by decide +kernel
theorem dX2_lowOf_17 : decode cX2_lowOf 17 = .ok (.iconst (-1), 1) := by decide +kernel
theorem dX2_lowOf_18 : decode cX2_lowOf 18 = .ok (.ireturn, 1) := by decide +kernel
theorem dX2_highOf_0 : decode cX2_highOf 0 = .ok (.aload_n 0, 1) := by decide +kernel
theorem dX2_highOf_1 : decode cX2_highOf 1 = .ok (.iload_n 1, 1) := by decide +kernel
theorem dX2_highOf_2 : decode cX2_highOf 2 = .ok (.invokevirtual 67, 3) := by decide +kernel
theorem dX2_highOf_5 : decode cX2_highOf 5 = .ok (.ifCond .eq 12, 3) := by decide +kernel
theorem dX2_highOf_8 : decode cX2_highOf 8 = .ok (.aload_n 0, 1) := by decide +kernel
theorem dX2_highOf_9 : decode cX2_highOf 9 = .ok (.getfield 15, 3) := by decide +kernel
theorem dX2_highOf_12 : decode cX2_highOf 12 = .ok (.iload_n 1, 1) := by decide +kernel
theorem dX2_highOf_13 : decode cX2_highOf 13 = .ok (.iaload, 1) := by decide +kernel
theorem dX2_highOf_14 : decode cX2_highOf 14 = .ok (.goto 4, 3) := by decide +kernel
theorem dX2_highOf_17 : decode cX2_highOf 17 = .ok (.iconst (-1), 1) := by decide +kernel
theorem dX2_highOf_18 : decode cX2_highOf 18 = .ok (.ireturn, 1) := by decide +kernel
theorem dX2_riskOf_0 : decode cX2_riskOf 0 = .ok (.aload_n 0, 1) := by decide +kernel
theorem dX2_riskOf_1 : decode cX2_riskOf 1 = .ok (.iload_n 1, 1) := by decide +kernel
theorem dX2_riskOf_2 : decode cX2_riskOf 2 = .ok (.invokevirtual 67, 3) := by decide +kernel
theorem dX2_riskOf_5 : decode cX2_riskOf 5 = .ok (.ifCond .eq 12, 3) := by decide +kernel
theorem dX2_riskOf_8 : decode cX2_riskOf 8 = .ok (.aload_n 0, 1) := by decide +kernel
theorem dX2_riskOf_9 : decode cX2_riskOf 9 = .ok (.getfield 18, 3) := by decide +kernel
theorem dX2_riskOf_12 : decode cX2_riskOf 12 = .ok (.iload_n 1, 1) := by decide +kernel
theorem dX2_riskOf_13 : decode cX2_riskOf 13 = .ok (.iaload, 1) := by decide +kernel
theorem dX2_riskOf_14 : decode cX2_riskOf 14 = .ok (.goto 4, 3) := by decide +kernel
theorem dX2_riskOf_17 : decode cX2_riskOf 17 = .ok (.iconst (-1), 1) := by decide +kernel
theorem dX2_riskOf_18 : decode cX2_riskOf 18 = .ok (.ireturn, 1) := by decide +kernel
theorem dX2_linkBetween_0 : decode cX2_linkBetween 0 = .ok (.iload_n 1, 1) := by decide +kernel
theorem dX2_linkBetween_1 : decode cX2_linkBetween 1 = .ok (.invokestatic 50, 3) := by decide +kernel
theorem dX2_linkBetween_4 : decode cX2_linkBetween 4 = .ok (.ifCond .eq 24, 3) := by decide +kernel
theorem dX2_linkBetween_7 : decode cX2_linkBetween 7 = .ok (.iload_n 2, 1) := by decide +kernel
theorem dX2_linkBetween_8 : decode cX2_linkBetween 8 = .ok (.invokestatic 50, 3) := by decide +kernel
theorem dX2_linkBetween_11 : decode cX2_linkBetween 11 = .ok (.ifCond .eq 17, 3) := by decide +kernel
theorem dX2_linkBetween_14 : decode cX2_linkBetween 14 = .ok (.aload_n 0, 1) := by decide +kernel
theorem dX2_linkBetween_15 : decode cX2_linkBetween 15 = .ok (.getfield 21, 3) := by decide +kernel
theorem dX2_linkBetween_18 : decode cX2_linkBetween 18 = .ok (.iload_n 1, 1) := by decide +kernel
theorem dX2_linkBetween_19 : decode cX2_linkBetween 19 = .ok (.bipush 8, 2) := by decide +kernel
theorem dX2_linkBetween_21 : decode cX2_linkBetween 21 = .ok (.imul, 1) := by decide +kernel
theorem dX2_linkBetween_22 : decode cX2_linkBetween 22 = .ok (.iload_n 2, 1) := by decide +kernel
theorem dX2_linkBetween_23 : decode cX2_linkBetween 23 = .ok (.iadd, 1) := by decide +kernel
theorem dX2_linkBetween_24 : decode cX2_linkBetween 24 = .ok (.iaload, 1) := by decide +kernel
theorem dX2_linkBetween_25 : decode cX2_linkBetween 25 = .ok (.goto 4, 3) := by decide +kernel
theorem dX2_linkBetween_28 : decode cX2_linkBetween 28 = .ok (.iconst (-1), 1) := by decide +kernel
theorem dX2_linkBetween_29 : decode cX2_linkBetween 29 = .ok (.ireturn, 1) := by decide +kernel
theorem dX2_linksAlong_0 : decode cX2_linksAlong 0 = .ok (.iconst 0, 1) := by decide +kernel
theorem dX2_linksAlong_1 : decode cX2_linksAlong 1 = .ok (.istore_n 2, 1) := by decide +kernel
theorem dX2_linksAlong_2 : decode cX2_linksAlong 2 = .ok (.iconst 1, 1) := by decide +kernel
theorem dX2_linksAlong_3 : decode cX2_linksAlong 3 = .ok (.istore_n 3, 1) := by decide +kernel
theorem dX2_linksAlong_4 : decode cX2_linksAlong 4 = .ok (.iload_n 3, 1) := by decide +kernel
theorem dX2_linksAlong_5 : decode cX2_linksAlong 5 = .ok (.iload_n 1, 1) := by decide +kernel
theorem dX2_linksAlong_6 : decode cX2_linksAlong 6 = .ok (.invokestatic 70, 3) := by decide +kernel
theorem dX2_linksAlong_9 : decode cX2_linksAlong 9 = .ok (.if_icmp .ge 40, 3) := by decide +kernel
theorem dX2_linksAlong_12 : decode cX2_linksAlong 12 = .ok (.aload_n 0, 1) := by decide +kernel
theorem dX2_linksAlong_13 : decode cX2_linksAlong 13 = .ok (.iload_n 1, 1) := by decide +kernel
theorem dX2_linksAlong_14 : decode cX2_linksAlong 14 = .ok (.iload_n 3, 1) := by decide +kernel
theorem dX2_linksAlong_15 : decode cX2_linksAlong 15 = .ok (.iconst 1, 1) := by decide +kernel
theorem dX2_linksAlong_16 : decode cX2_linksAlong 16 = .ok (.isub, 1) := by decide +kernel
theorem dX2_linksAlong_17 : decode cX2_linksAlong 17 = .ok (.invokestatic 74, 3) := by decide +kernel
theorem dX2_linksAlong_20 : decode cX2_linksAlong 20 = .ok (.iload_n 1, 1) := by decide +kernel
theorem dX2_linksAlong_21 : decode cX2_linksAlong 21 = .ok (.iload_n 3, 1) := by decide +kernel
theorem dX2_linksAlong_22 : decode cX2_linksAlong 22 = .ok (.invokestatic 74, 3) := by decide +kernel
theorem dX2_linksAlong_25 : decode cX2_linksAlong 25 = .ok (.invokevirtual 77, 3) := by decide +kernel
theorem dX2_linksAlong_28 : decode cX2_linksAlong 28 = .ok (.istore 4, 2) := by decide +kernel
theorem dX2_linksAlong_30 : decode cX2_linksAlong 30 = .ok (.iload 4, 2) := by decide +kernel
theorem dX2_linksAlong_32 : decode cX2_linksAlong 32 = .ok (.iconst (-1), 1) := by decide +kernel
theorem dX2_linksAlong_33 : decode cX2_linksAlong 33 = .ok (.if_icmp .eq 10, 3) := by decide +kernel
theorem dX2_linksAlong_36 : decode cX2_linksAlong 36 = .ok (.iload_n 2, 1) := by decide +kernel
theorem dX2_linksAlong_37 : decode cX2_linksAlong 37 = .ok (.iconst 1, 1) := by decide +kernel
theorem dX2_linksAlong_38 : decode cX2_linksAlong 38 = .ok (.iload 4, 2) := by decide +kernel
theorem dX2_linksAlong_40 : decode cX2_linksAlong 40 = .ok (.ishl, 1) := by decide +kernel
theorem dX2_linksAlong_41 : decode cX2_linksAlong 41 = .ok (.ior, 1) := by decide +kernel
theorem dX2_linksAlong_42 : decode cX2_linksAlong 42 = .ok (.istore_n 2, 1) := by decide +kernel
theorem dX2_linksAlong_43 : decode cX2_linksAlong 43 = .ok (.iinc 3 1, 3) := by decide +kernel
theorem dX2_linksAlong_46 : decode cX2_linksAlong 46 = .ok (.goto (-42), 3) := by decide +kernel
theorem dX2_linksAlong_49 : decode cX2_linksAlong 49 = .ok (.iload_n 2, 1) := by decide +kernel
theorem dX2_linksAlong_50 : decode cX2_linksAlong 50 = .ok (.ireturn, 1) := by decide +kernel
theorem dX2_reachedFrom_0 : decode cX2_reachedFrom 0 = .ok (.iconst 1, 1) := by decide +kernel
theorem dX2_reachedFrom_1 : decode cX2_reachedFrom 1 = .ok (.iload_n 1, 1) := by decide +kernel
theorem dX2_reachedFrom_2 : decode cX2_reachedFrom 2 = .ok (.ishl, 1) := by decide +kernel
theorem dX2_reachedFrom_3 : decode cX2_reachedFrom 3 = .ok (.istore_n 3, 1) := by decide +kernel
theorem dX2_reachedFrom_4 : decode cX2_reachedFrom 4 = .ok (.iconst 0, 1) := by decide +kernel
theorem dX2_reachedFrom_5 : decode cX2_reachedFrom 5 = .ok (.istore 4, 2) := by decide +kernel
theorem dX2_reachedFrom_7 : decode cX2_reachedFrom 7 = .ok (.iload 4, 2) := by decide +kernel
theorem dX2_reachedFrom_9 : decode cX2_reachedFrom 9 = .ok (.bipush 8, 2) := by decide +kernel
theorem dX2_reachedFrom_11 : decode cX2_reachedFrom 11 = .ok (.if_icmp .ge 87, 3) := by decide +kernel
theorem dX2_reachedFrom_14 : decode cX2_reachedFrom 14 = .ok (.iload_n 3, 1) := by decide +kernel
theorem dX2_reachedFrom_15 : decode cX2_reachedFrom 15 = .ok (.istore 5, 2) := by decide +kernel
theorem dX2_reachedFrom_17 : decode cX2_reachedFrom 17 = .ok (.iconst 0, 1) := by decide +kernel
theorem dX2_reachedFrom_18 : decode cX2_reachedFrom 18 = .ok (.istore 6, 2) := by decide +kernel
theorem dX2_reachedFrom_20 : decode cX2_reachedFrom 20 = .ok (.iload 6, 2) := by decide +kernel
theorem dX2_reachedFrom_22 : decode cX2_reachedFrom 22 = .ok (.aload_n 0, 1) := by decide +kernel
theorem dX2_reachedFrom_23 : decode cX2_reachedFrom 23 = .ok (.getfield 32, 3) := by decide +kernel
theorem dX2_reachedFrom_26 : decode cX2_reachedFrom 26 = .ok (.if_icmp .ge 58, 3) := by decide +kernel
theorem dX2_reachedFrom_29 : decode cX2_reachedFrom 29 = .ok (.iload 6, 2) := by decide +kernel
theorem dX2_reachedFrom_31 : decode cX2_reachedFrom 31 = .ok (.bipush 12, 2) := by decide +kernel
theorem dX2_reachedFrom_33 : decode cX2_reachedFrom 33 = .ok (.if_icmp .ge 51, 3) := by decide +kernel
theorem dX2_reachedFrom_36 : decode cX2_reachedFrom 36 = .ok (.iconst 1, 1) := by decide +kernel
theorem dX2_reachedFrom_37 : decode cX2_reachedFrom 37 = .ok (.aload_n 0, 1) := by decide +kernel
theorem dX2_reachedFrom_38 : decode cX2_reachedFrom 38 = .ok (.getfield 11, 3) := by decide +kernel
theorem dX2_reachedFrom_41 : decode cX2_reachedFrom 41 = .ok (.iload 6, 2) := by decide +kernel
theorem dX2_reachedFrom_43 : decode cX2_reachedFrom 43 = .ok (.iaload, 1) := by decide +kernel
theorem dX2_reachedFrom_44 : decode cX2_reachedFrom 44 = .ok (.ishl, 1) := by decide +kernel
theorem dX2_reachedFrom_45 : decode cX2_reachedFrom 45 = .ok (.iconst 1, 1) := by decide +kernel
theorem dX2_reachedFrom_46 : decode cX2_reachedFrom 46 = .ok (.aload_n 0, 1) := by decide +kernel
theorem dX2_reachedFrom_47 : decode cX2_reachedFrom 47 = .ok (.getfield 15, 3) := by decide +kernel
theorem dX2_reachedFrom_50 : decode cX2_reachedFrom 50 = .ok (.iload 6, 2) := by decide +kernel
theorem dX2_reachedFrom_52 : decode cX2_reachedFrom 52 = .ok (.iaload, 1) := by decide +kernel
theorem dX2_reachedFrom_53 : decode cX2_reachedFrom 53 = .ok (.ishl, 1) := by decide +kernel
theorem dX2_reachedFrom_54 : decode cX2_reachedFrom 54 = .ok (.ior, 1) := by decide +kernel
theorem dX2_reachedFrom_55 : decode cX2_reachedFrom 55 = .ok (.istore 7, 2) := by decide +kernel
theorem dX2_reachedFrom_57 : decode cX2_reachedFrom 57 = .ok (.iload_n 2, 1) := by decide +kernel
theorem dX2_reachedFrom_58 : decode cX2_reachedFrom 58 = .ok (.iload 6, 2) := by decide +kernel
theorem dX2_reachedFrom_60 : decode cX2_reachedFrom 60 = .ok (.ishr, 1) := by decide +kernel
theorem dX2_reachedFrom_61 : decode cX2_reachedFrom 61 = .ok (.iconst 1, 1) := by decide +kernel
theorem dX2_reachedFrom_62 : decode cX2_reachedFrom 62 = .ok (.iand, 1) := by decide +kernel
theorem dX2_reachedFrom_63 : decode cX2_reachedFrom 63 = .ok (.ifCond .ne 15, 3) := by decide +kernel
theorem dX2_reachedFrom_66 : decode cX2_reachedFrom 66 = .ok (.iload_n 3, 1) := by decide +kernel
theorem dX2_reachedFrom_67 : decode cX2_reachedFrom 67 = .ok (.iload 7, 2) := by decide +kernel
theorem dX2_reachedFrom_69 : decode cX2_reachedFrom 69 = .ok (.iand, 1) := by decide +kernel
theorem dX2_reachedFrom_70 : decode cX2_reachedFrom 70 = .ok (.ifCond .eq 8, 3) := by decide +kernel
theorem dX2_reachedFrom_73 : decode cX2_reachedFrom 73 = .ok (.iload_n 3, 1) := by decide +kernel
theorem dX2_reachedFrom_74 : decode cX2_reachedFrom 74 = .ok (.iload 7, 2) := by decide +kernel
theorem dX2_reachedFrom_76 : decode cX2_reachedFrom 76 = .ok (.ior, 1) := by decide +kernel
theorem dX2_reachedFrom_77 : decode cX2_reachedFrom 77 = .ok (.istore_n 3, 1) := by decide +kernel
theorem dX2_reachedFrom_78 : decode cX2_reachedFrom 78 = .ok (.iinc 6 1, 3) := by decide +kernel
theorem dX2_reachedFrom_81 : decode cX2_reachedFrom 81 = .ok (.goto (-61), 3) := by decide +kernel
theorem dX2_reachedFrom_84 : decode cX2_reachedFrom 84 = .ok (.iload_n 3, 1) := by decide +kernel
theorem dX2_reachedFrom_85 : decode cX2_reachedFrom 85 = .ok (.iload 5, 2) := by decide +kernel
theorem dX2_reachedFrom_87 : decode cX2_reachedFrom 87 = .ok (.if_icmp .ne 5, 3) := by decide +kernel
theorem dX2_reachedFrom_90 : decode cX2_reachedFrom 90 = .ok (.iload_n 3, 1) := by decide +kernel
theorem dX2_reachedFrom_91 : decode cX2_reachedFrom 91 = .ok (.ireturn, 1) := by decide +kernel
theorem dX2_reachedFrom_92 : decode cX2_reachedFrom 92 = .ok (.iinc 4 1, 3) := by decide +kernel
theorem dX2_reachedFrom_95 : decode cX2_reachedFrom 95 = .ok (.goto (-88), 3) := by decide +kernel
theorem dX2_reachedFrom_98 : decode cX2_reachedFrom 98 = .ok (.iload_n 3, 1) := by decide +kernel
theorem dX2_reachedFrom_99 : decode cX2_reachedFrom 99 = .ok (.ireturn, 1) := by decide +kernel
theorem dX2_partsWithout_0 : decode cX2_partsWithout 0 = .ok (.iconst 0, 1) := by decide +kernel
theorem dX2_partsWithout_1 : decode cX2_partsWithout 1 = .ok (.istore_n 2, 1) := by decide +kernel
theorem dX2_partsWithout_2 : decode cX2_partsWithout 2 = .ok (.iconst 0, 1) := by decide +kernel
theorem dX2_partsWithout_3 : decode cX2_partsWithout 3 = .ok (.istore_n 3, 1) := by decide +kernel
theorem dX2_partsWithout_4 : decode cX2_partsWithout 4 = .ok (.iconst 0, 1) := by decide +kernel
theorem dX2_partsWithout_5 : decode cX2_partsWithout 5 = .ok (.istore 4, 2) := by decide +kernel
theorem dX2_partsWithout_7 : decode cX2_partsWithout 7 = .ok (.iload 4, 2) := by decide +kernel
theorem dX2_partsWithout_9 : decode cX2_partsWithout 9 = .ok (.aload_n 0, 1) := by decide +kernel
theorem dX2_partsWithout_10 : decode cX2_partsWithout 10 = .ok (.getfield 28, 3) := by decide +kernel
theorem dX2_partsWithout_13 : decode cX2_partsWithout 13 = .ok (.if_icmp .ge 31, 3) := by decide +kernel
theorem dX2_partsWithout_16 : decode cX2_partsWithout 16 = .ok (.iload_n 3, 1) := by decide +kernel
theorem dX2_partsWithout_17 : decode cX2_partsWithout 17 = .ok (.iload 4, 2) := by decide +kernel
theorem dX2_partsWithout_19 : decode cX2_partsWithout 19 = .ok (.ishr, 1) := by decide +kernel
theorem dX2_partsWithout_20 : decode cX2_partsWithout 20 = .ok (.iconst 1, 1) := by decide +kernel
theorem dX2_partsWithout_21 : decode cX2_partsWithout 21 = .ok (.iand, 1) := by decide +kernel
theorem dX2_partsWithout_22 : decode cX2_partsWithout 22 = .ok (.ifCond .ne 16, 3) := by decide +kernel
theorem dX2_partsWithout_25 : decode cX2_partsWithout 25 = .ok (.iinc 2 1, 3) := by decide +kernel
theorem dX2_partsWithout_28 : decode cX2_partsWithout 28 = .ok (.iload_n 3, 1) := by decide +kernel
theorem dX2_partsWithout_29 : decode cX2_partsWithout 29 = .ok (.aload_n 0, 1) := by decide +kernel
theorem dX2_partsWithout_30 : decode cX2_partsWithout 30 = .ok (.iload 4, 2) := by decide +kernel
theorem dX2_partsWithout_32 : decode cX2_partsWithout 32 = .ok (.iload_n 1, 1) := by decide +kernel
theorem dX2_partsWithout_33 : decode cX2_partsWithout 33 = .ok (.invokevirtual 80, 3) := by decide +kernel
theorem dX2_partsWithout_36 : decode cX2_partsWithout 36 = .ok (.ior, 1) := by decide +kernel
theorem dX2_partsWithout_37 : decode cX2_partsWithout 37 = .ok (.istore_n 3, 1) := by decide +kernel
theorem dX2_partsWithout_38 : decode cX2_partsWithout 38 = .ok (.iinc 4 1, 3) := by decide +kernel
theorem dX2_partsWithout_41 : decode cX2_partsWithout 41 = .ok (.goto (-34), 3) := by decide +kernel
theorem dX2_partsWithout_44 : decode cX2_partsWithout 44 = .ok (.iload_n 2, 1) := by decide +kernel
theorem dX2_partsWithout_45 : decode cX2_partsWithout 45 = .ok (.ireturn, 1) := by decide +kernel
theorem dX2_startDraws_0 : decode cX2_startDraws 0 = .ok (.aload_n 0, 1) := by decide +kernel
theorem dX2_startDraws_1 : decode cX2_startDraws 1 = .ok (.aload_n 0, 1) := by decide +kernel
theorem dX2_startDraws_2 : decode cX2_startDraws 2 = .ok (.getfield 41, 3) := by decide +kernel
theorem dX2_startDraws_5 : decode cX2_startDraws 5 = .ok (.i2l, 1) := by decide +kernel
theorem dX2_startDraws_6 : decode cX2_startDraws 6 = .ok (.putfield 24, 3) := by decide +kernel
theorem dX2_startDraws_9 : decode cX2_startDraws 9 = .ok (.return_, 1) := by decide +kernel
theorem dX2_drawFailed_0 : decode cX2_drawFailed 0 = .ok (.iconst 0, 1) := by decide +kernel
theorem dX2_drawFailed_1 : decode cX2_drawFailed 1 = .ok (.istore_n 1, 1) := by decide +kernel
theorem dX2_drawFailed_2 : decode cX2_drawFailed 2 = .ok (.iconst 0, 1) := by decide +kernel
theorem dX2_drawFailed_3 : decode cX2_drawFailed 3 = .ok (.istore_n 2, 1) := by decide +kernel
theorem dX2_drawFailed_4 : decode cX2_drawFailed 4 = .ok (.iload_n 2, 1) := by decide +kernel
theorem dX2_drawFailed_5 : decode cX2_drawFailed 5 = .ok (.aload_n 0, 1) := by decide +kernel
theorem dX2_drawFailed_6 : decode cX2_drawFailed 6 = .ok (.getfield 32, 3) := by decide +kernel
theorem dX2_drawFailed_9 : decode cX2_drawFailed 9 = .ok (.if_icmp .ge 64, 3) := by decide +kernel
theorem dX2_drawFailed_12 : decode cX2_drawFailed 12 = .ok (.iload_n 2, 1) := by decide +kernel
theorem dX2_drawFailed_13 : decode cX2_drawFailed 13 = .ok (.bipush 12, 2) := by decide +kernel
theorem dX2_drawFailed_15 : decode cX2_drawFailed 15 = .ok (.if_icmp .ge 58, 3) := by decide +kernel
theorem dX2_drawFailed_18 : decode cX2_drawFailed 18 = .ok (.aload_n 0, 1) := by decide +kernel
theorem dX2_drawFailed_19 : decode cX2_drawFailed 19 = .ok (.aload_n 0, 1) := by decide +kernel
theorem dX2_drawFailed_20 : decode cX2_drawFailed 20 = .ok (.getfield 24, 3) := by decide +kernel
theorem dX2_drawFailed_23 : decode cX2_drawFailed 23 = .ok (.ldc2_w 83, 3) := by decide +kernel
theorem dX2_drawFailed_26 : decode cX2_drawFailed 26 = .ok (.lmul, 1) := by decide +kernel
theorem dX2_drawFailed_27 : decode cX2_drawFailed 27 = .ok (.ldc2_w 85, 3) := by decide +kernel
theorem dX2_drawFailed_30 : decode cX2_drawFailed 30 = .ok (.ladd, 1) := by decide +kernel
theorem dX2_drawFailed_31 : decode cX2_drawFailed 31 = .ok (.ldc2_w 87, 3) := by decide +kernel
theorem dX2_drawFailed_34 : decode cX2_drawFailed 34 = .ok (.lrem, 1) := by decide +kernel
theorem dX2_drawFailed_35 : decode cX2_drawFailed 35 = .ok (.putfield 24, 3) := by decide +kernel
theorem dX2_drawFailed_38 : decode cX2_drawFailed 38 = .ok (.aload_n 0, 1) := by decide +kernel
theorem dX2_drawFailed_39 : decode cX2_drawFailed 39 = .ok (.getfield 24, 3) := by decide +kernel
theorem dX2_drawFailed_42 : decode cX2_drawFailed 42 = .ok (.ldc2_w 89, 3) := by decide +kernel
theorem dX2_drawFailed_45 : decode cX2_drawFailed 45 = .ok (.ldiv, 1) := by decide +kernel
theorem dX2_drawFailed_46 : decode cX2_drawFailed 46 = .ok (.ldc2_w 91, 3) := by decide +kernel
theorem dX2_drawFailed_49 : decode cX2_drawFailed 49 = .ok (.lrem, 1) := by decide +kernel
theorem dX2_drawFailed_50 : decode cX2_drawFailed 50 = .ok (.aload_n 0, 1) := by decide +kernel
theorem dX2_drawFailed_51 : decode cX2_drawFailed 51 = .ok (.getfield 18, 3) := by decide +kernel
theorem dX2_drawFailed_54 : decode cX2_drawFailed 54 = .ok (.iload_n 2, 1) := by decide +kernel
theorem dX2_drawFailed_55 : decode cX2_drawFailed 55 = .ok (.iaload, 1) := by decide +kernel
theorem dX2_drawFailed_56 : decode cX2_drawFailed 56 = .ok (.i2l, 1) := by decide +kernel
theorem dX2_drawFailed_57 : decode cX2_drawFailed 57 = .ok (.lcmp, 1) := by decide +kernel
theorem dX2_drawFailed_58 : decode cX2_drawFailed 58 = .ok (.ifCond .ge 9, 3) := by decide +kernel
theorem dX2_drawFailed_61 : decode cX2_drawFailed 61 = .ok (.iload_n 1, 1) := by decide +kernel
theorem dX2_drawFailed_62 : decode cX2_drawFailed 62 = .ok (.iconst 1, 1) := by decide +kernel
theorem dX2_drawFailed_63 : decode cX2_drawFailed 63 = .ok (.iload_n 2, 1) := by decide +kernel
theorem dX2_drawFailed_64 : decode cX2_drawFailed 64 = .ok (.ishl, 1) := by decide +kernel
theorem dX2_drawFailed_65 : decode cX2_drawFailed 65 = .ok (.ior, 1) := by decide +kernel
theorem dX2_drawFailed_66 : decode cX2_drawFailed 66 = .ok (.istore_n 1, 1) := by decide +kernel
theorem dX2_drawFailed_67 : decode cX2_drawFailed 67 = .ok (.iinc 2 1, 3) := by decide +kernel
theorem dX2_drawFailed_70 : decode cX2_drawFailed 70 = .ok (.goto (-66), 3) := by decide +kernel
theorem dX2_drawFailed_73 : decode cX2_drawFailed 73 = .ok (.iload_n 1, 1) := by decide +kernel
theorem dX2_drawFailed_74 : decode cX2_drawFailed 74 = .ok (.ireturn, 1) := by decide +kernel
theorem dX2_rowLength_0 : decode cX2_rowLength 0 = .ok (.iload_n 0, 1) := by decide +kernel
theorem dX2_rowLength_1 : decode cX2_rowLength 1 = .ok (.bipush 24, 2) := by decide +kernel
theorem dX2_rowLength_3 : decode cX2_rowLength 3 = .ok (.ishr, 1) := by decide +kernel
theorem dX2_rowLength_4 : decode cX2_rowLength 4 = .ok (.ireturn, 1) := by decide +kernel
theorem dX2_rowPost_0 : decode cX2_rowPost 0 = .ok (.iload_n 1, 1) := by decide +kernel
theorem dX2_rowPost_1 : decode cX2_rowPost 1 = .ok (.ifCond .lt 22, 3) := by decide +kernel
theorem dX2_rowPost_4 : decode cX2_rowPost 4 = .ok (.iload_n 1, 1) := by decide +kernel
theorem dX2_rowPost_5 : decode cX2_rowPost 5 = .ok (.iload_n 0, 1) := by decide +kernel
theorem dX2_rowPost_6 : decode cX2_rowPost 6 = .ok (.invokestatic 70, 3) := by decide +kernel
theorem dX2_rowPost_9 : decode cX2_rowPost 9 = .ok (.if_icmp .ge 14, 3) := by decide +kernel
theorem dX2_rowPost_12 : decode cX2_rowPost 12 = .ok (.iload_n 0, 1) := by decide +kernel
theorem dX2_rowPost_13 : decode cX2_rowPost 13 = .ok (.iload_n 1, 1) := by decide +kernel
theorem dX2_rowPost_14 : decode cX2_rowPost 14 = .ok (.iconst 3, 1) := by decide +kernel
theorem dX2_rowPost_15 : decode cX2_rowPost 15 = .ok (.imul, 1) := by decide +kernel
theorem dX2_rowPost_16 : decode cX2_rowPost 16 = .ok (.ishr, 1) := by decide +kernel
theorem dX2_rowPost_17 : decode cX2_rowPost 17 = .ok (.bipush 7, 2) := by decide +kernel
theorem dX2_rowPost_19 : decode cX2_rowPost 19 = .ok (.iand, 1) := by decide +kernel
theorem dX2_rowPost_20 : decode cX2_rowPost 20 = .ok (.goto 4, 3) := by decide +kernel
theorem dX2_rowPost_23 : decode cX2_rowPost 23 = .ok (.iconst (-1), 1) := by decide +kernel
theorem dX2_rowPost_24 : decode cX2_rowPost 24 = .ok (.ireturn, 1) := by decide +kernel
theorem dX2_rowWith_0 : decode cX2_rowWith 0 = .ok (.iload_n 0, 1) := by decide +kernel
theorem dX2_rowWith_1 : decode cX2_rowWith 1 = .ok (.invokestatic 70, 3) := by decide +kernel
theorem dX2_rowWith_4 : decode cX2_rowWith 4 = .ok (.istore_n 2, 1) := by decide +kernel
theorem dX2_rowWith_5 : decode cX2_rowWith 5 = .ok (.iload_n 2, 1) := by decide +kernel
theorem dX2_rowWith_6 : decode cX2_rowWith 6 = .ok (.bipush 8, 2) := by decide +kernel
theorem dX2_rowWith_8 : decode cX2_rowWith 8 = .ok (.if_icmp .ge 10, 3) := by decide +kernel
theorem dX2_rowWith_11 : decode cX2_rowWith 11 = .ok (.iload_n 1, 1) := by decide +kernel
theorem dX2_rowWith_12 : decode cX2_rowWith 12 = .ok (.invokestatic 50, 3) := by decide +kernel
theorem dX2_rowWith_15 : decode cX2_rowWith 15 = .ok (.ifCond .ne 5, 3) := by decide +kernel
theorem dX2_rowWith_18 : decode cX2_rowWith 18 = .ok (.iload_n 0, 1) := by decide +kernel
theorem dX2_rowWith_19 : decode cX2_rowWith 19 = .ok (.ireturn, 1) := by decide +kernel
theorem dX2_rowWith_20 : decode cX2_rowWith 20 = .ok (.iload_n 0, 1) := by decide +kernel
theorem dX2_rowWith_21 : decode cX2_rowWith 21 = .ok (.iload_n 1, 1) := by decide +kernel
theorem dX2_rowWith_22 : decode cX2_rowWith 22 = .ok (.iload_n 2, 1) := by decide +kernel
theorem dX2_rowWith_23 : decode cX2_rowWith 23 = .ok (.iconst 3, 1) := by decide +kernel
theorem dX2_rowWith_24 : decode cX2_rowWith 24 = .ok (.imul, 1) := by decide +kernel
theorem dX2_rowWith_25 : decode cX2_rowWith 25 = .ok (.ishl, 1) := by decide +kernel
theorem dX2_rowWith_26 : decode cX2_rowWith 26 = .ok (.ior, 1) := by decide +kernel
theorem dX2_rowWith_27 : decode cX2_rowWith 27 = .ok (.ldc 93, 2) := by decide +kernel
theorem dX2_rowWith_29 : decode cX2_rowWith 29 = .ok (.iadd, 1) := by decide +kernel
theorem dX2_rowWith_30 : decode cX2_rowWith 30 = .ok (.ireturn, 1) := by decide +kernel
theorem dX2_isPostNumber_0 : decode cX2_isPostNumber 0 = .ok (.iload_n 0, 1) := by decide +kernel
theorem dX2_isPostNumber_1 : decode cX2_isPostNumber 1 = .ok (.ifCond .lt 13, 3) := by decide +kernel
theorem dX2_isPostNumber_4 : decode cX2_isPostNumber 4 = .ok (.iload_n 0, 1) := by decide +kernel
theorem dX2_isPostNumber_5 : decode cX2_isPostNumber 5 = .ok (.bipush 8, 2) := by decide +kernel
theorem dX2_isPostNumber_7 : decode cX2_isPostNumber 7 = .ok (.if_icmp .ge 7, 3) := by decide +kernel
theorem dX2_isPostNumber_10 : decode cX2_isPostNumber 10 = .ok (.iconst 1, 1) := by decide +kernel
theorem dX2_isPostNumber_11 : decode cX2_isPostNumber 11 = .ok (.goto 4, 3) := by decide +kernel
theorem dX2_isPostNumber_14 : decode cX2_isPostNumber 14 = .ok (.iconst 0, 1) := by decide +kernel
theorem dX2_isPostNumber_15 : decode cX2_isPostNumber 15 = .ok (.ireturn, 1) := by decide +kernel
theorem dX3_init_0 : decode cX3_init 0 = .ok (.aload_n 0, 1) := by decide +kernel
theorem dX3_init_1 : decode cX3_init 1 = .ok (.invokespecial 3, 3) := by decide +kernel
theorem dX3_init_4 : decode cX3_init 4 = .ok (.aload_n 0, 1) := by decide +kernel
theorem dX3_init_5 : decode cX3_init 5 = .ok (.bipush 64, 2) := by decide +kernel
theorem dX3_init_7 : decode cX3_init 7 = .ok (.newarray .int, 2) := by decide +kernel
theorem dX3_init_9 : decode cX3_init 9 = .ok (.putfield 11, 3) := by decide +kernel
theorem dX3_init_12 : decode cX3_init 12 = .ok (.aload_n 0, 1) := by decide +kernel
theorem dX3_init_13 : decode cX3_init 13 = .ok (.bipush 64, 2) := by decide +kernel
theorem dX3_init_15 : decode cX3_init 15 = .ok (.newarray .int, 2) := by decide +kernel
theorem dX3_init_17 : decode cX3_init 17 = .ok (.putfield 15, 3) := by decide +kernel
theorem dX3_init_20 : decode cX3_init 20 = .ok (.aload_n 0, 1) := by decide +kernel
theorem dX3_init_21 : decode cX3_init 21 = .ok (.iconst (-1), 1) := by decide +kernel
theorem dX3_init_22 : decode cX3_init 22 = .ok (.putfield 18, 3) := by decide +kernel
theorem dX3_init_25 : decode cX3_init 25 = .ok (.aload_n 0, 1) := by decide +kernel
theorem dX3_init_26 : decode cX3_init 26 = .ok (.iconst (-1), 1) := by decide +kernel
theorem dX3_init_27 : decode cX3_init 27 = .ok (.putfield 22, 3) := by decide +kernel
theorem dX3_init_30 : decode cX3_init 30 = .ok (.aload_n 0, 1) := by decide +kernel
theorem dX3_init_31 : decode cX3_init 31 = .ok (.iconst 0, 1) := by decide +kernel
theorem dX3_init_32 : decode cX3_init 32 = .ok (.putfield 25, 3) := by decide +kernel
theorem dX3_init_35 : decode cX3_init 35 = .ok (.aload_n 0, 1) := by decide +kernel
theorem dX3_init_36 : decode cX3_init 36 = .ok (.iconst 0, 1) := by decide +kernel
theorem dX3_init_37 : decode cX3_init 37 = .ok (.putfield 28, 3) := by decide +kernel
theorem dX3_init_40 : decode cX3_init 40 = .ok (.aload_n 0, 1) := by decide +kernel
theorem dX3_init_41 : decode cX3_init 41 = .ok (.aload_n 1, 1) := by decide +kernel
theorem dX3_init_42 : decode cX3_init 42 = .ok (.putfield 31, 3) := by decide +kernel
theorem dX3_init_45 : decode cX3_init 45 = .ok (.return_, 1) := by decide +kernel
theorem dX3_forget_0 : decode cX3_forget 0 = .ok (.aload_n 0, 1) := by decide +kernel
theorem dX3_forget_1 : decode cX3_forget 1 = .ok (.iconst (-1), 1) := by decide +kernel
theorem dX3_forget_2 : decode cX3_forget 2 = .ok (.putfield 18, 3) := by decide +kernel
theorem dX3_forget_5 : decode cX3_forget 5 = .ok (.aload_n 0, 1) := by decide +kernel
theorem dX3_forget_6 : decode cX3_forget 6 = .ok (.iconst (-1), 1) := by decide +kernel
theorem dX3_forget_7 : decode cX3_forget 7 = .ok (.putfield 22, 3) := by decide +kernel
theorem dX3_forget_10 : decode cX3_forget 10 = .ok (.aload_n 0, 1) := by decide +kernel
theorem dX3_forget_11 : decode cX3_forget 11 = .ok (.iconst 0, 1) := by decide +kernel
theorem dX3_forget_12 : decode cX3_forget 12 = .ok (.putfield 28, 3) := by decide +kernel
theorem dX3_forget_15 : decode cX3_forget 15 = .ok (.return_, 1) := by decide +kernel
theorem dX3_has_0 : decode cX3_has 0 = .ok (.iload_n 1, 1) := by decide +kernel
theorem dX3_has_1 : decode cX3_has 1 = .ok (.ifCond .lt 21, 3) := by decide +kernel
theorem dX3_has_4 : decode cX3_has 4 = .ok (.iload_n 1, 1) := by decide +kernel
theorem dX3_has_5 : decode cX3_has 5 = .ok (.aload_n 0, 1) := by decide +kernel
theorem dX3_has_6 : decode cX3_has 6 = .ok (.getfield 28, 3) := by decide +kernel
theorem dX3_has_9 : decode cX3_has 9 = .ok (.if_icmp .ge 13, 3) := by decide +kernel
theorem dX3_has_12 : decode cX3_has 12 = .ok (.iload_n 1, 1) := by decide +kernel
theorem dX3_has_13 : decode cX3_has 13 = .ok (.bipush 64, 2) := by decide +kernel
theorem dX3_has_15 : decode cX3_has 15 = .ok (.if_icmp .ge 7, 3) := by decide +kernel
theorem dX3_has_18 : decode cX3_has 18 = .ok (.iconst 1, 1) := by decide +kernel
theorem dX3_has_19 : decode cX3_has 19 = .ok (.goto 4, 3) := by decide +kernel
theorem dX3_has_22 : decode cX3_has 22 = .ok (.iconst 0, 1) := by decide +kernel
theorem dX3_has_23 : decode cX3_has 23 = .ok (.ireturn, 1) := by decide +kernel
theorem dX3_rowOf_0 : decode cX3_rowOf 0 = .ok (.aload_n 0, 1) := by decide +kernel
theorem dX3_rowOf_1 : decode cX3_rowOf 1 = .ok (.iload_n 1, 1) := by decide +kernel
theorem dX3_rowOf_2 : decode cX3_rowOf 2 = .ok (.invokevirtual 35, 3) := by decide +kernel
theorem dX3_rowOf_5 : decode cX3_rowOf 5 = .ok (.ifCond .eq 12, 3) := by decide +kernel
theorem dX3_rowOf_8 : decode cX3_rowOf 8 = .ok (.aload_n 0, 1) := by decide +kernel
theorem dX3_rowOf_9 : decode cX3_rowOf 9 = .ok (.getfield 11, 3) := by decide +kernel
theorem dX3_rowOf_12 : decode cX3_rowOf 12 = .ok (.iload_n 1, 1) := by decide +kernel
theorem dX3_rowOf_13 : decode cX3_rowOf 13 = .ok (.iaload, 1) := by decide +kernel
theorem dX3_rowOf_14 : decode cX3_rowOf 14 = .ok (.goto 4, 3) := by decide +kernel
theorem dX3_rowOf_17 : decode cX3_rowOf 17 = .ok (.iconst 0, 1) := by decide +kernel
theorem dX3_rowOf_18 : decode cX3_rowOf 18 = .ok (.ireturn, 1) := by decide +kernel
theorem dX3_linksOf_0 : decode cX3_linksOf 0 = .ok (.aload_n 0, 1) := by decide +kernel
theorem dX3_linksOf_1 : decode cX3_linksOf 1 = .ok (.iload_n 1, 1) := by decide +kernel
theorem dX3_linksOf_2 : decode cX3_linksOf 2 = .ok (.invokevirtual 35, 3) := by decide +kernel
theorem dX3_linksOf_5 : decode cX3_linksOf 5 = .ok (.ifCond .eq 12, 3) := by decide +kernel
theorem dX3_linksOf_8 : decode cX3_linksOf 8 = .ok (.aload_n 0, 1) := by decide +kernel
theorem dX3_linksOf_9 : decode cX3_linksOf 9 = .ok (.getfield 15, 3) := by decide +kernel
theorem dX3_linksOf_12 : decode cX3_linksOf 12 = .ok (.iload_n 1, 1) := by decide +kernel
theorem dX3_linksOf_13 : decode cX3_linksOf 13 = .ok (.iaload, 1) := by decide +kernel
theorem dX3_linksOf_14 : decode cX3_linksOf 14 = .ok (.goto 4, 3) := by decide +kernel
theorem dX3_linksOf_17 : decode cX3_linksOf 17 = .ok (.iconst 0, 1) := by decide +kernel
theorem dX3_linksOf_18 : decode cX3_linksOf 18 = .ok (.ireturn, 1) := by decide +kernel
theorem dX3_seek_0 : decode cX3_seek 0 = .ok (.iload_n 1, 1) := by decide +kernel
theorem dX3_seek_1 : decode cX3_seek 1 = .ok (.aload_n 0, 1) := by decide +kernel
theorem dX3_seek_2 : decode cX3_seek 2 = .ok (.getfield 18, 3) := by decide +kernel
theorem dX3_seek_5 : decode cX3_seek 5 = .ok (.if_icmp .ne 12, 3) := by decide +kernel
theorem dX3_seek_8 : decode cX3_seek 8 = .ok (.iload_n 2, 1) := by decide +kernel
theorem dX3_seek_9 : decode cX3_seek 9 = .ok (.aload_n 0, 1) := by decide +kernel
theorem dX3_seek_10 : decode cX3_seek 10 = .ok (.getfield 22, 3) := by decide +kernel
theorem dX3_seek_13 : decode cX3_seek 13 = .ok (.if_icmp .ne 4, 3) := by decide +kernel
theorem dX3_seek_16 : decode cX3_seek 16 = .ok (.return_, 1) := by decide +kernel
theorem dX3_seek_17 : decode cX3_seek 17 = .ok (.aload_n 0, 1) := by decide +kernel
theorem dX3_seek_18 : decode cX3_seek 18 = .ok (.iload_n 1, 1) := by decide +kernel
theorem dX3_seek_19 : decode cX3_seek 19 = .ok (.putfield 18, 3) := by decide +kernel
theorem dX3_seek_22 : decode cX3_seek 22 = .ok (.aload_n 0, 1) := by decide +kernel
theorem dX3_seek_23 : decode cX3_seek 23 = .ok (.iload_n 2, 1) := by decide +kernel
theorem dX3_seek_24 : decode cX3_seek 24 = .ok (.putfield 22, 3) := by decide +kernel
theorem dX3_seek_27 : decode cX3_seek 27 = .ok (.aload_n 0, 1) := by decide +kernel
theorem dX3_seek_28 : decode cX3_seek 28 = .ok (.iconst 0, 1) := by decide +kernel
theorem dX3_seek_29 : decode cX3_seek 29 = .ok (.putfield 28, 3) := by decide +kernel
theorem dX3_seek_32 : decode cX3_seek 32 = .ok (.iconst 2, 1) := by decide +kernel
theorem dX3_seek_33 : decode cX3_seek 33 = .ok (.istore_n 3, 1) := by decide +kernel
theorem dX3_seek_34 : decode cX3_seek 34 = .ok (.iload_n 3, 1) := by decide +kernel
theorem dX3_seek_35 : decode cX3_seek 35 = .ok (.bipush 8, 2) := by decide +kernel
theorem dX3_seek_37 : decode cX3_seek 37 = .ok (.if_icmp .gt 28, 3) := by decide +kernel
theorem dX3_seek_40 : decode cX3_seek 40 = .ok (.aload_n 0, 1) := by decide +kernel
theorem dX3_seek_41 : decode cX3_seek 41 = .ok (.iload_n 3, 1) := by decide +kernel
theorem dX3_seek_42 : decode cX3_seek 42 = .ok (.putfield 25, 3) := by decide +kernel
theorem dX3_seek_45 : decode cX3_seek 45 = .ok (.aload_n 0, 1) := by decide +kernel
theorem dX3_seek_46 : decode cX3_seek 46 = .ok (.iload_n 1, 1) := by decide +kernel
theorem dX3_seek_47 : decode cX3_seek 47 = .ok (.iconst 1, 1) := by decide +kernel
theorem dX3_seek_48 : decode cX3_seek 48 = .ok (.iload_n 1, 1) := by decide +kernel
theorem dX3_seek_49 : decode cX3_seek 49 = .ok (.ishl, 1) := by decide +kernel
theorem dX3_seek_50 : decode cX3_seek 50 = .ok (.iconst 0, 1) := by decide +kernel
theorem dX3_seek_51 : decode cX3_seek 51 = .ok (.iload_n 1, 1) := by decide +kernel
theorem dX3_seek_52 : decode cX3_seek 52 = .ok (.invokestatic 39, 3) := by decide +kernel
theorem dX3_seek_55 : decode cX3_seek 55 = .ok (.iconst 0, 1) := by decide +kernel
theorem dX3_seek_56 : decode cX3_seek 56 = .ok (.invokevirtual 45, 3) := by decide +kernel
theorem dX3_seek_59 : decode cX3_seek 59 = .ok (.iinc 3 1, 3) := by decide +kernel
theorem dX3_seek_62 : decode cX3_seek 62 = .ok (.goto (-28), 3) := by decide +kernel
theorem dX3_seek_65 : decode cX3_seek 65 = .ok (.return_, 1) := by decide +kernel
theorem dX3_extend_0 : decode cX3_extend 0 = .ok (.iload_n 3, 1) := by decide +kernel
theorem dX3_extend_1 : decode cX3_extend 1 = .ok (.invokestatic 49, 3) := by decide +kernel
theorem dX3_extend_4 : decode cX3_extend 4 = .ok (.iconst 1, 1) := by decide +kernel
theorem dX3_extend_5 : decode cX3_extend 5 = .ok (.iadd, 1) := by decide +kernel
theorem dX3_extend_6 : decode cX3_extend 6 = .ok (.istore 5, 2) := by decide +kernel
theorem dX3_extend_8 : decode cX3_extend 8 = .ok (.iload 5, 2) := by decide +kernel
theorem dX3_extend_10 : decode cX3_extend 10 = .ok (.aload_n 0, 1) := by decide +kernel
theorem dX3_extend_11 : decode cX3_extend 11 = .ok (.getfield 25, 3) := by decide +kernel
theorem dX3_extend_14 : decode cX3_extend 14 = .ok (.if_icmp .gt 10, 3) := by decide +kernel
theorem dX3_extend_17 : decode cX3_extend 17 = .ok (.iload 5, 2) := by decide +kernel
theorem dX3_extend_19 : decode cX3_extend 19 = .ok (.bipush 8, 2) := by decide +kernel
theorem dX3_extend_21 : decode cX3_extend 21 = .ok (.if_icmp .le 4, 3) := by decide +kernel
theorem dX3_extend_24 : decode cX3_extend 24 = .ok (.return_, 1) := by decide +kernel
theorem dX3_extend_25 : decode cX3_extend 25 = .ok (.iconst 0, 1) := by decide +kernel
theorem dX3_extend_26 : decode cX3_extend 26 = .ok (.istore 6, 2) := by decide +kernel
theorem dX3_extend_28 : decode cX3_extend 28 = .ok (.iload 6, 2) := by decide +kernel
theorem dX3_extend_30 : decode cX3_extend 30 = .ok (.aload_n 0, 1) := by decide +kernel
theorem dX3_extend_31 : decode cX3_extend 31 = .ok (.getfield 31, 3) := by decide +kernel
theorem dX3_extend_34 : decode cX3_extend 34 = .ok (.getfield 53, 3) := by decide +kernel
theorem dX3_extend_37 : decode cX3_extend 37 = .ok (.if_icmp .ge 102, 3) := by decide +kernel
theorem dX3_extend_40 : decode cX3_extend 40 = .ok (.aload_n 0, 1) := by decide +kernel
theorem dX3_extend_41 : decode cX3_extend 41 = .ok (.getfield 31, 3) := by decide +kernel
theorem dX3_extend_44 : decode cX3_extend 44 = .ok (.iload_n 1, 1) := by decide +kernel
theorem dX3_extend_45 : decode cX3_extend 45 = .ok (.iload 6, 2) := by decide +kernel
theorem dX3_extend_47 : decode cX3_extend 47 = .ok (.invokevirtual 56, 3) := by decide +kernel
theorem dX3_extend_50 : decode cX3_extend 50 = .ok (.istore 7, 2) := by decide +kernel
theorem dX3_extend_52 : decode cX3_extend 52 = .ok (.iload 7, 2) := by decide +kernel
theorem dX3_extend_54 : decode cX3_extend 54 = .ok (.iconst (-1), 1) := by decide +kernel
theorem dX3_extend_55 : decode cX3_extend 55 = .ok (.if_icmp .eq 78, 3) := by decide +kernel
theorem dX3_extend_58 : decode cX3_extend 58 = .ok (.iload_n 2, 1) := by decide +kernel
theorem dX3_extend_59 : decode cX3_extend 59 = .ok (.iload 6, 2) := by decide +kernel
theorem dX3_extend_61 : decode cX3_extend 61 = .ok (.ishr, 1) := by decide +kernel
theorem dX3_extend_62 : decode cX3_extend 62 = .ok (.iconst 1, 1) := by decide +kernel
theorem dX3_extend_63 : decode cX3_extend 63 = .ok (.iand, 1) := by decide +kernel
theorem dX3_extend_64 : decode cX3_extend 64 = .ok (.ifCond .eq 6, 3) := by decide +kernel
theorem dX3_extend_67 : decode cX3_extend 67 = .ok (.goto 66, 3) := by decide +kernel
theorem dX3_extend_70 : decode cX3_extend 70 = .ok (.iload 6, 2) := by decide +kernel
theorem dX3_extend_72 : decode cX3_extend 72 = .ok (.aload_n 0, 1) := by decide +kernel
theorem dX3_extend_73 : decode cX3_extend 73 = .ok (.getfield 22, 3) := by decide +kernel
theorem dX3_extend_76 : decode cX3_extend 76 = .ok (.if_icmp .eq 31, 3) := by decide +kernel
theorem dX3_extend_79 : decode cX3_extend 79 = .ok (.aload_n 0, 1) := by decide +kernel
theorem dX3_extend_80 : decode cX3_extend 80 = .ok (.iload 6, 2) := by decide +kernel
theorem dX3_extend_82 : decode cX3_extend 82 = .ok (.iload_n 2, 1) := by decide +kernel
theorem dX3_extend_83 : decode cX3_extend 83 = .ok (.iconst 1, 1) := by decide +kernel
theorem dX3_extend_84 : decode cX3_extend 84 = .ok (.iload 6, 2) := by decide +kernel
theorem dX3_extend_86 : decode cX3_extend 86 = .ok (.ishl, 1) := by decide +kernel
theorem dX3_extend_87 : decode cX3_extend 87 = .ok (.ior, 1) := by decide +kernel
theorem dX3_extend_88 : decode cX3_extend 88 = .ok (.iload_n 3, 1) := by decide +kernel
theorem dX3_extend_89 : decode cX3_extend 89 = .ok (.iload 6, 2) := by decide +kernel
theorem dX3_extend_91 : decode cX3_extend 91 = .ok (.invokestatic 39, 3) := by decide +kernel
theorem dX3_extend_94 : decode cX3_extend 94 = .ok (.iload 4, 2) := by decide +kernel
theorem dX3_extend_96 : decode cX3_extend 96 = .ok (.iconst 1, 1) := by decide +kernel
theorem dX3_extend_97 : decode cX3_extend 97 = .ok (.iload 7, 2) := by decide +kernel
theorem dX3_extend_99 : decode cX3_extend 99 = .ok (.ishl, 1) := by decide +kernel
theorem dX3_extend_100 : decode cX3_extend 100 = .ok (.ior, 1) := by decide +kernel
theorem dX3_extend_101 : decode cX3_extend 101 = .ok (.invokevirtual 45, 3) := by decide +kernel
theorem dX3_extend_104 : decode cX3_extend 104 = .ok (.goto 29, 3) := by decide +kernel
theorem dX3_extend_107 : decode cX3_extend 107 = .ok (.iload 5, 2) := by decide +kernel
theorem dX3_extend_109 : decode cX3_extend 109 = .ok (.aload_n 0, 1) := by decide +kernel
theorem dX3_extend_110 : decode cX3_extend 110 = .ok (.getfield 25, 3) := by decide +kernel
theorem dX3_extend_113 : decode cX3_extend 113 = .ok (.if_icmp .ne 20, 3) := by decide +kernel
theorem dX3_extend_116 : decode cX3_extend 116 = .ok (.aload_n 0, 1) := by decide +kernel
theorem dX3_extend_117 : decode cX3_extend 117 = .ok (.iload_n 3, 1) := by decide +kernel
theorem dX3_extend_118 : decode cX3_extend 118 = .ok (.iload 6, 2) := by decide +kernel
theorem dX3_extend_120 : decode cX3_extend 120 = .ok (.invokestatic 39, 3) := by decide +kernel
theorem dX3_extend_123 : decode cX3_extend 123 = .ok (.iload 4, 2) := by decide +kernel
theorem dX3_extend_125 : decode cX3_extend 125 = .ok (.iconst 1, 1) := by decide +kernel
theorem dX3_extend_126 : decode cX3_extend 126 = .ok (.iload 7, 2) := by decide +kernel
theorem dX3_extend_128 : decode cX3_extend 128 = .ok (.ishl, 1) := by decide +kernel
theorem dX3_extend_129 : decode cX3_extend 129 = .ok (.ior, 1) := by decide +kernel
theorem dX3_extend_130 : decode cX3_extend 130 = .ok (.invokevirtual 59, 3) := by decide +kernel
theorem dX3_extend_133 : decode cX3_extend 133 = .ok (.iinc 6 1, 3) := by decide +kernel
theorem dX3_extend_136 : decode cX3_extend 136 = .ok (.goto (-108), 3) := by decide +kernel
theorem dX3_extend_139 : decode cX3_extend 139 = .ok (.return_, 1) := by decide +kernel
theorem dX3_add_0 : decode cX3_add 0 = .ok (.aload_n 0, 1) := by decide +kernel
theorem dX3_add_1 : decode cX3_add 1 = .ok (.getfield 28, 3) := by decide +kernel
theorem dX3_add_4 : decode cX3_add 4 = .ok (.ifCond .lt 42, 3) := by decide +kernel
theorem dX3_add_7 : decode cX3_add 7 = .ok (.aload_n 0, 1) := by decide +kernel
theorem dX3_add_8 : decode cX3_add 8 = .ok (.getfield 28, 3) := by decide +kernel
theorem dX3_add_11 : decode cX3_add 11 = .ok (.bipush 64, 2) := by decide +kernel
theorem dX3_add_13 : decode cX3_add 13 = .ok (.if_icmp .ge 33, 3) := by decide +kernel
theorem dX3_add_16 : decode cX3_add 16 = .ok (.aload_n 0, 1) := by decide +kernel
theorem dX3_add_17 : decode cX3_add 17 = .ok (.getfield 11, 3) := by decide +kernel
theorem dX3_add_20 : decode cX3_add 20 = .ok (.aload_n 0, 1) := by decide +kernel
theorem dX3_add_21 : decode cX3_add 21 = .ok (.getfield 28, 3) := by decide +kernel
theorem dX3_add_24 : decode cX3_add 24 = .ok (.iload_n 1, 1) := by decide +kernel
theorem dX3_add_25 : decode cX3_add 25 = .ok (.iastore, 1) := by decide +kernel
theorem dX3_add_26 : decode cX3_add 26 = .ok (.aload_n 0, 1) := by decide +kernel
theorem dX3_add_27 : decode cX3_add 27 = .ok (.getfield 15, 3) := by decide +kernel
theorem dX3_add_30 : decode cX3_add 30 = .ok (.aload_n 0, 1) := by decide +kernel
theorem dX3_add_31 : decode cX3_add 31 = .ok (.getfield 28, 3) := by decide +kernel
theorem dX3_add_34 : decode cX3_add 34 = .ok (.iload_n 2, 1) := by decide +kernel
theorem dX3_add_35 : decode cX3_add 35 = .ok (.iastore, 1) := by decide +kernel
theorem dX3_add_36 : decode cX3_add 36 = .ok (.aload_n 0, 1) := by decide +kernel
theorem dX3_add_37 : decode cX3_add 37 = .ok (.dup, 1) := by decide +kernel
theorem dX3_add_38 : decode cX3_add 38 = .ok (.getfield 28, 3) := by decide +kernel
theorem dX3_add_41 : decode cX3_add 41 = .ok (.iconst 1, 1) := by decide +kernel
theorem dX3_add_42 : decode cX3_add 42 = .ok (.iadd, 1) := by decide +kernel
theorem dX3_add_43 : decode cX3_add 43 = .ok (.putfield 28, 3) := by decide +kernel
theorem dX3_add_46 : decode cX3_add 46 = .ok (.return_, 1) := by decide +kernel
theorem dX4_init_0 : decode cX4_init 0 = .ok (.aload_n 0, 1) := by decide +kernel
theorem dX4_init_1 : decode cX4_init 1 = .ok (.invokespecial 3, 3) := by decide +kernel
theorem dX4_init_4 : decode cX4_init 4 = .ok (.aload_n 0, 1) := by decide +kernel
theorem dX4_init_5 : decode cX4_init 5 = .ok (.sipush 128, 3) := by decide +kernel
theorem dX4_init_8 : decode cX4_init 8 = .ok (.newarray .int, 2) := by decide +kernel
theorem dX4_init_10 : decode cX4_init 10 = .ok (.putfield 11, 3) := by decide +kernel
theorem dX4_init_13 : decode cX4_init 13 = .ok (.aload_n 0, 1) := by decide +kernel
theorem dX4_init_14 : decode cX4_init 14 = .ok (.sipush 128, 3) := by decide +kernel
theorem dX4_init_17 : decode cX4_init 17 = .ok (.newarray .int, 2) := by decide +kernel
theorem dX4_init_19 : decode cX4_init 19 = .ok (.putfield 15, 3) := by decide +kernel
theorem dX4_init_22 : decode cX4_init 22 = .ok (.aload_n 0, 1) := by decide +kernel
theorem dX4_init_23 : decode cX4_init 23 = .ok (.sipush 128, 3) := by decide +kernel
theorem dX4_init_26 : decode cX4_init 26 = .ok (.newarray .int, 2) := by decide +kernel
theorem dX4_init_28 : decode cX4_init 28 = .ok (.putfield 18, 3) := by decide +kernel
theorem dX4_init_31 : decode cX4_init 31 = .ok (.aload_n 0, 1) := by decide +kernel
theorem dX4_init_32 : decode cX4_init 32 = .ok (.iconst 2, 1) := by decide +kernel
theorem dX4_init_33 : decode cX4_init 33 = .ok (.newarray .int, 2) := by decide +kernel
theorem dX4_init_35 : decode cX4_init 35 = .ok (.putfield 21, 3) := by decide +kernel
theorem dX4_init_38 : decode cX4_init 38 = .ok (.aload_n 0, 1) := by decide +kernel
theorem dX4_init_39 : decode cX4_init 39 = .ok (.bipush 6, 2) := by decide +kernel
theorem dX4_init_41 : decode cX4_init 41 = .ok (.newarray .int, 2) := by decide +kernel
theorem dX4_init_43 : decode cX4_init 43 = .ok (.putfield 24, 3) := by decide +kernel
theorem dX4_init_46 : decode cX4_init 46 = .ok (.aload_n 0, 1) := by decide +kernel
theorem dX4_init_47 : decode cX4_init 47 = .ok (.iconst 0, 1) := by decide +kernel
theorem dX4_init_48 : decode cX4_init 48 = .ok (.putfield 27, 3) := by decide +kernel
theorem dX4_init_51 : decode cX4_init 51 = .ok (.aload_n 0, 1) := by decide +kernel
theorem dX4_init_52 : decode cX4_init 52 = .ok (.iconst 0, 1) := by decide +kernel
theorem dX4_init_53 : decode cX4_init 53 = .ok (.putfield 31, 3) := by decide +kernel
theorem dX4_init_56 : decode cX4_init 56 = .ok (.aload_n 0, 1) := by decide +kernel
theorem dX4_init_57 : decode cX4_init 57 = .ok (.iconst 0, 1) := by decide +kernel
theorem dX4_init_58 : decode cX4_init 58 = .ok (.putfield 34, 3) := by decide +kernel
theorem dX4_init_61 : decode cX4_init 61 = .ok (.aload_n 0, 1) := by decide +kernel
theorem dX4_init_62 : decode cX4_init 62 = .ok (.iconst 0, 1) := by decide +kernel
theorem dX4_init_63 : decode cX4_init 63 = .ok (.putfield 38, 3) := by decide +kernel
theorem dX4_init_66 : decode cX4_init 66 = .ok (.aload_n 0, 1) := by decide +kernel
theorem dX4_init_67 : decode cX4_init 67 = .ok (.iconst 0, 1) := by decide +kernel
theorem dX4_init_68 : decode cX4_init 68 = .ok (.putfield 41, 3) := by decide +kernel
theorem dX4_init_71 : decode cX4_init 71 = .ok (.aload_n 0, 1) := by decide +kernel
theorem dX4_init_72 : decode cX4_init 72 = .ok (.aload_n 1, 1) := by decide +kernel
theorem dX4_init_73 : decode cX4_init 73 = .ok (.putfield 44, 3) := by decide +kernel
theorem dX4_init_76 : decode cX4_init 76 = .ok (.aload_n 0, 1) := by decide +kernel
theorem dX4_init_77 : decode cX4_init 77 = .ok (.aload_n 2, 1) := by decide +kernel
theorem dX4_init_78 : decode cX4_init 78 = .ok (.putfield 48, 3) := by decide +kernel
theorem dX4_init_81 : decode cX4_init 81 = .ok (.return_, 1) := by decide +kernel
theorem dX4_forget_0 : decode cX4_forget 0 = .ok (.aload_n 0, 1) := by decide +kernel
theorem dX4_forget_1 : decode cX4_forget 1 = .ok (.iconst 0, 1) := by decide +kernel
theorem dX4_forget_2 : decode cX4_forget 2 = .ok (.putfield 38, 3) := by decide +kernel
theorem dX4_forget_5 : decode cX4_forget 5 = .ok (.return_, 1) := by decide +kernel
theorem dX4_ready_0 : decode cX4_ready 0 = .ok (.aload_n 0, 1) := by decide +kernel
theorem dX4_ready_1 : decode cX4_ready 1 = .ok (.getfield 38, 3) := by decide +kernel
theorem dX4_ready_4 : decode cX4_ready 4 = .ok (.ifCond .eq 4, 3) := by decide +kernel
theorem dX4_ready_7 : decode cX4_ready 7 = .ok (.return_, 1) := by decide +kernel
theorem dX4_ready_8 : decode cX4_ready 8 = .ok (.aload_n 0, 1) := by decide +kernel
theorem dX4_ready_9 : decode cX4_ready 9 = .ok (.iconst 1, 1) := by decide +kernel
theorem dX4_ready_10 : decode cX4_ready 10 = .ok (.putfield 38, 3) := by decide +kernel
theorem dX4_ready_13 : decode cX4_ready 13 = .ok (.aload_n 0, 1) := by decide +kernel
theorem dX4_ready_14 : decode cX4_ready 14 = .ok (.invokevirtual 52, 3) := by decide +kernel
theorem dX4_ready_17 : decode cX4_ready 17 = .ok (.aload_n 0, 1) := by decide +kernel
theorem dX4_ready_18 : decode cX4_ready 18 = .ok (.invokevirtual 55, 3) := by decide +kernel
theorem dX4_ready_21 : decode cX4_ready 21 = .ok (.aload_n 0, 1) := by decide +kernel
theorem dX4_ready_22 : decode cX4_ready 22 = .ok (.iconst 0, 1) := by decide +kernel
theorem dX4_ready_23 : decode cX4_ready 23 = .ok (.invokevirtual 58, 3) := by decide +kernel
theorem dX4_ready_26 : decode cX4_ready 26 = .ok (.aload_n 0, 1) := by decide +kernel
theorem dX4_ready_27 : decode cX4_ready 27 = .ok (.iconst 1, 1) := by decide +kernel
theorem dX4_ready_28 : decode cX4_ready 28 = .ok (.invokevirtual 58, 3) := by decide +kernel
theorem dX4_ready_31 : decode cX4_ready 31 = .ok (.return_, 1) := by decide +kernel
theorem dX4_sizeOf_0 : decode cX4_sizeOf 0 = .ok (.iload_n 1, 1) := by decide +kernel
theorem dX4_sizeOf_1 : decode cX4_sizeOf 1 = .ok (.ifCond .eq 8, 3) := by decide +kernel
theorem dX4_sizeOf_4 : decode cX4_sizeOf 4 = .ok (.iload_n 1, 1) := by decide +kernel
theorem dX4_sizeOf_5 : decode cX4_sizeOf 5 = .ok (.iconst 1, 1) := by decide +kernel
theorem dX4_sizeOf_6 : decode cX4_sizeOf 6 = .ok (.if_icmp .ne 12, 3) := by decide +kernel
theorem dX4_sizeOf_9 : decode cX4_sizeOf 9 = .ok (.aload_n 0, 1) := by decide +kernel
theorem dX4_sizeOf_10 : decode cX4_sizeOf 10 = .ok (.getfield 21, 3) := by decide +kernel
theorem dX4_sizeOf_13 : decode cX4_sizeOf 13 = .ok (.iload_n 1, 1) := by decide +kernel
theorem dX4_sizeOf_14 : decode cX4_sizeOf 14 = .ok (.iaload, 1) := by decide +kernel
theorem dX4_sizeOf_15 : decode cX4_sizeOf 15 = .ok (.goto 4, 3) := by decide +kernel
theorem dX4_sizeOf_18 : decode cX4_sizeOf 18 = .ok (.iconst (-1), 1) := by decide +kernel
theorem dX4_sizeOf_19 : decode cX4_sizeOf 19 = .ok (.ireturn, 1) := by decide +kernel
theorem dX4_pickOf_0 : decode cX4_pickOf 0 = .ok (.iload_n 1, 1) := by decide +kernel
theorem dX4_pickOf_1 : decode cX4_pickOf 1 = .ok (.ifCond .eq 8, 3) := by decide +kernel
theorem dX4_pickOf_4 : decode cX4_pickOf 4 = .ok (.iload_n 1, 1) := by decide +kernel
theorem dX4_pickOf_5 : decode cX4_pickOf 5 = .ok (.iconst 1, 1) := by decide +kernel
theorem dX4_pickOf_6 : decode cX4_pickOf 6 = .ok (.if_icmp .ne 16, 3) := by decide +kernel
theorem dX4_pickOf_9 : decode cX4_pickOf 9 = .ok (.iload_n 2, 1) := by decide +kernel
theorem dX4_pickOf_10 : decode cX4_pickOf 10 = .ok (.ifCond .lt 12, 3) := by decide +kernel
theorem dX4_pickOf_13 : decode cX4_pickOf 13 = .ok (.iload_n 2, 1) := by decide +kernel
theorem dX4_pickOf_14 : decode cX4_pickOf 14 = .ok (.iconst 3, 1) := by decide +kernel
theorem dX4_pickOf_15 : decode cX4_pickOf 15 = .ok (.if_icmp .ge 7, 3) := by decide +kernel
theorem dX4_pickOf_18 : decode cX4_pickOf 18 = .ok (.iconst 1, 1) := by decide +kernel
theorem dX4_pickOf_19 : decode cX4_pickOf 19 = .ok (.goto 4, 3) := by decide +kernel
theorem dX4_pickOf_22 : decode cX4_pickOf 22 = .ok (.iconst 0, 1) := by decide +kernel
theorem dX4_pickOf_23 : decode cX4_pickOf 23 = .ok (.istore_n 3, 1) := by decide +kernel
theorem dX4_pickOf_24 : decode cX4_pickOf 24 = .ok (.iload_n 3, 1) := by decide +kernel
theorem dX4_pickOf_25 : decode cX4_pickOf 25 = .ok (.ifCond .eq 16, 3) := by decide +kernel
theorem dX4_pickOf_28 : decode cX4_pickOf 28 = .ok (.aload_n 0, 1) := by decide +kernel
theorem dX4_pickOf_29 : decode cX4_pickOf 29 = .ok (.getfield 24, 3) := by decide +kernel
theorem dX4_pickOf_32 : decode cX4_pickOf 32 = .ok (.iload_n 1, 1) := by decide +kernel
theorem dX4_pickOf_33 : decode cX4_pickOf 33 = .ok (.iconst 3, 1) := by decide +kernel
theorem dX4_pickOf_34 : decode cX4_pickOf 34 = .ok (.imul, 1) := by decide +kernel
theorem dX4_pickOf_35 : decode cX4_pickOf 35 = .ok (.iload_n 2, 1) := by decide +kernel
theorem dX4_pickOf_36 : decode cX4_pickOf 36 = .ok (.iadd, 1) := by decide +kernel
theorem dX4_pickOf_37 : decode cX4_pickOf 37 = .ok (.iaload, 1) := by decide +kernel
theorem dX4_pickOf_38 : decode cX4_pickOf 38 = .ok (.goto 4, 3) := by decide +kernel
theorem dX4_pickOf_41 : decode cX4_pickOf 41 = .ok (.iconst (-1), 1) := by decide +kernel
theorem dX4_pickOf_42 : decode cX4_pickOf 42 = .ok (.ireturn, 1) := by decide +kernel
theorem dX4_gatherShort_0 : decode cX4_gatherShort 0 = .ok (.aload_n 0, 1) := by decide +kernel
theorem dX4_gatherShort_1 : decode cX4_gatherShort 1 = .ok (.iconst 0, 1) := by decide +kernel
theorem dX4_gatherShort_2 : decode cX4_gatherShort 2 = .ok (.putfield 41, 3) := by decide +kernel
theorem dX4_gatherShort_5 : decode cX4_gatherShort 5 = .ok (.iconst 0, 1) := by decide +kernel
theorem dX4_gatherShort_6 : decode cX4_gatherShort 6 = .ok (.istore_n 1, 1) := by decide +kernel
theorem dX4_gatherShort_7 : decode cX4_gatherShort 7 = .ok (.iload_n 1, 1) := by decide +kernel
theorem dX4_gatherShort_8 : decode cX4_gatherShort 8 = .ok (.aload_n 0, 1) := by decide +kernel
theorem dX4_gatherShort_9 : decode cX4_gatherShort 9 = .ok (.getfield 44, 3) := by decide +kernel
theorem dX4_gatherShort_12 : decode cX4_gatherShort 12 = .ok (.getfield 62, 3) := by decide +kernel
theorem dX4_gatherShort_15 : decode cX4_gatherShort 15 = .ok (.if_icmp .ge 67, 3) := by decide +kernel
theorem dX4_gatherShort_18 : decode cX4_gatherShort 18 = .ok (.iload_n 1, 1) := by decide +kernel
theorem dX4_gatherShort_19 : decode cX4_gatherShort 19 = .ok (.iconst 1, 1) := by decide +kernel
theorem dX4_gatherShort_20 : decode cX4_gatherShort 20 = .ok (.iadd, 1) := by decide +kernel
theorem dX4_gatherShort_21 : decode cX4_gatherShort 21 = .ok (.istore_n 2, 1) := by decide +kernel
theorem dX4_gatherShort_22 : decode cX4_gatherShort 22 = .ok (.iload_n 2, 1) := by decide +kernel
theorem dX4_gatherShort_23 : decode cX4_gatherShort 23 = .ok (.aload_n 0, 1) := by decide +kernel
theorem dX4_gatherShort_24 : decode cX4_gatherShort 24 = .ok (.getfield 44, 3) := by decide +kernel
theorem dX4_gatherShort_27 : decode cX4_gatherShort 27 = .ok (.getfield 62, 3) := by decide +kernel
theorem dX4_gatherShort_30 : decode cX4_gatherShort 30 = .ok (.if_icmp .ge 46, 3) := by decide +kernel
theorem dX4_gatherShort_33 : decode cX4_gatherShort 33 = .ok (.aload_n 0, 1) := by decide +kernel
theorem dX4_gatherShort_34 : decode cX4_gatherShort 34 = .ok (.getfield 44, 3) := by decide +kernel
theorem dX4_gatherShort_37 : decode cX4_gatherShort 37 = .ok (.getfield 67, 3) := by decide +kernel
theorem dX4_gatherShort_40 : decode cX4_gatherShort 40 = .ok (.iload_n 1, 1) := by decide +kernel
theorem dX4_gatherShort_41 : decode cX4_gatherShort 41 = .ok (.ishr, 1) := by decide +kernel
theorem dX4_gatherShort_42 : decode cX4_gatherShort 42 = .ok (.aload_n 0, 1) := by decide +kernel
theorem dX4_gatherShort_43 : decode cX4_gatherShort 43 = .ok (.getfield 44, 3) := by decide +kernel
theorem dX4_gatherShort_46 : decode cX4_gatherShort 46 = .ok (.getfield 67, 3) := by decide +kernel
theorem dX4_gatherShort_49 : decode cX4_gatherShort 49 = .ok (.iload_n 2, 1) := by decide +kernel
theorem dX4_gatherShort_50 : decode cX4_gatherShort 50 = .ok (.ishr, 1) := by decide +kernel
theorem dX4_gatherShort_51 : decode cX4_gatherShort 51 = .ok (.iand, 1) := by decide +kernel
theorem dX4_gatherShort_52 : decode cX4_gatherShort 52 = .ok (.iconst 1, 1) := by decide +kernel
theorem dX4_gatherShort_53 : decode cX4_gatherShort 53 = .ok (.iand, 1) := by decide +kernel
theorem dX4_gatherShort_54 : decode cX4_gatherShort 54 = .ok (.ifCond .eq 16, 3) := by decide +kernel
theorem dX4_gatherShort_57 : decode cX4_gatherShort 57 = .ok (.aload_n 0, 1) := by decide +kernel
theorem dX4_gatherShort_58 : decode cX4_gatherShort 58 = .ok (.getfield 48, 3) := by decide +kernel
theorem dX4_gatherShort_61 : decode cX4_gatherShort 61 = .ok (.iload_n 1, 1) := by decide +kernel
theorem dX4_gatherShort_62 : decode cX4_gatherShort 62 = .ok (.iload_n 2, 1) := by decide +kernel
theorem dX4_gatherShort_63 : decode cX4_gatherShort 63 = .ok (.invokevirtual 70, 3) := by decide +kernel
theorem dX4_gatherShort_66 : decode cX4_gatherShort 66 = .ok (.aload_n 0, 1) := by decide +kernel
theorem dX4_gatherShort_67 : decode cX4_gatherShort 67 = .ok (.invokevirtual 76, 3) := by decide +kernel
theorem dX4_gatherShort_70 : decode cX4_gatherShort 70 = .ok (.iinc 2 1, 3) := by decide +kernel
theorem dX4_gatherShort_73 : decode cX4_gatherShort 73 = .ok (.goto (-51), 3) := by decide +kernel
theorem dX4_gatherShort_76 : decode cX4_gatherShort 76 = .ok (.iinc 1 1, 3) := by decide +kernel
theorem dX4_gatherShort_79 : decode cX4_gatherShort 79 = .ok (.goto (-72), 3) := by decide +kernel
theorem dX4_gatherShort_82 : decode cX4_gatherShort 82 = .ok (.return_, 1) := by decide +kernel
theorem dX4_addShort_0 : decode cX4_addShort 0 = .ok (.iconst 0, 1) := by decide +kernel
theorem dX4_addShort_1 : decode cX4_addShort 1 = .ok (.istore_n 1, 1) := by decide +kernel
theorem dX4_addShort_2 : decode cX4_addShort 2 = .ok (.iload_n 1, 1) := by decide +kernel
theorem dX4_addShort_3 : decode cX4_addShort 3 = .ok (.aload_n 0, 1) := by decide +kernel
theorem dX4_addShort_4 : decode cX4_addShort 4 = .ok (.getfield 48, 3) := by decide +kernel
theorem dX4_addShort_7 : decode cX4_addShort 7 = .ok (.getfield 79, 3) := by decide +kernel
theorem dX4_addShort_10 : decode cX4_addShort 10 = .ok (.if_icmp .ge 68, 3) := by decide +kernel
theorem dX4_addShort_13 : decode cX4_addShort 13 = .ok (.aload_n 0, 1) := by decide +kernel
theorem dX4_addShort_14 : decode cX4_addShort 14 = .ok (.getfield 48, 3) := by decide +kernel
theorem dX4_addShort_17 : decode cX4_addShort 17 = .ok (.iload_n 1, 1) := by decide +kernel
theorem dX4_addShort_18 : decode cX4_addShort 18 = .ok (.invokevirtual 80, 3) := by decide +kernel
theorem dX4_addShort_21 : decode cX4_addShort 21 = .ok (.invokestatic 84, 3) := by decide +kernel
theorem dX4_addShort_24 : decode cX4_addShort 24 = .ok (.iconst 5, 1) := by decide +kernel
theorem dX4_addShort_25 : decode cX4_addShort 25 = .ok (.if_icmp .gt 47, 3) := by decide +kernel
theorem dX4_addShort_28 : decode cX4_addShort 28 = .ok (.aload_n 0, 1) := by decide +kernel
theorem dX4_addShort_29 : decode cX4_addShort 29 = .ok (.getfield 41, 3) := by decide +kernel
theorem dX4_addShort_32 : decode cX4_addShort 32 = .ok (.ifCond .lt 40, 3) := by decide +kernel
theorem dX4_addShort_35 : decode cX4_addShort 35 = .ok (.aload_n 0, 1) := by decide +kernel
theorem dX4_addShort_36 : decode cX4_addShort 36 = .ok (.getfield 41, 3) := by decide +kernel
theorem dX4_addShort_39 : decode cX4_addShort 39 = .ok (.sipush 128, 3) := by decide +kernel
theorem dX4_addShort_42 : decode cX4_addShort 42 = .ok (.if_icmp .ge 30, 3) := by decide +kernel
theorem dX4_addShort_45 : decode cX4_addShort 45 = .ok (.aload_n 0, 1) := by decide +kernel
theorem dX4_addShort_46 : decode cX4_addShort 46 = .ok (.getfield 11, 3) := by decide +kernel
theorem dX4_addShort_49 : decode cX4_addShort 49 = .ok (.aload_n 0, 1) := by decide +kernel
theorem dX4_addShort_50 : decode cX4_addShort 50 = .ok (.getfield 41, 3) := by decide +kernel
theorem dX4_addShort_53 : decode cX4_addShort 53 = .ok (.aload_n 0, 1) := by decide +kernel
theorem dX4_addShort_54 : decode cX4_addShort 54 = .ok (.getfield 48, 3) := by decide +kernel
theorem dX4_addShort_57 : decode cX4_addShort 57 = .ok (.iload_n 1, 1) := by decide +kernel
theorem dX4_addShort_58 : decode cX4_addShort 58 = .ok (.invokevirtual 87, 3) := by decide +kernel
theorem dX4_addShort_61 : decode cX4_addShort 61 = .ok (.iastore, 1) := by decide +kernel
theorem dX4_addShort_62 : decode cX4_addShort 62 = .ok (.aload_n 0, 1) := by decide +kernel
theorem dX4_addShort_63 : decode cX4_addShort 63 = .ok (.dup, 1) := by decide +kernel
theorem dX4_addShort_64 : decode cX4_addShort 64 = .ok (.getfield 41, 3) := by decide +kernel
theorem dX4_addShort_67 : decode cX4_addShort 67 = .ok (.iconst 1, 1) := by decide +kernel
theorem dX4_addShort_68 : decode cX4_addShort 68 = .ok (.iadd, 1) := by decide +kernel
theorem dX4_addShort_69 : decode cX4_addShort 69 = .ok (.putfield 41, 3) := by decide +kernel
theorem dX4_addShort_72 : decode cX4_addShort 72 = .ok (.iinc 1 1, 3) := by decide +kernel
theorem dX4_addShort_75 : decode cX4_addShort 75 = .ok (.goto (-73), 3) := by decide +kernel
theorem dX4_addShort_78 : decode cX4_addShort 78 = .ok (.return_, 1) := by decide +kernel
theorem dX4_gatherParts_0 : decode cX4_gatherParts 0 = .ok (.aload_n 0, 1) := by decide +kernel
theorem dX4_gatherParts_1 : decode cX4_gatherParts 1 = .ok (.iconst 0, 1) := by decide +kernel
theorem dX4_gatherParts_2 : decode cX4_gatherParts 2 = .ok (.putfield 31, 3) := by decide +kernel
theorem dX4_gatherParts_5 : decode cX4_gatherParts 5 = .ok (.iconst 0, 1) := by decide +kernel
theorem dX4_gatherParts_6 : decode cX4_gatherParts 6 = .ok (.istore_n 1, 1) := by decide +kernel
theorem dX4_gatherParts_7 : decode cX4_gatherParts 7 = .ok (.iload_n 1, 1) := by decide +kernel
theorem dX4_gatherParts_8 : decode cX4_gatherParts 8 = .ok (.aload_n 0, 1) := by decide +kernel
theorem dX4_gatherParts_9 : decode cX4_gatherParts 9 = .ok (.getfield 44, 3) := by decide +kernel
theorem dX4_gatherParts_12 : decode cX4_gatherParts 12 = .ok (.getfield 90, 3) := by decide +kernel
theorem dX4_gatherParts_15 : decode cX4_gatherParts 15 = .ok (.if_icmp .ge 37, 3) := by decide +kernel
theorem dX4_gatherParts_18 : decode cX4_gatherParts 18 = .ok (.aload_n 0, 1) := by decide +kernel
theorem dX4_gatherParts_19 : decode cX4_gatherParts 19 = .ok (.iload_n 1, 1) := by decide +kernel
theorem dX4_gatherParts_20 : decode cX4_gatherParts 20 = .ok (.invokevirtual 92, 3) := by decide +kernel
theorem dX4_gatherParts_23 : decode cX4_gatherParts 23 = .ok (.ifCond .eq 23, 3) := by decide +kernel
theorem dX4_gatherParts_26 : decode cX4_gatherParts 26 = .ok (.aload_n 0, 1) := by decide +kernel
theorem dX4_gatherParts_27 : decode cX4_gatherParts 27 = .ok (.iload_n 1, 1) := by decide +kernel
theorem dX4_gatherParts_28 : decode cX4_gatherParts 28 = .ok (.invokevirtual 96, 3) := by decide +kernel
theorem dX4_gatherParts_31 : decode cX4_gatherParts 31 = .ok (.ifCond .ne 15, 3) := by decide +kernel
theorem dX4_gatherParts_34 : decode cX4_gatherParts 34 = .ok (.aload_n 0, 1) := by decide +kernel
theorem dX4_gatherParts_35 : decode cX4_gatherParts 35 = .ok (.dup, 1) := by decide +kernel
theorem dX4_gatherParts_36 : decode cX4_gatherParts 36 = .ok (.getfield 31, 3) := by decide +kernel
theorem dX4_gatherParts_39 : decode cX4_gatherParts 39 = .ok (.iconst 1, 1) := by decide +kernel
theorem dX4_gatherParts_40 : decode cX4_gatherParts 40 = .ok (.iload_n 1, 1) := by decide +kernel
theorem dX4_gatherParts_41 : decode cX4_gatherParts 41 = .ok (.ishl, 1) := by decide +kernel
theorem dX4_gatherParts_42 : decode cX4_gatherParts 42 = .ok (.ior, 1) := by decide +kernel
theorem dX4_gatherParts_43 : decode cX4_gatherParts 43 = .ok (.putfield 31, 3) := by decide +kernel
theorem dX4_gatherParts_46 : decode cX4_gatherParts 46 = .ok (.iinc 1 1, 3) := by decide +kernel
theorem dX4_gatherParts_49 : decode cX4_gatherParts 49 = .ok (.goto (-42), 3) := by decide +kernel
theorem dX4_gatherParts_52 : decode cX4_gatherParts 52 = .ok (.aload_n 0, 1) := by decide +kernel
theorem dX4_gatherParts_53 : decode cX4_gatherParts 53 = .ok (.iconst 0, 1) := by decide +kernel
theorem dX4_gatherParts_54 : decode cX4_gatherParts 54 = .ok (.putfield 27, 3) := by decide +kernel
theorem dX4_gatherParts_57 : decode cX4_gatherParts 57 = .ok (.iconst 0, 1) := by decide +kernel
theorem dX4_gatherParts_58 : decode cX4_gatherParts 58 = .ok (.istore_n 1, 1) := by decide +kernel
theorem dX4_gatherParts_59 : decode cX4_gatherParts 59 = .ok (.iload_n 1, 1) := by decide +kernel
theorem dX4_gatherParts_60 : decode cX4_gatherParts 60 = .ok (.aload_n 0, 1) := by decide +kernel
theorem dX4_gatherParts_61 : decode cX4_gatherParts 61 = .ok (.getfield 41, 3) := by decide +kernel
theorem dX4_gatherParts_64 : decode cX4_gatherParts 64 = .ok (.if_icmp .ge 32, 3) := by decide +kernel
theorem dX4_gatherParts_67 : decode cX4_gatherParts 67 = .ok (.iload_n 1, 1) := by decide +kernel
theorem dX4_gatherParts_68 : decode cX4_gatherParts 68 = .ok (.sipush 128, 3) := by decide +kernel
theorem dX4_gatherParts_71 : decode cX4_gatherParts 71 = .ok (.if_icmp .ge 25, 3) := by decide +kernel
theorem dX4_gatherParts_74 : decode cX4_gatherParts 74 = .ok (.aload_n 0, 1) := by decide +kernel
theorem dX4_gatherParts_75 : decode cX4_gatherParts 75 = .ok (.aload_n 0, 1) := by decide +kernel
theorem dX4_gatherParts_76 : decode cX4_gatherParts 76 = .ok (.getfield 11, 3) := by decide +kernel
theorem dX4_gatherParts_79 : decode cX4_gatherParts 79 = .ok (.iload_n 1, 1) := by decide +kernel
theorem dX4_gatherParts_80 : decode cX4_gatherParts 80 = .ok (.iaload, 1) := by decide +kernel
theorem dX4_gatherParts_81 : decode cX4_gatherParts 81 = .ok (.aload_n 0, 1) := by decide +kernel
theorem dX4_gatherParts_82 : decode cX4_gatherParts 82 = .ok (.getfield 31, 3) := by decide +kernel
theorem dX4_gatherParts_85 : decode cX4_gatherParts 85 = .ok (.iand, 1) := by decide +kernel
theorem dX4_gatherParts_86 : decode cX4_gatherParts 86 = .ok (.iload_n 1, 1) := by decide +kernel
theorem dX4_gatherParts_87 : decode cX4_gatherParts 87 = .ok (.invokevirtual 99, 3) := by decide +kernel
theorem dX4_gatherParts_90 : decode cX4_gatherParts 90 = .ok (.iinc 1 1, 3) := by decide +kernel
theorem dX4_gatherParts_93 : decode cX4_gatherParts 93 = .ok (.goto (-34), 3) := by decide +kernel
theorem dX4_gatherParts_96 : decode cX4_gatherParts 96 = .ok (.return_, 1) := by decide +kernel
theorem dX4_isOnPath_0 : decode cX4_isOnPath 0 = .ok (.iconst 0, 1) := by decide +kernel
theorem dX4_isOnPath_1 : decode cX4_isOnPath 1 = .ok (.istore_n 2, 1) := by decide +kernel
theorem dX4_isOnPath_2 : decode cX4_isOnPath 2 = .ok (.iload_n 2, 1) := by decide +kernel
theorem dX4_isOnPath_3 : decode cX4_isOnPath 3 = .ok (.aload_n 0, 1) := by decide +kernel
theorem dX4_isOnPath_4 : decode cX4_isOnPath 4 = .ok (.getfield 41, 3) := by decide +kernel
theorem dX4_isOnPath_7 : decode cX4_isOnPath 7 = .ok (.if_icmp .ge 31, 3) := by decide +kernel
theorem dX4_isOnPath_10 : decode cX4_isOnPath 10 = .ok (.iload_n 2, 1) := by decide +kernel
theorem dX4_isOnPath_11 : decode cX4_isOnPath 11 = .ok (.sipush 128, 3) := by decide +kernel
theorem dX4_isOnPath_14 : decode cX4_isOnPath 14 = .ok (.if_icmp .ge 24, 3) := by decide +kernel
theorem dX4_isOnPath_17 : decode cX4_isOnPath 17 = .ok (.aload_n 0, 1) := by decide +kernel
theorem dX4_isOnPath_18 : decode cX4_isOnPath 18 = .ok (.getfield 11, 3) := by decide +kernel
theorem dX4_isOnPath_21 : decode cX4_isOnPath 21 = .ok (.iload_n 2, 1) := by decide +kernel
theorem dX4_isOnPath_22 : decode cX4_isOnPath 22 = .ok (.iaload, 1) := by decide +kernel
theorem dX4_isOnPath_23 : decode cX4_isOnPath 23 = .ok (.iload_n 1, 1) := by decide +kernel
theorem dX4_isOnPath_24 : decode cX4_isOnPath 24 = .ok (.ishr, 1) := by decide +kernel
theorem dX4_isOnPath_25 : decode cX4_isOnPath 25 = .ok (.iconst 1, 1) := by decide +kernel
theorem dX4_isOnPath_26 : decode cX4_isOnPath 26 = .ok (.iand, 1) := by decide +kernel
theorem dX4_isOnPath_27 : decode cX4_isOnPath 27 = .ok (.ifCond .eq 5, 3) := by decide +kernel
theorem dX4_isOnPath_30 : decode cX4_isOnPath 30 = .ok (.iconst 1, 1) := by decide +kernel
theorem dX4_isOnPath_31 : decode cX4_isOnPath 31 = .ok (.ireturn, 1) := by decide +kernel
theorem dX4_isOnPath_32 : decode cX4_isOnPath 32 = .ok (.iinc 2 1, 3) := by decide +kernel
theorem dX4_isOnPath_35 : decode cX4_isOnPath 35 = .ok (.goto (-33), 3) := by decide +kernel
theorem dX4_isOnPath_38 : decode cX4_isOnPath 38 = .ok (.iconst 0, 1) := by decide +kernel
theorem dX4_isOnPath_39 : decode cX4_isOnPath 39 = .ok (.ireturn, 1) := by decide +kernel
theorem dX4_hasLowerLike_0 : decode cX4_hasLowerLike 0 = .ok (.iconst 0, 1) := by decide +kernel
theorem dX4_hasLowerLike_1 : decode cX4_hasLowerLike 1 = .ok (.istore_n 2, 1) := by decide +kernel
theorem dX4_hasLowerLike_2 : decode cX4_hasLowerLike 2 = .ok (.iload_n 2, 1) := by decide +kernel
theorem dX4_hasLowerLike_3 : decode cX4_hasLowerLike 3 = .ok (.iload_n 1, 1) := by decide +kernel
theorem dX4_hasLowerLike_4 : decode cX4_hasLowerLike 4 = .ok (.if_icmp .ge 20, 3) := by decide +kernel
theorem dX4_hasLowerLike_7 : decode cX4_hasLowerLike 7 = .ok (.aload_n 0, 1) := by decide +kernel
theorem dX4_hasLowerLike_8 : decode cX4_hasLowerLike 8 = .ok (.iload_n 2, 1) := by decide +kernel
theorem dX4_hasLowerLike_9 : decode cX4_hasLowerLike 9 = .ok (.iload_n 1, 1) := by decide +kernel
theorem dX4_hasLowerLike_10 : decode cX4_hasLowerLike 10 = .ok (.invokevirtual 102, 3) := by decide +kernel
theorem dX4_hasLowerLike_13 : decode cX4_hasLowerLike 13 = .ok (.ifCond .eq 5, 3) := by decide +kernel
theorem dX4_hasLowerLike_16 : decode cX4_hasLowerLike 16 = .ok (.iconst 1, 1) := by decide +kernel
theorem dX4_hasLowerLike_17 : decode cX4_hasLowerLike 17 = .ok (.ireturn, 1) := by decide +kernel
theorem dX4_hasLowerLike_18 : decode cX4_hasLowerLike 18 = .ok (.iinc 2 1, 3) := by decide +kernel
theorem dX4_hasLowerLike_21 : decode cX4_hasLowerLike 21 = .ok (.goto (-19), 3) := by decide +kernel
theorem dX4_hasLowerLike_24 : decode cX4_hasLowerLike 24 = .ok (.iconst 0, 1) := by decide +kernel
theorem dX4_hasLowerLike_25 : decode cX4_hasLowerLike 25 = .ok (.ireturn, 1) := by decide +kernel
theorem dX4_areAlike_0 : decode cX4_areAlike 0 = .ok (.iconst 0, 1) := by decide +kernel
theorem dX4_areAlike_1 : decode cX4_areAlike 1 = .ok (.istore_n 3, 1) := by decide +kernel
theorem dX4_areAlike_2 : decode cX4_areAlike 2 = .ok (.iload_n 3, 1) := by decide +kernel
theorem dX4_areAlike_3 : decode cX4_areAlike 3 = .ok (.aload_n 0, 1) := by decide +kernel
theorem dX4_areAlike_4 : decode cX4_areAlike 4 = .ok (.getfield 41, 3) := by decide +kernel
theorem dX4_areAlike_7 : decode cX4_areAlike 7 = .ok (.if_icmp .ge 40, 3) := by decide +kernel
theorem dX4_areAlike_10 : decode cX4_areAlike 10 = .ok (.iload_n 3, 1) := by decide +kernel
theorem dX4_areAlike_11 : decode cX4_areAlike 11 = .ok (.sipush 128, 3) := by decide +kernel
theorem dX4_areAlike_14 : decode cX4_areAlike 14 = .ok (.if_icmp .ge 33, 3) := by decide +kernel
theorem dX4_areAlike_17 : decode cX4_areAlike 17 = .ok (.aload_n 0, 1) := by decide +kernel
theorem dX4_areAlike_18 : decode cX4_areAlike 18 = .ok (.getfield 11, 3) := by decide +kernel
theorem dX4_areAlike_21 : decode cX4_areAlike 21 = .ok (.iload_n 3, 1) := by decide +kernel
theorem dX4_areAlike_22 : decode cX4_areAlike 22 = .ok (.iaload, 1) := by decide +kernel
theorem dX4_areAlike_23 : decode cX4_areAlike 23 = .ok (.iload_n 1, 1) := by decide +kernel
theorem dX4_areAlike_24 : decode cX4_areAlike 24 = .ok (.ishr, 1) := by decide +kernel
theorem dX4_areAlike_25 : decode cX4_areAlike 25 = .ok (.aload_n 0, 1) := by decide +kernel
theorem dX4_areAlike_26 : decode cX4_areAlike 26 = .ok (.getfield 11, 3) := by decide +kernel
theorem dX4_areAlike_29 : decode cX4_areAlike 29 = .ok (.iload_n 3, 1) := by decide +kernel
theorem dX4_areAlike_30 : decode cX4_areAlike 30 = .ok (.iaload, 1) := by decide +kernel
theorem dX4_areAlike_31 : decode cX4_areAlike 31 = .ok (.iload_n 2, 1) := by decide +kernel
theorem dX4_areAlike_32 : decode cX4_areAlike 32 = .ok (.ishr, 1) := by decide +kernel
theorem dX4_areAlike_33 : decode cX4_areAlike 33 = .ok (.ixor, 1) := by decide +kernel
theorem dX4_areAlike_34 : decode cX4_areAlike 34 = .ok (.iconst 1, 1) := by decide +kernel
theorem dX4_areAlike_35 : decode cX4_areAlike 35 = .ok (.iand, 1) := by decide +kernel
theorem dX4_areAlike_36 : decode cX4_areAlike 36 = .ok (.ifCond .eq 5, 3) := by decide +kernel
theorem dX4_areAlike_39 : decode cX4_areAlike 39 = .ok (.iconst 0, 1) := by decide +kernel
theorem dX4_areAlike_40 : decode cX4_areAlike 40 = .ok (.ireturn, 1) := by decide +kernel
theorem dX4_areAlike_41 : decode cX4_areAlike 41 = .ok (.iinc 3 1, 3) := by decide +kernel
theorem dX4_areAlike_44 : decode cX4_areAlike 44 = .ok (.goto (-42), 3) := by decide +kernel
theorem dX4_areAlike_47 : decode cX4_areAlike 47 = .ok (.iconst 1, 1) := by decide +kernel
theorem dX4_areAlike_48 : decode cX4_areAlike 48 = .ok (.ireturn, 1) := by decide +kernel
theorem dX4_addPart_0 : decode cX4_addPart 0 = .ok (.iconst 0, 1) := by decide +kernel
theorem dX4_addPart_1 : decode cX4_addPart 1 = .ok (.istore_n 3, 1) := by decide +kernel
theorem dX4_addPart_2 : decode cX4_addPart 2 = .ok (.iload_n 3, 1) := by decide +kernel
theorem dX4_addPart_3 : decode cX4_addPart 3 = .ok (.aload_n 0, 1) := by decide +kernel
theorem dX4_addPart_4 : decode cX4_addPart 4 = .ok (.getfield 27, 3) := by decide +kernel
theorem dX4_addPart_7 : decode cX4_addPart 7 = .ok (.if_icmp .ge 27, 3) := by decide +kernel
theorem dX4_addPart_10 : decode cX4_addPart 10 = .ok (.iload_n 3, 1) := by decide +kernel
theorem dX4_addPart_11 : decode cX4_addPart 11 = .ok (.sipush 128, 3) := by decide +kernel
theorem dX4_addPart_14 : decode cX4_addPart 14 = .ok (.if_icmp .ge 20, 3) := by decide +kernel
theorem dX4_addPart_17 : decode cX4_addPart 17 = .ok (.aload_n 0, 1) := by decide +kernel
theorem dX4_addPart_18 : decode cX4_addPart 18 = .ok (.getfield 15, 3) := by decide +kernel
theorem dX4_addPart_21 : decode cX4_addPart 21 = .ok (.iload_n 3, 1) := by decide +kernel
theorem dX4_addPart_22 : decode cX4_addPart 22 = .ok (.iaload, 1) := by decide +kernel
theorem dX4_addPart_23 : decode cX4_addPart 23 = .ok (.iload_n 1, 1) := by decide +kernel
theorem dX4_addPart_24 : decode cX4_addPart 24 = .ok (.if_icmp .ne 4, 3) := by decide +kernel
theorem dX4_addPart_27 : decode cX4_addPart 27 = .ok (.return_, 1) := by decide +kernel
theorem dX4_addPart_28 : decode cX4_addPart 28 = .ok (.iinc 3 1, 3) := by decide +kernel
theorem dX4_addPart_31 : decode cX4_addPart 31 = .ok (.goto (-29), 3) := by decide +kernel
theorem dX4_addPart_34 : decode cX4_addPart 34 = .ok (.aload_n 0, 1) := by decide +kernel
theorem dX4_addPart_35 : decode cX4_addPart 35 = .ok (.getfield 27, 3) := by decide +kernel
theorem dX4_addPart_38 : decode cX4_addPart 38 = .ok (.ifCond .lt 43, 3) := by decide +kernel
theorem dX4_addPart_41 : decode cX4_addPart 41 = .ok (.aload_n 0, 1) := by decide +kernel
theorem dX4_addPart_42 : decode cX4_addPart 42 = .ok (.getfield 27, 3) := by decide +kernel
theorem dX4_addPart_45 : decode cX4_addPart 45 = .ok (.sipush 128, 3) := by decide +kernel
theorem dX4_addPart_48 : decode cX4_addPart 48 = .ok (.if_icmp .ge 33, 3) := by decide +kernel
theorem dX4_addPart_51 : decode cX4_addPart 51 = .ok (.aload_n 0, 1) := by decide +kernel
theorem dX4_addPart_52 : decode cX4_addPart 52 = .ok (.getfield 15, 3) := by decide +kernel
theorem dX4_addPart_55 : decode cX4_addPart 55 = .ok (.aload_n 0, 1) := by decide +kernel
theorem dX4_addPart_56 : decode cX4_addPart 56 = .ok (.getfield 27, 3) := by decide +kernel
theorem dX4_addPart_59 : decode cX4_addPart 59 = .ok (.iload_n 1, 1) := by decide +kernel
theorem dX4_addPart_60 : decode cX4_addPart 60 = .ok (.iastore, 1) := by decide +kernel
theorem dX4_addPart_61 : decode cX4_addPart 61 = .ok (.aload_n 0, 1) := by decide +kernel
theorem dX4_addPart_62 : decode cX4_addPart 62 = .ok (.getfield 18, 3) := by decide +kernel
theorem dX4_addPart_65 : decode cX4_addPart 65 = .ok (.aload_n 0, 1) := by decide +kernel
theorem dX4_addPart_66 : decode cX4_addPart 66 = .ok (.getfield 27, 3) := by decide +kernel
theorem dX4_addPart_69 : decode cX4_addPart 69 = .ok (.iload_n 2, 1) := by decide +kernel
theorem dX4_addPart_70 : decode cX4_addPart 70 = .ok (.iastore, 1) := by decide +kernel
theorem dX4_addPart_71 : decode cX4_addPart 71 = .ok (.aload_n 0, 1) := by decide +kernel
theorem dX4_addPart_72 : decode cX4_addPart 72 = .ok (.dup, 1) := by decide +kernel
theorem dX4_addPart_73 : decode cX4_addPart 73 = .ok (.getfield 27, 3) := by decide +kernel
theorem dX4_addPart_76 : decode cX4_addPart 76 = .ok (.iconst 1, 1) := by decide +kernel
theorem dX4_addPart_77 : decode cX4_addPart 77 = .ok (.iadd, 1) := by decide +kernel
theorem dX4_addPart_78 : decode cX4_addPart 78 = .ok (.putfield 27, 3) := by decide +kernel
theorem dX4_addPart_81 : decode cX4_addPart 81 = .ok (.return_, 1) := by decide +kernel
theorem dX4_choose_0 : decode cX4_choose 0 = .ok (.aload_n 0, 1) := by decide +kernel
theorem dX4_choose_1 : decode cX4_choose 1 = .ok (.iload_n 1, 1) := by decide +kernel
theorem dX4_choose_2 : decode cX4_choose 2 = .ok (.iconst 1, 1) := by decide +kernel
theorem dX4_choose_3 : decode cX4_choose 3 = .ok (.if_icmp .ne 7, 3) := by decide +kernel
theorem dX4_choose_6 : decode cX4_choose 6 = .ok (.iconst 1, 1) := by decide +kernel
theorem dX4_choose_7 : decode cX4_choose 7 = .ok (.goto 4, 3) := by decide +kernel
theorem dX4_choose_10 : decode cX4_choose 10 = .ok (.iconst 0, 1) := by decide +kernel
theorem dX4_choose_11 : decode cX4_choose 11 = .ok (.putfield 34, 3) := by decide +kernel
theorem dX4_choose_14 : decode cX4_choose 14 = .ok (.bipush (-2), 2) := by decide +kernel
theorem dX4_choose_16 : decode cX4_choose 16 = .ok (.istore_n 2, 1) := by decide +kernel
theorem dX4_choose_17 : decode cX4_choose 17 = .ok (.aload_n 0, 1) := by decide +kernel
theorem dX4_choose_18 : decode cX4_choose 18 = .ok (.getfield 31, 3) := by decide +kernel
theorem dX4_choose_21 : decode cX4_choose 21 = .ok (.ifCond .ne 8, 3) := by decide +kernel
theorem dX4_choose_24 : decode cX4_choose 24 = .ok (.iconst 0, 1) := by decide +kernel
theorem dX4_choose_25 : decode cX4_choose 25 = .ok (.istore_n 2, 1) := by decide +kernel
theorem dX4_choose_26 : decode cX4_choose 26 = .ok (.goto 39, 3) := by decide +kernel
theorem dX4_choose_29 : decode cX4_choose 29 = .ok (.aload_n 0, 1) := by decide +kernel
theorem dX4_choose_30 : decode cX4_choose 30 = .ok (.iload_n 1, 1) := by decide +kernel
theorem dX4_choose_31 : decode cX4_choose 31 = .ok (.invokevirtual 106, 3) := by decide +kernel
theorem dX4_choose_34 : decode cX4_choose 34 = .ok (.ifCond .eq 8, 3) := by decide +kernel
theorem dX4_choose_37 : decode cX4_choose 37 = .ok (.iconst 1, 1) := by decide +kernel
theorem dX4_choose_38 : decode cX4_choose 38 = .ok (.istore_n 2, 1) := by decide +kernel
theorem dX4_choose_39 : decode cX4_choose 39 = .ok (.goto 26, 3) := by decide +kernel
theorem dX4_choose_42 : decode cX4_choose 42 = .ok (.aload_n 0, 1) := by decide +kernel
theorem dX4_choose_43 : decode cX4_choose 43 = .ok (.iload_n 1, 1) := by decide +kernel
theorem dX4_choose_44 : decode cX4_choose 44 = .ok (.invokevirtual 109, 3) := by decide +kernel
theorem dX4_choose_47 : decode cX4_choose 47 = .ok (.ifCond .eq 8, 3) := by decide +kernel
theorem dX4_choose_50 : decode cX4_choose 50 = .ok (.iconst 2, 1) := by decide +kernel
theorem dX4_choose_51 : decode cX4_choose 51 = .ok (.istore_n 2, 1) := by decide +kernel
theorem dX4_choose_52 : decode cX4_choose 52 = .ok (.goto 13, 3) := by decide +kernel
theorem dX4_choose_55 : decode cX4_choose 55 = .ok (.aload_n 0, 1) := by decide +kernel
theorem dX4_choose_56 : decode cX4_choose 56 = .ok (.iload_n 1, 1) := by decide +kernel
theorem dX4_choose_57 : decode cX4_choose 57 = .ok (.invokevirtual 112, 3) := by decide +kernel
theorem dX4_choose_60 : decode cX4_choose 60 = .ok (.ifCond .eq 5, 3) := by decide +kernel
theorem dX4_choose_63 : decode cX4_choose 63 = .ok (.iconst 3, 1) := by decide +kernel
theorem dX4_choose_64 : decode cX4_choose 64 = .ok (.istore_n 2, 1) := by decide +kernel
theorem dX4_choose_65 : decode cX4_choose 65 = .ok (.iload_n 1, 1) := by decide +kernel
theorem dX4_choose_66 : decode cX4_choose 66 = .ok (.ifCond .eq 8, 3) := by decide +kernel
theorem dX4_choose_69 : decode cX4_choose 69 = .ok (.iload_n 1, 1) := by decide +kernel
theorem dX4_choose_70 : decode cX4_choose 70 = .ok (.iconst 1, 1) := by decide +kernel
theorem dX4_choose_71 : decode cX4_choose 71 = .ok (.if_icmp .ne 10, 3) := by decide +kernel
theorem dX4_choose_74 : decode cX4_choose 74 = .ok (.aload_n 0, 1) := by decide +kernel
theorem dX4_choose_75 : decode cX4_choose 75 = .ok (.getfield 21, 3) := by decide +kernel
theorem dX4_choose_78 : decode cX4_choose 78 = .ok (.iload_n 1, 1) := by decide +kernel
theorem dX4_choose_79 : decode cX4_choose 79 = .ok (.iload_n 2, 1) := by decide +kernel
theorem dX4_choose_80 : decode cX4_choose 80 = .ok (.iastore, 1) := by decide +kernel
theorem dX4_choose_81 : decode cX4_choose 81 = .ok (.return_, 1) := by decide +kernel
theorem dX4_findOne_0 : decode cX4_findOne 0 = .ok (.iconst 0, 1) := by decide +kernel
theorem dX4_findOne_1 : decode cX4_findOne 1 = .ok (.istore_n 2, 1) := by decide +kernel
theorem dX4_findOne_2 : decode cX4_findOne 2 = .ok (.iload_n 2, 1) := by decide +kernel
theorem dX4_findOne_3 : decode cX4_findOne 3 = .ok (.aload_n 0, 1) := by decide +kernel
theorem dX4_findOne_4 : decode cX4_findOne 4 = .ok (.getfield 27, 3) := by decide +kernel
theorem dX4_findOne_7 : decode cX4_findOne 7 = .ok (.if_icmp .ge 40, 3) := by decide +kernel
theorem dX4_findOne_10 : decode cX4_findOne 10 = .ok (.iload_n 2, 1) := by decide +kernel
theorem dX4_findOne_11 : decode cX4_findOne 11 = .ok (.sipush 128, 3) := by decide +kernel
theorem dX4_findOne_14 : decode cX4_findOne 14 = .ok (.if_icmp .ge 33, 3) := by decide +kernel
theorem dX4_findOne_17 : decode cX4_findOne 17 = .ok (.aload_n 0, 1) := by decide +kernel
theorem dX4_findOne_18 : decode cX4_findOne 18 = .ok (.aload_n 0, 1) := by decide +kernel
theorem dX4_findOne_19 : decode cX4_findOne 19 = .ok (.getfield 15, 3) := by decide +kernel
theorem dX4_findOne_22 : decode cX4_findOne 22 = .ok (.iload_n 2, 1) := by decide +kernel
theorem dX4_findOne_23 : decode cX4_findOne 23 = .ok (.iaload, 1) := by decide +kernel
theorem dX4_findOne_24 : decode cX4_findOne 24 = .ok (.iconst 0, 1) := by decide +kernel
theorem dX4_findOne_25 : decode cX4_findOne 25 = .ok (.iconst 0, 1) := by decide +kernel
theorem dX4_findOne_26 : decode cX4_findOne 26 = .ok (.invokevirtual 115, 3) := by decide +kernel
theorem dX4_findOne_29 : decode cX4_findOne 29 = .ok (.ifCond .eq 12, 3) := by decide +kernel
theorem dX4_findOne_32 : decode cX4_findOne 32 = .ok (.aload_n 0, 1) := by decide +kernel
theorem dX4_findOne_33 : decode cX4_findOne 33 = .ok (.iload_n 1, 1) := by decide +kernel
theorem dX4_findOne_34 : decode cX4_findOne 34 = .ok (.iconst 0, 1) := by decide +kernel
theorem dX4_findOne_35 : decode cX4_findOne 35 = .ok (.iload_n 2, 1) := by decide +kernel
theorem dX4_findOne_36 : decode cX4_findOne 36 = .ok (.invokevirtual 119, 3) := by decide +kernel
theorem dX4_findOne_39 : decode cX4_findOne 39 = .ok (.iconst 1, 1) := by decide +kernel
theorem dX4_findOne_40 : decode cX4_findOne 40 = .ok (.ireturn, 1) := by decide +kernel
theorem dX4_findOne_41 : decode cX4_findOne 41 = .ok (.iinc 2 1, 3) := by decide +kernel
theorem dX4_findOne_44 : decode cX4_findOne 44 = .ok (.goto (-42), 3) := by decide +kernel
theorem dX4_findOne_47 : decode cX4_findOne 47 = .ok (.iconst 0, 1) := by decide +kernel
theorem dX4_findOne_48 : decode cX4_findOne 48 = .ok (.ireturn, 1) := by decide +kernel
theorem dX4_findTwo_0 : decode cX4_findTwo 0 = .ok (.iconst 0, 1) := by decide +kernel
theorem dX4_findTwo_1 : decode cX4_findTwo 1 = .ok (.istore_n 2, 1) := by decide +kernel
theorem dX4_findTwo_2 : decode cX4_findTwo 2 = .ok (.iload_n 2, 1) := by decide +kernel
theorem dX4_findTwo_3 : decode cX4_findTwo 3 = .ok (.aload_n 0, 1) := by decide +kernel
theorem dX4_findTwo_4 : decode cX4_findTwo 4 = .ok (.getfield 27, 3) := by decide +kernel
theorem dX4_findTwo_7 : decode cX4_findTwo 7 = .ok (.if_icmp .ge 77, 3) := by decide +kernel
theorem dX4_findTwo_10 : decode cX4_findTwo 10 = .ok (.iload_n 2, 1) := by decide +kernel
theorem dX4_findTwo_11 : decode cX4_findTwo 11 = .ok (.sipush 128, 3) := by decide +kernel
theorem dX4_findTwo_14 : decode cX4_findTwo 14 = .ok (.if_icmp .ge 70, 3) := by decide +kernel
theorem dX4_findTwo_17 : decode cX4_findTwo 17 = .ok (.iload_n 2, 1) := by decide +kernel
theorem dX4_findTwo_18 : decode cX4_findTwo 18 = .ok (.iconst 1, 1) := by decide +kernel
theorem dX4_findTwo_19 : decode cX4_findTwo 19 = .ok (.iadd, 1) := by decide +kernel
theorem dX4_findTwo_20 : decode cX4_findTwo 20 = .ok (.istore_n 3, 1) := by decide +kernel
theorem dX4_findTwo_21 : decode cX4_findTwo 21 = .ok (.iload_n 3, 1) := by decide +kernel
theorem dX4_findTwo_22 : decode cX4_findTwo 22 = .ok (.aload_n 0, 1) := by decide +kernel
theorem dX4_findTwo_23 : decode cX4_findTwo 23 = .ok (.getfield 27, 3) := by decide +kernel
theorem dX4_findTwo_26 : decode cX4_findTwo 26 = .ok (.if_icmp .ge 52, 3) := by decide +kernel
theorem dX4_findTwo_29 : decode cX4_findTwo 29 = .ok (.iload_n 3, 1) := by decide +kernel
theorem dX4_findTwo_30 : decode cX4_findTwo 30 = .ok (.sipush 128, 3) := by decide +kernel
theorem dX4_findTwo_33 : decode cX4_findTwo 33 = .ok (.if_icmp .ge 45, 3) := by decide +kernel
theorem dX4_findTwo_36 : decode cX4_findTwo 36 = .ok (.aload_n 0, 1) := by decide +kernel
theorem dX4_findTwo_37 : decode cX4_findTwo 37 = .ok (.aload_n 0, 1) := by decide +kernel
theorem dX4_findTwo_38 : decode cX4_findTwo 38 = .ok (.getfield 15, 3) := by decide +kernel
theorem dX4_findTwo_41 : decode cX4_findTwo 41 = .ok (.iload_n 2, 1) := by decide +kernel
theorem dX4_findTwo_42 : decode cX4_findTwo 42 = .ok (.iaload, 1) := by decide +kernel
theorem dX4_findTwo_43 : decode cX4_findTwo 43 = .ok (.aload_n 0, 1) := by decide +kernel
theorem dX4_findTwo_44 : decode cX4_findTwo 44 = .ok (.getfield 15, 3) := by decide +kernel
theorem dX4_findTwo_47 : decode cX4_findTwo 47 = .ok (.iload_n 3, 1) := by decide +kernel
theorem dX4_findTwo_48 : decode cX4_findTwo 48 = .ok (.iaload, 1) := by decide +kernel
theorem dX4_findTwo_49 : decode cX4_findTwo 49 = .ok (.iconst 0, 1) := by decide +kernel
theorem dX4_findTwo_50 : decode cX4_findTwo 50 = .ok (.invokevirtual 115, 3) := by decide +kernel
theorem dX4_findTwo_53 : decode cX4_findTwo 53 = .ok (.ifCond .eq 19, 3) := by decide +kernel
theorem dX4_findTwo_56 : decode cX4_findTwo 56 = .ok (.aload_n 0, 1) := by decide +kernel
theorem dX4_findTwo_57 : decode cX4_findTwo 57 = .ok (.iload_n 1, 1) := by decide +kernel
theorem dX4_findTwo_58 : decode cX4_findTwo 58 = .ok (.iconst 0, 1) := by decide +kernel
theorem dX4_findTwo_59 : decode cX4_findTwo 59 = .ok (.iload_n 2, 1) := by decide +kernel
theorem dX4_findTwo_60 : decode cX4_findTwo 60 = .ok (.invokevirtual 119, 3) := by decide +kernel
theorem dX4_findTwo_63 : decode cX4_findTwo 63 = .ok (.aload_n 0, 1) := by decide +kernel
theorem dX4_findTwo_64 : decode cX4_findTwo 64 = .ok (.iload_n 1, 1) := by decide +kernel
theorem dX4_findTwo_65 : decode cX4_findTwo 65 = .ok (.iconst 1, 1) := by decide +kernel
theorem dX4_findTwo_66 : decode cX4_findTwo 66 = .ok (.iload_n 3, 1) := by decide +kernel
theorem dX4_findTwo_67 : decode cX4_findTwo 67 = .ok (.invokevirtual 119, 3) := by decide +kernel
theorem dX4_findTwo_70 : decode cX4_findTwo 70 = .ok (.iconst 1, 1) := by decide +kernel
theorem dX4_findTwo_71 : decode cX4_findTwo 71 = .ok (.ireturn, 1) := by decide +kernel
theorem dX4_findTwo_72 : decode cX4_findTwo 72 = .ok (.iinc 3 1, 3) := by decide +kernel
theorem dX4_findTwo_75 : decode cX4_findTwo 75 = .ok (.goto (-54), 3) := by decide +kernel
theorem dX4_findTwo_78 : decode cX4_findTwo 78 = .ok (.iinc 2 1, 3) := by decide +kernel
theorem dX4_findTwo_81 : decode cX4_findTwo 81 = .ok (.goto (-79), 3) := by decide +kernel
theorem dX4_findTwo_84 : decode cX4_findTwo 84 = .ok (.iconst 0, 1) := by decide +kernel
theorem dX4_findTwo_85 : decode cX4_findTwo 85 = .ok (.ireturn, 1) := by decide +kernel
theorem dX4_findThree_0 : decode cX4_findThree 0 = .ok (.aload_n 0, 1) := by decide +kernel
theorem dX4_findThree_1 : decode cX4_findThree 1 = .ok (.getfield 34, 3) := by decide +kernel
theorem dX4_findThree_4 : decode cX4_findThree 4 = .ok (.ifCond .eq 17, 3) := by decide +kernel
theorem dX4_findThree_7 : decode cX4_findThree 7 = .ok (.aload_n 0, 1) := by decide +kernel
theorem dX4_findThree_8 : decode cX4_findThree 8 = .ok (.getfield 31, 3) := by decide +kernel
theorem dX4_findThree_11 : decode cX4_findThree 11 = .ok (.invokestatic 123, 3) := by decide +kernel
theorem dX4_findThree_14 : decode cX4_findThree 14 = .ok (.bipush 7, 2) := by decide +kernel
theorem dX4_findThree_16 : decode cX4_findThree 16 = .ok (.if_icmp .le 5, 3) := by decide +kernel
theorem dX4_findThree_19 : decode cX4_findThree 19 = .ok (.iconst 0, 1) := by decide +kernel
theorem dX4_findThree_20 : decode cX4_findThree 20 = .ok (.ireturn, 1) := by decide +kernel
theorem dX4_findThree_21 : decode cX4_findThree 21 = .ok (.iconst 0, 1) := by decide +kernel
theorem dX4_findThree_22 : decode cX4_findThree 22 = .ok (.istore_n 2, 1) := by decide +kernel
theorem dX4_findThree_23 : decode cX4_findThree 23 = .ok (.iload_n 2, 1) := by decide +kernel
theorem dX4_findThree_24 : decode cX4_findThree 24 = .ok (.aload_n 0, 1) := by decide +kernel
theorem dX4_findThree_25 : decode cX4_findThree 25 = .ok (.getfield 27, 3) := by decide +kernel
theorem dX4_findThree_28 : decode cX4_findThree 28 = .ok (.if_icmp .ge 79, 3) := by decide +kernel
theorem dX4_findThree_31 : decode cX4_findThree 31 = .ok (.iload_n 2, 1) := by decide +kernel
theorem dX4_findThree_32 : decode cX4_findThree 32 = .ok (.sipush 128, 3) := by decide +kernel
theorem dX4_findThree_35 : decode cX4_findThree 35 = .ok (.if_icmp .ge 72, 3) := by decide +kernel
theorem dX4_findThree_38 : decode cX4_findThree 38 = .ok (.iload_n 2, 1) := by decide +kernel
theorem dX4_findThree_39 : decode cX4_findThree 39 = .ok (.iconst 1, 1) := by decide +kernel
theorem dX4_findThree_40 : decode cX4_findThree 40 = .ok (.iadd, 1) := by decide +kernel
theorem dX4_findThree_41 : decode cX4_findThree 41 = .ok (.istore_n 3, 1) := by decide +kernel
theorem dX4_findThree_42 : decode cX4_findThree 42 = .ok (.iload_n 3, 1) := by decide +kernel
theorem dX4_findThree_43 : decode cX4_findThree 43 = .ok (.aload_n 0, 1) := by decide +kernel
theorem dX4_findThree_44 : decode cX4_findThree 44 = .ok (.getfield 27, 3) := by decide +kernel
theorem dX4_findThree_47 : decode cX4_findThree 47 = .ok (.if_icmp .ge 54, 3) := by decide +kernel
theorem dX4_findThree_50 : decode cX4_findThree 50 = .ok (.iload_n 3, 1) := by decide +kernel
theorem dX4_findThree_51 : decode cX4_findThree 51 = .ok (.sipush 128, 3) := by decide +kernel
theorem dX4_findThree_54 : decode cX4_findThree 54 = .ok (.if_icmp .ge 47, 3) := by decide +kernel
theorem dX4_findThree_57 : decode cX4_findThree 57 = .ok (.aload_n 0, 1) := by decide +kernel
theorem dX4_findThree_58 : decode cX4_findThree 58 = .ok (.iload_n 2, 1) := by decide +kernel
theorem dX4_findThree_59 : decode cX4_findThree 59 = .ok (.iload_n 3, 1) := by decide +kernel
theorem dX4_findThree_60 : decode cX4_findThree 60 = .ok (.invokevirtual 128, 3) := by decide +kernel
theorem dX4_findThree_63 : decode cX4_findThree 63 = .ok (.istore 4, 2) := by decide +kernel
theorem dX4_findThree_65 : decode cX4_findThree 65 = .ok (.iload 4, 2) := by decide +kernel
theorem dX4_findThree_67 : decode cX4_findThree 67 = .ok (.iconst (-1), 1) := by decide +kernel
theorem dX4_findThree_68 : decode cX4_findThree 68 = .ok (.if_icmp .eq 27, 3) := by decide +kernel
theorem dX4_findThree_71 : decode cX4_findThree 71 = .ok (.aload_n 0, 1) := by decide +kernel
theorem dX4_findThree_72 : decode cX4_findThree 72 = .ok (.iload_n 1, 1) := by decide +kernel
theorem dX4_findThree_73 : decode cX4_findThree 73 = .ok (.iconst 0, 1) := by decide +kernel
theorem dX4_findThree_74 : decode cX4_findThree 74 = .ok (.iload_n 2, 1) := by decide +kernel
theorem dX4_findThree_75 : decode cX4_findThree 75 = .ok (.invokevirtual 119, 3) := by decide +kernel
theorem dX4_findThree_78 : decode cX4_findThree 78 = .ok (.aload_n 0, 1) := by decide +kernel
theorem dX4_findThree_79 : decode cX4_findThree 79 = .ok (.iload_n 1, 1) := by decide +kernel
theorem dX4_findThree_80 : decode cX4_findThree 80 = .ok (.iconst 1, 1) := by decide +kernel
theorem dX4_findThree_81 : decode cX4_findThree 81 = .ok (.iload_n 3, 1) := by decide +kernel
theorem dX4_findThree_82 : decode cX4_findThree 82 = .ok (.invokevirtual 119, 3) := by decide +kernel
theorem dX4_findThree_85 : decode cX4_findThree 85 = .ok (.aload_n 0, 1) := by decide +kernel
theorem dX4_findThree_86 : decode cX4_findThree 86 = .ok (.iload_n 1, 1) := by decide +kernel
theorem dX4_findThree_87 : decode cX4_findThree 87 = .ok (.iconst 2, 1) := by decide +kernel
theorem dX4_findThree_88 : decode cX4_findThree 88 = .ok (.iload 4, 2) := by decide +kernel
theorem dX4_findThree_90 : decode cX4_findThree 90 = .ok (.invokevirtual 119, 3) := by decide +kernel
theorem dX4_findThree_93 : decode cX4_findThree 93 = .ok (.iconst 1, 1) := by decide +kernel
theorem dX4_findThree_94 : decode cX4_findThree 94 = .ok (.ireturn, 1) := by decide +kernel
theorem dX4_findThree_95 : decode cX4_findThree 95 = .ok (.iinc 3 1, 3) := by decide +kernel
theorem dX4_findThree_98 : decode cX4_findThree 98 = .ok (.goto (-56), 3) := by decide +kernel
theorem dX4_findThree_101 : decode cX4_findThree 101 = .ok (.iinc 2 1, 3) := by decide +kernel
theorem dX4_findThree_104 : decode cX4_findThree 104 = .ok (.goto (-81), 3) := by decide +kernel
theorem dX4_findThree_107 : decode cX4_findThree 107 = .ok (.iconst 0, 1) := by decide +kernel
theorem dX4_findThree_108 : decode cX4_findThree 108 = .ok (.ireturn, 1) := by decide +kernel
theorem dX4_thirdFor_0 : decode cX4_thirdFor 0 = .ok (.iload_n 1, 1) := by decide +kernel
theorem dX4_thirdFor_1 : decode cX4_thirdFor 1 = .ok (.ifCond .lt 21, 3) := by decide +kernel
theorem dX4_thirdFor_4 : decode cX4_thirdFor 4 = .ok (.iload_n 2, 1) := by decide +kernel
theorem dX4_thirdFor_5 : decode cX4_thirdFor 5 = .ok (.ifCond .lt 17, 3) := by decide +kernel
theorem dX4_thirdFor_8 : decode cX4_thirdFor 8 = .ok (.iload_n 1, 1) := by decide +kernel
theorem dX4_thirdFor_9 : decode cX4_thirdFor 9 = .ok (.sipush 128, 3) := by decide +kernel
theorem dX4_thirdFor_12 : decode cX4_thirdFor 12 = .ok (.if_icmp .ge 10, 3) := by decide +kernel
theorem dX4_thirdFor_15 : decode cX4_thirdFor 15 = .ok (.iload_n 2, 1) := by decide +kernel
theorem dX4_thirdFor_16 : decode cX4_thirdFor 16 = .ok (.sipush 128, 3) := by decide +kernel
theorem dX4_thirdFor_19 : decode cX4_thirdFor 19 = .ok (.if_icmp .lt 5, 3) := by decide +kernel
theorem dX4_thirdFor_22 : decode cX4_thirdFor 22 = .ok (.iconst (-1), 1) := by decide +kernel
theorem dX4_thirdFor_23 : decode cX4_thirdFor 23 = .ok (.ireturn, 1) := by decide +kernel
theorem dX4_thirdFor_24 : decode cX4_thirdFor 24 = .ok (.aload_n 0, 1) := by decide +kernel
theorem dX4_thirdFor_25 : decode cX4_thirdFor 25 = .ok (.getfield 31, 3) := by decide +kernel
theorem dX4_thirdFor_28 : decode cX4_thirdFor 28 = .ok (.aload_n 0, 1) := by decide +kernel
theorem dX4_thirdFor_29 : decode cX4_thirdFor 29 = .ok (.getfield 15, 3) := by decide +kernel
theorem dX4_thirdFor_32 : decode cX4_thirdFor 32 = .ok (.iload_n 1, 1) := by decide +kernel
theorem dX4_thirdFor_33 : decode cX4_thirdFor 33 = .ok (.iaload, 1) := by decide +kernel
theorem dX4_thirdFor_34 : decode cX4_thirdFor 34 = .ok (.iconst (-1), 1) := by decide +kernel
theorem dX4_thirdFor_35 : decode cX4_thirdFor 35 = .ok (.ixor, 1) := by decide +kernel
theorem dX4_thirdFor_36 : decode cX4_thirdFor 36 = .ok (.iand, 1) := by decide +kernel
theorem dX4_thirdFor_37 : decode cX4_thirdFor 37 = .ok (.aload_n 0, 1) := by decide +kernel
theorem dX4_thirdFor_38 : decode cX4_thirdFor 38 = .ok (.getfield 15, 3) := by decide +kernel
theorem dX4_thirdFor_41 : decode cX4_thirdFor 41 = .ok (.iload_n 2, 1) := by decide +kernel
theorem dX4_thirdFor_42 : decode cX4_thirdFor 42 = .ok (.iaload, 1) := by decide +kernel
theorem dX4_thirdFor_43 : decode cX4_thirdFor 43 = .ok (.iconst (-1), 1) := by decide +kernel
theorem dX4_thirdFor_44 : decode cX4_thirdFor 44 = .ok (.ixor, 1) := by decide +kernel
theorem dX4_thirdFor_45 : decode cX4_thirdFor 45 = .ok (.iand, 1) := by decide +kernel
theorem dX4_thirdFor_46 : decode cX4_thirdFor 46 = .ok (.istore_n 3, 1) := by decide +kernel
theorem dX4_thirdFor_47 : decode cX4_thirdFor 47 = .ok (.iload_n 3, 1) := by decide +kernel
theorem dX4_thirdFor_48 : decode cX4_thirdFor 48 = .ok (.invokestatic 123, 3) := by decide +kernel
theorem dX4_thirdFor_51 : decode cX4_thirdFor 51 = .ok (.iconst 5, 1) := by decide +kernel
theorem dX4_thirdFor_52 : decode cX4_thirdFor 52 = .ok (.if_icmp .lt 5, 3) := by decide +kernel
theorem dX4_thirdFor_55 : decode cX4_thirdFor 55 = .ok (.iconst (-1), 1) := by decide +kernel
theorem dX4_thirdFor_56 : decode cX4_thirdFor 56 = .ok (.ireturn, 1) := by decide +kernel
theorem dX4_thirdFor_57 : decode cX4_thirdFor 57 = .ok (.iload_n 2, 1) := by decide +kernel
theorem dX4_thirdFor_58 : decode cX4_thirdFor 58 = .ok (.iconst 1, 1) := by decide +kernel
theorem dX4_thirdFor_59 : decode cX4_thirdFor 59 = .ok (.iadd, 1) := by decide +kernel
theorem dX4_thirdFor_60 : decode cX4_thirdFor 60 = .ok (.istore 4, 2) := by decide +kernel
theorem dX4_thirdFor_62 : decode cX4_thirdFor 62 = .ok (.iload 4, 2) := by decide +kernel
theorem dX4_thirdFor_64 : decode cX4_thirdFor 64 = .ok (.aload_n 0, 1) := by decide +kernel
theorem dX4_thirdFor_65 : decode cX4_thirdFor 65 = .ok (.getfield 27, 3) := by decide +kernel
theorem dX4_thirdFor_68 : decode cX4_thirdFor 68 = .ok (.if_icmp .ge 59, 3) := by decide +kernel
theorem dX4_thirdFor_71 : decode cX4_thirdFor 71 = .ok (.iload 4, 2) := by decide +kernel
theorem dX4_thirdFor_73 : decode cX4_thirdFor 73 = .ok (.sipush 128, 3) := by decide +kernel
theorem dX4_thirdFor_76 : decode cX4_thirdFor 76 = .ok (.if_icmp .ge 51, 3) := by decide +kernel
theorem dX4_thirdFor_79 : decode cX4_thirdFor 79 = .ok (.aload_n 0, 1) := by decide +kernel
theorem dX4_thirdFor_80 : decode cX4_thirdFor 80 = .ok (.getfield 15, 3) := by decide +kernel
theorem dX4_thirdFor_83 : decode cX4_thirdFor 83 = .ok (.iload 4, 2) := by decide +kernel
theorem dX4_thirdFor_85 : decode cX4_thirdFor 85 = .ok (.iaload, 1) := by decide +kernel
theorem dX4_thirdFor_86 : decode cX4_thirdFor 86 = .ok (.iload_n 3, 1) := by decide +kernel
theorem dX4_thirdFor_87 : decode cX4_thirdFor 87 = .ok (.iand, 1) := by decide +kernel
theorem dX4_thirdFor_88 : decode cX4_thirdFor 88 = .ok (.iload_n 3, 1) := by decide +kernel
theorem dX4_thirdFor_89 : decode cX4_thirdFor 89 = .ok (.if_icmp .ne 32, 3) := by decide +kernel
theorem dX4_thirdFor_92 : decode cX4_thirdFor 92 = .ok (.aload_n 0, 1) := by decide +kernel
theorem dX4_thirdFor_93 : decode cX4_thirdFor 93 = .ok (.aload_n 0, 1) := by decide +kernel
theorem dX4_thirdFor_94 : decode cX4_thirdFor 94 = .ok (.getfield 15, 3) := by decide +kernel
theorem dX4_thirdFor_97 : decode cX4_thirdFor 97 = .ok (.iload_n 1, 1) := by decide +kernel
theorem dX4_thirdFor_98 : decode cX4_thirdFor 98 = .ok (.iaload, 1) := by decide +kernel
theorem dX4_thirdFor_99 : decode cX4_thirdFor 99 = .ok (.aload_n 0, 1) := by decide +kernel
theorem dX4_thirdFor_100 : decode cX4_thirdFor 100 = .ok (.getfield 15, 3) := by decide +kernel
theorem dX4_thirdFor_103 : decode cX4_thirdFor 103 = .ok (.iload_n 2, 1) := by decide +kernel
theorem dX4_thirdFor_104 : decode cX4_thirdFor 104 = .ok (.iaload, 1) := by decide +kernel
theorem dX4_thirdFor_105 : decode cX4_thirdFor 105 = .ok (.aload_n 0, 1) := by decide +kernel
theorem dX4_thirdFor_106 : decode cX4_thirdFor 106 = .ok (.getfield 15, 3) := by decide +kernel
theorem dX4_thirdFor_109 : decode cX4_thirdFor 109 = .ok (.iload 4, 2) := by decide +kernel
theorem dX4_thirdFor_111 : decode cX4_thirdFor 111 = .ok (.iaload, 1) := by decide +kernel
theorem dX4_thirdFor_112 : decode cX4_thirdFor 112 = .ok (.invokevirtual 115, 3) := by decide +kernel
theorem dX4_thirdFor_115 : decode cX4_thirdFor 115 = .ok (.ifCond .eq 6, 3) := by decide +kernel
theorem dX4_thirdFor_118 : decode cX4_thirdFor 118 = .ok (.iload 4, 2) := by decide +kernel
theorem dX4_thirdFor_120 : decode cX4_thirdFor 120 = .ok (.ireturn, 1) := by decide +kernel
theorem dX4_thirdFor_121 : decode cX4_thirdFor 121 = .ok (.iinc 4 1, 3) := by decide +kernel
theorem dX4_thirdFor_124 : decode cX4_thirdFor 124 = .ok (.goto (-62), 3) := by decide +kernel
theorem dX4_thirdFor_127 : decode cX4_thirdFor 127 = .ok (.iconst (-1), 1) := by decide +kernel
theorem dX4_thirdFor_128 : decode cX4_thirdFor 128 = .ok (.ireturn, 1) := by decide +kernel
theorem dX4_isEnough_0 : decode cX4_isEnough 0 = .ok (.iload_n 1, 1) := by decide +kernel
theorem dX4_isEnough_1 : decode cX4_isEnough 1 = .ok (.iload_n 2, 1) := by decide +kernel
theorem dX4_isEnough_2 : decode cX4_isEnough 2 = .ok (.ior, 1) := by decide +kernel
theorem dX4_isEnough_3 : decode cX4_isEnough 3 = .ok (.iload_n 3, 1) := by decide +kernel
theorem dX4_isEnough_4 : decode cX4_isEnough 4 = .ok (.ior, 1) := by decide +kernel
theorem dX4_isEnough_5 : decode cX4_isEnough 5 = .ok (.aload_n 0, 1) := by decide +kernel
theorem dX4_isEnough_6 : decode cX4_isEnough 6 = .ok (.getfield 31, 3) := by decide +kernel
theorem dX4_isEnough_9 : decode cX4_isEnough 9 = .ok (.if_icmp .eq 5, 3) := by decide +kernel
theorem dX4_isEnough_12 : decode cX4_isEnough 12 = .ok (.iconst 0, 1) := by decide +kernel
theorem dX4_isEnough_13 : decode cX4_isEnough 13 = .ok (.ireturn, 1) := by decide +kernel
theorem dX4_isEnough_14 : decode cX4_isEnough 14 = .ok (.aload_n 0, 1) := by decide +kernel
theorem dX4_isEnough_15 : decode cX4_isEnough 15 = .ok (.getfield 34, 3) := by decide +kernel
theorem dX4_isEnough_18 : decode cX4_isEnough 18 = .ok (.ifCond .ne 5, 3) := by decide +kernel
theorem dX4_isEnough_21 : decode cX4_isEnough 21 = .ok (.iconst 1, 1) := by decide +kernel
theorem dX4_isEnough_22 : decode cX4_isEnough 22 = .ok (.ireturn, 1) := by decide +kernel
theorem dX4_isEnough_23 : decode cX4_isEnough 23 = .ok (.iload_n 1, 1) := by decide +kernel
theorem dX4_isEnough_24 : decode cX4_isEnough 24 = .ok (.iload_n 2, 1) := by decide +kernel
theorem dX4_isEnough_25 : decode cX4_isEnough 25 = .ok (.iand, 1) := by decide +kernel
theorem dX4_isEnough_26 : decode cX4_isEnough 26 = .ok (.iload_n 3, 1) := by decide +kernel
theorem dX4_isEnough_27 : decode cX4_isEnough 27 = .ok (.iconst (-1), 1) := by decide +kernel
theorem dX4_isEnough_28 : decode cX4_isEnough 28 = .ok (.ixor, 1) := by decide +kernel
theorem dX4_isEnough_29 : decode cX4_isEnough 29 = .ok (.iand, 1) := by decide +kernel
theorem dX4_isEnough_30 : decode cX4_isEnough 30 = .ok (.invokestatic 132, 3) := by decide +kernel
theorem dX4_isEnough_33 : decode cX4_isEnough 33 = .ok (.ifCond .eq 37, 3) := by decide +kernel
theorem dX4_isEnough_36 : decode cX4_isEnough 36 = .ok (.iload_n 1, 1) := by decide +kernel
theorem dX4_isEnough_37 : decode cX4_isEnough 37 = .ok (.iload_n 2, 1) := by decide +kernel
theorem dX4_isEnough_38 : decode cX4_isEnough 38 = .ok (.iconst (-1), 1) := by decide +kernel
theorem dX4_isEnough_39 : decode cX4_isEnough 39 = .ok (.ixor, 1) := by decide +kernel
theorem dX4_isEnough_40 : decode cX4_isEnough 40 = .ok (.iand, 1) := by decide +kernel
theorem dX4_isEnough_41 : decode cX4_isEnough 41 = .ok (.iload_n 3, 1) := by decide +kernel
theorem dX4_isEnough_42 : decode cX4_isEnough 42 = .ok (.iconst (-1), 1) := by decide +kernel
theorem dX4_isEnough_43 : decode cX4_isEnough 43 = .ok (.ixor, 1) := by decide +kernel
theorem dX4_isEnough_44 : decode cX4_isEnough 44 = .ok (.iand, 1) := by decide +kernel
theorem dX4_isEnough_45 : decode cX4_isEnough 45 = .ok (.invokestatic 132, 3) := by decide +kernel
theorem dX4_isEnough_48 : decode cX4_isEnough 48 = .ok (.ifCond .eq 22, 3) := by decide +kernel
theorem dX4_isEnough_51 : decode cX4_isEnough 51 = .ok (.iload_n 1, 1) := by decide +kernel
theorem dX4_isEnough_52 : decode cX4_isEnough 52 = .ok (.iconst (-1), 1) := by decide +kernel
theorem dX4_isEnough_53 : decode cX4_isEnough 53 = .ok (.ixor, 1) := by decide +kernel
theorem dX4_isEnough_54 : decode cX4_isEnough 54 = .ok (.iload_n 2, 1) := by decide +kernel
theorem dX4_isEnough_55 : decode cX4_isEnough 55 = .ok (.iand, 1) := by decide +kernel
theorem dX4_isEnough_56 : decode cX4_isEnough 56 = .ok (.iload_n 3, 1) := by decide +kernel
theorem dX4_isEnough_57 : decode cX4_isEnough 57 = .ok (.iconst (-1), 1) := by decide +kernel
theorem dX4_isEnough_58 : decode cX4_isEnough 58 = .ok (.ixor, 1) := by decide +kernel
theorem dX4_isEnough_59 : decode cX4_isEnough 59 = .ok (.iand, 1) := by decide +kernel
theorem dX4_isEnough_60 : decode cX4_isEnough 60 = .ok (.invokestatic 132, 3) := by decide +kernel
theorem dX4_isEnough_63 : decode cX4_isEnough 63 = .ok (.ifCond .eq 7, 3) := by decide +kernel
theorem dX4_isEnough_66 : decode cX4_isEnough 66 = .ok (.iconst 1, 1) := by decide +kernel
theorem dX4_isEnough_67 : decode cX4_isEnough 67 = .ok (.goto 4, 3) := by decide +kernel
theorem dX4_isEnough_70 : decode cX4_isEnough 70 = .ok (.iconst 0, 1) := by decide +kernel
theorem dX4_isEnough_71 : decode cX4_isEnough 71 = .ok (.istore 4, 2) := by decide +kernel
theorem dX4_isEnough_73 : decode cX4_isEnough 73 = .ok (.iload 4, 2) := by decide +kernel
theorem dX4_isEnough_75 : decode cX4_isEnough 75 = .ok (.ifCond .eq 59, 3) := by decide +kernel
theorem dX4_isEnough_78 : decode cX4_isEnough 78 = .ok (.iload_n 1, 1) := by decide +kernel
theorem dX4_isEnough_79 : decode cX4_isEnough 79 = .ok (.iload_n 2, 1) := by decide +kernel
theorem dX4_isEnough_80 : decode cX4_isEnough 80 = .ok (.iand, 1) := by decide +kernel
theorem dX4_isEnough_81 : decode cX4_isEnough 81 = .ok (.iload_n 3, 1) := by decide +kernel
theorem dX4_isEnough_82 : decode cX4_isEnough 82 = .ok (.iand, 1) := by decide +kernel
theorem dX4_isEnough_83 : decode cX4_isEnough 83 = .ok (.invokestatic 132, 3) := by decide +kernel
theorem dX4_isEnough_86 : decode cX4_isEnough 86 = .ok (.ifCond .eq 48, 3) := by decide +kernel
theorem dX4_isEnough_89 : decode cX4_isEnough 89 = .ok (.iload_n 1, 1) := by decide +kernel
theorem dX4_isEnough_90 : decode cX4_isEnough 90 = .ok (.iload_n 2, 1) := by decide +kernel
theorem dX4_isEnough_91 : decode cX4_isEnough 91 = .ok (.iconst (-1), 1) := by decide +kernel
theorem dX4_isEnough_92 : decode cX4_isEnough 92 = .ok (.ixor, 1) := by decide +kernel
theorem dX4_isEnough_93 : decode cX4_isEnough 93 = .ok (.iand, 1) := by decide +kernel
theorem dX4_isEnough_94 : decode cX4_isEnough 94 = .ok (.iload_n 3, 1) := by decide +kernel
theorem dX4_isEnough_95 : decode cX4_isEnough 95 = .ok (.iand, 1) := by decide +kernel
theorem dX4_isEnough_96 : decode cX4_isEnough 96 = .ok (.invokestatic 132, 3) := by decide +kernel
theorem dX4_isEnough_99 : decode cX4_isEnough 99 = .ok (.ifCond .eq 35, 3) := by decide +kernel
theorem dX4_isEnough_102 : decode cX4_isEnough 102 = .ok (.iload_n 1, 1) := by decide +kernel
theorem dX4_isEnough_103 : decode cX4_isEnough 103 = .ok (.iconst (-1), 1) := by decide +kernel
theorem dX4_isEnough_104 : decode cX4_isEnough 104 = .ok (.ixor, 1) := by decide +kernel
theorem dX4_isEnough_105 : decode cX4_isEnough 105 = .ok (.iload_n 2, 1) := by decide +kernel
theorem dX4_isEnough_106 : decode cX4_isEnough 106 = .ok (.iand, 1) := by decide +kernel
theorem dX4_isEnough_107 : decode cX4_isEnough 107 = .ok (.iload_n 3, 1) := by decide +kernel
theorem dX4_isEnough_108 : decode cX4_isEnough 108 = .ok (.iand, 1) := by decide +kernel
theorem dX4_isEnough_109 : decode cX4_isEnough 109 = .ok (.invokestatic 132, 3) := by decide +kernel
theorem dX4_isEnough_112 : decode cX4_isEnough 112 = .ok (.ifCond .eq 22, 3) := by decide +kernel
theorem dX4_isEnough_115 : decode cX4_isEnough 115 = .ok (.iload_n 1, 1) := by decide +kernel
theorem dX4_isEnough_116 : decode cX4_isEnough 116 = .ok (.iconst (-1), 1) := by decide +kernel
theorem dX4_isEnough_117 : decode cX4_isEnough 117 = .ok (.ixor, 1) := by decide +kernel
theorem dX4_isEnough_118 : decode cX4_isEnough 118 = .ok (.iload_n 2, 1) := by decide +kernel
theorem dX4_isEnough_119 : decode cX4_isEnough 119 = .ok (.iconst (-1), 1) := by decide +kernel
theorem dX4_isEnough_120 : decode cX4_isEnough 120 = .ok (.ixor, 1) := by decide +kernel
theorem dX4_isEnough_121 : decode cX4_isEnough 121 = .ok (.iand, 1) := by decide +kernel
theorem dX4_isEnough_122 : decode cX4_isEnough 122 = .ok (.iload_n 3, 1) := by decide +kernel
theorem dX4_isEnough_123 : decode cX4_isEnough 123 = .ok (.iand, 1) := by decide +kernel
theorem dX4_isEnough_124 : decode cX4_isEnough 124 = .ok (.invokestatic 132, 3) := by decide +kernel
theorem dX4_isEnough_127 : decode cX4_isEnough 127 = .ok (.ifCond .eq 7, 3) := by decide +kernel
theorem dX4_isEnough_130 : decode cX4_isEnough 130 = .ok (.iconst 1, 1) := by decide +kernel
theorem dX4_isEnough_131 : decode cX4_isEnough 131 = .ok (.goto 4, 3) := by decide +kernel
theorem dX4_isEnough_134 : decode cX4_isEnough 134 = .ok (.iconst 0, 1) := by decide +kernel
theorem dX4_isEnough_135 : decode cX4_isEnough 135 = .ok (.ireturn, 1) := by decide +kernel
theorem dX4_isOneAtMost_0 : decode cX4_isOneAtMost 0 = .ok (.iload_n 0, 1) := by decide +kernel
theorem dX4_isOneAtMost_1 : decode cX4_isOneAtMost 1 = .ok (.iload_n 0, 1) := by decide +kernel
theorem dX4_isOneAtMost_2 : decode cX4_isOneAtMost 2 = .ok (.iconst 1, 1) := by decide +kernel
theorem dX4_isOneAtMost_3 : decode cX4_isOneAtMost 3 = .ok (.isub, 1) := by decide +kernel
theorem dX4_isOneAtMost_4 : decode cX4_isOneAtMost 4 = .ok (.iand, 1) := by decide +kernel
theorem dX4_isOneAtMost_5 : decode cX4_isOneAtMost 5 = .ok (.ifCond .ne 7, 3) := by decide +kernel
theorem dX4_isOneAtMost_8 : decode cX4_isOneAtMost 8 = .ok (.iconst 1, 1) := by decide +kernel
theorem dX4_isOneAtMost_9 : decode cX4_isOneAtMost 9 = .ok (.goto 4, 3) := by decide +kernel
theorem dX4_isOneAtMost_12 : decode cX4_isOneAtMost 12 = .ok (.iconst 0, 1) := by decide +kernel
theorem dX4_isOneAtMost_13 : decode cX4_isOneAtMost 13 = .ok (.ireturn, 1) := by decide +kernel
theorem dX4_pick_0 : decode cX4_pick 0 = .ok (.iload_n 1, 1) := by decide +kernel
theorem dX4_pick_1 : decode cX4_pick 1 = .ok (.ifCond .eq 8, 3) := by decide +kernel
theorem dX4_pick_4 : decode cX4_pick 4 = .ok (.iload_n 1, 1) := by decide +kernel
theorem dX4_pick_5 : decode cX4_pick 5 = .ok (.iconst 1, 1) := by decide +kernel
theorem dX4_pick_6 : decode cX4_pick 6 = .ok (.if_icmp .ne 16, 3) := by decide +kernel
theorem dX4_pick_9 : decode cX4_pick 9 = .ok (.iload_n 2, 1) := by decide +kernel
theorem dX4_pick_10 : decode cX4_pick 10 = .ok (.ifCond .lt 12, 3) := by decide +kernel
theorem dX4_pick_13 : decode cX4_pick 13 = .ok (.iload_n 2, 1) := by decide +kernel
theorem dX4_pick_14 : decode cX4_pick 14 = .ok (.iconst 3, 1) := by decide +kernel
theorem dX4_pick_15 : decode cX4_pick 15 = .ok (.if_icmp .ge 7, 3) := by decide +kernel
theorem dX4_pick_18 : decode cX4_pick 18 = .ok (.iconst 1, 1) := by decide +kernel
theorem dX4_pick_19 : decode cX4_pick 19 = .ok (.goto 4, 3) := by decide +kernel
theorem dX4_pick_22 : decode cX4_pick 22 = .ok (.iconst 0, 1) := by decide +kernel
theorem dX4_pick_23 : decode cX4_pick 23 = .ok (.istore 4, 2) := by decide +kernel
theorem dX4_pick_25 : decode cX4_pick 25 = .ok (.iload 4, 2) := by decide +kernel
theorem dX4_pick_27 : decode cX4_pick 27 = .ok (.ifCond .eq 30, 3) := by decide +kernel
theorem dX4_pick_30 : decode cX4_pick 30 = .ok (.iload_n 3, 1) := by decide +kernel
theorem dX4_pick_31 : decode cX4_pick 31 = .ok (.ifCond .lt 26, 3) := by decide +kernel
theorem dX4_pick_34 : decode cX4_pick 34 = .ok (.iload_n 3, 1) := by decide +kernel
theorem dX4_pick_35 : decode cX4_pick 35 = .ok (.sipush 128, 3) := by decide +kernel
theorem dX4_pick_38 : decode cX4_pick 38 = .ok (.if_icmp .ge 19, 3) := by decide +kernel
theorem dX4_pick_41 : decode cX4_pick 41 = .ok (.aload_n 0, 1) := by decide +kernel
theorem dX4_pick_42 : decode cX4_pick 42 = .ok (.getfield 24, 3) := by decide +kernel
theorem dX4_pick_45 : decode cX4_pick 45 = .ok (.iload_n 1, 1) := by decide +kernel
theorem dX4_pick_46 : decode cX4_pick 46 = .ok (.iconst 3, 1) := by decide +kernel
theorem dX4_pick_47 : decode cX4_pick 47 = .ok (.imul, 1) := by decide +kernel
theorem dX4_pick_48 : decode cX4_pick 48 = .ok (.iload_n 2, 1) := by decide +kernel
theorem dX4_pick_49 : decode cX4_pick 49 = .ok (.iadd, 1) := by decide +kernel
theorem dX4_pick_50 : decode cX4_pick 50 = .ok (.aload_n 0, 1) := by decide +kernel
theorem dX4_pick_51 : decode cX4_pick 51 = .ok (.getfield 18, 3) := by decide +kernel
theorem dX4_pick_54 : decode cX4_pick 54 = .ok (.iload_n 3, 1) := by decide +kernel
theorem dX4_pick_55 : decode cX4_pick 55 = .ok (.iaload, 1) := by decide +kernel
theorem dX4_pick_56 : decode cX4_pick 56 = .ok (.iastore, 1) := by decide +kernel
theorem dX4_pick_57 : decode cX4_pick 57 = .ok (.return_, 1) := by decide +kernel
theorem dX5_init_0 : decode cX5_init 0 = .ok (.aload_n 0, 1) := by decide +kernel
theorem dX5_init_1 : decode cX5_init 1 = .ok (.invokespecial 3, 3) := by decide +kernel
theorem dX5_init_4 : decode cX5_init 4 = .ok (.aload_n 0, 1) := by decide +kernel
theorem dX5_init_5 : decode cX5_init 5 = .ok (.sipush 4096, 3) := by decide +kernel
theorem dX5_init_8 : decode cX5_init 8 = .ok (.newarray .int, 2) := by decide +kernel
theorem dX5_init_10 : decode cX5_init 10 = .ok (.putfield 9, 3) := by decide +kernel
theorem dX5_init_13 : decode cX5_init 13 = .ok (.aload_n 0, 1) := by decide +kernel
theorem dX5_init_14 : decode cX5_init 14 = .ok (.sipush 4096, 3) := by decide +kernel
theorem dX5_init_17 : decode cX5_init 17 = .ok (.newarray .long, 2) := by decide +kernel
theorem dX5_init_19 : decode cX5_init 19 = .ok (.putfield 15, 3) := by decide +kernel
theorem dX5_init_22 : decode cX5_init 22 = .ok (.aload_n 0, 1) := by decide +kernel
theorem dX5_init_23 : decode cX5_init 23 = .ok (.sipush 4096, 3) := by decide +kernel
theorem dX5_init_26 : decode cX5_init 26 = .ok (.newarray .int, 2) := by decide +kernel
theorem dX5_init_28 : decode cX5_init 28 = .ok (.putfield 19, 3) := by decide +kernel
theorem dX5_init_31 : decode cX5_init 31 = .ok (.aload_n 0, 1) := by decide +kernel
theorem dX5_init_32 : decode cX5_init 32 = .ok (.sipush 4096, 3) := by decide +kernel
theorem dX5_init_35 : decode cX5_init 35 = .ok (.newarray .int, 2) := by decide +kernel
theorem dX5_init_37 : decode cX5_init 37 = .ok (.putfield 22, 3) := by decide +kernel
theorem dX5_init_40 : decode cX5_init 40 = .ok (.aload_n 0, 1) := by decide +kernel
theorem dX5_init_41 : decode cX5_init 41 = .ok (.sipush 924, 3) := by decide +kernel
theorem dX5_init_44 : decode cX5_init 44 = .ok (.newarray .int, 2) := by decide +kernel
theorem dX5_init_46 : decode cX5_init 46 = .ok (.putfield 25, 3) := by decide +kernel
theorem dX5_init_49 : decode cX5_init 49 = .ok (.aload_n 0, 1) := by decide +kernel
theorem dX5_init_50 : decode cX5_init 50 = .ok (.sipush 924, 3) := by decide +kernel
theorem dX5_init_53 : decode cX5_init 53 = .ok (.newarray .int, 2) := by decide +kernel
theorem dX5_init_55 : decode cX5_init 55 = .ok (.putfield 28, 3) := by decide +kernel
theorem dX5_init_58 : decode cX5_init 58 = .ok (.aload_n 0, 1) := by decide +kernel
theorem dX5_init_59 : decode cX5_init 59 = .ok (.iconst 0, 1) := by decide +kernel
theorem dX5_init_60 : decode cX5_init 60 = .ok (.putfield 31, 3) := by decide +kernel
theorem dX5_init_63 : decode cX5_init 63 = .ok (.aload_n 0, 1) := by decide +kernel
theorem dX5_init_64 : decode cX5_init 64 = .ok (.iconst 0, 1) := by decide +kernel
theorem dX5_init_65 : decode cX5_init 65 = .ok (.putfield 35, 3) := by decide +kernel
theorem dX5_init_68 : decode cX5_init 68 = .ok (.aload_n 0, 1) := by decide +kernel
theorem dX5_init_69 : decode cX5_init 69 = .ok (.iconst 0, 1) := by decide +kernel
theorem dX5_init_70 : decode cX5_init 70 = .ok (.putfield 38, 3) := by decide +kernel
theorem dX5_init_73 : decode cX5_init 73 = .ok (.aload_n 0, 1) := by decide +kernel
theorem dX5_init_74 : decode cX5_init 74 = .ok (.iconst 0, 1) := by decide +kernel
theorem dX5_init_75 : decode cX5_init 75 = .ok (.putfield 42, 3) := by decide +kernel
theorem dX5_init_78 : decode cX5_init 78 = .ok (.aload_n 0, 1) := by decide +kernel
theorem dX5_init_79 : decode cX5_init 79 = .ok (.iconst 0, 1) := by decide +kernel
theorem dX5_init_80 : decode cX5_init 80 = .ok (.putfield 45, 3) := by decide +kernel
theorem dX5_init_83 : decode cX5_init 83 = .ok (.aload_n 0, 1) := by decide +kernel
theorem dX5_init_84 : decode cX5_init 84 = .ok (.aload_n 1, 1) := by decide +kernel
theorem dX5_init_85 : decode cX5_init 85 = .ok (.putfield 48, 3) := by decide +kernel
theorem dX5_init_88 : decode cX5_init 88 = .ok (.aload_n 0, 1) := by decide +kernel
theorem dX5_init_89 : decode cX5_init 89 = .ok (.aload_n 2, 1) := by decide +kernel
theorem dX5_init_90 : decode cX5_init 90 = .ok (.putfield 52, 3) := by decide +kernel
theorem dX5_init_93 : decode cX5_init 93 = .ok (.aload_n 0, 1) := by decide +kernel
theorem dX5_init_94 : decode cX5_init 94 = .ok (.invokevirtual 56, 3) := by decide +kernel
theorem dX5_init_97 : decode cX5_init 97 = .ok (.aload_n 0, 1) := by decide +kernel
theorem dX5_init_98 : decode cX5_init 98 = .ok (.invokevirtual 59, 3) := by decide +kernel
theorem dX5_init_101 : decode cX5_init 101 = .ok (.return_, 1) := by decide +kernel
theorem dX5_learnNet_0 : decode cX5_learnNet 0 = .ok (.aload_n 0, 1) := by decide +kernel
theorem dX5_learnNet_1 : decode cX5_learnNet 1 = .ok (.getfield 15, 3) := by decide +kernel
theorem dX5_learnNet_4 : decode cX5_learnNet 4 = .ok (.iconst 0, 1) := by decide +kernel
theorem dX5_learnNet_5 : decode cX5_learnNet 5 = .ok (.lconst 1, 1) := by decide +kernel
theorem dX5_learnNet_6 : decode cX5_learnNet 6 = .ok (.lastore, 1) := by decide +kernel
theorem dX5_learnNet_7 : decode cX5_learnNet 7 = .ok (.aload_n 0, 1) := by decide +kernel
theorem dX5_learnNet_8 : decode cX5_learnNet 8 = .ok (.getfield 19, 3) := by decide +kernel
theorem dX5_learnNet_11 : decode cX5_learnNet 11 = .ok (.iconst 0, 1) := by decide +kernel
theorem dX5_learnNet_12 : decode cX5_learnNet 12 = .ok (.iconst 0, 1) := by decide +kernel
theorem dX5_learnNet_13 : decode cX5_learnNet 13 = .ok (.iastore, 1) := by decide +kernel
theorem dX5_learnNet_14 : decode cX5_learnNet 14 = .ok (.iconst 0, 1) := by decide +kernel
theorem dX5_learnNet_15 : decode cX5_learnNet 15 = .ok (.istore_n 1, 1) := by decide +kernel
theorem dX5_learnNet_16 : decode cX5_learnNet 16 = .ok (.iload_n 1, 1) := by decide +kernel
theorem dX5_learnNet_17 : decode cX5_learnNet 17 = .ok (.aload_n 0, 1) := by decide +kernel
theorem dX5_learnNet_18 : decode cX5_learnNet 18 = .ok (.getfield 48, 3) := by decide +kernel
theorem dX5_learnNet_21 : decode cX5_learnNet 21 = .ok (.getfield 62, 3) := by decide +kernel
theorem dX5_learnNet_24 : decode cX5_learnNet 24 = .ok (.if_icmp .ge 98, 3) := by decide +kernel
theorem dX5_learnNet_27 : decode cX5_learnNet 27 = .ok (.iload_n 1, 1) := by decide +kernel
theorem dX5_learnNet_28 : decode cX5_learnNet 28 = .ok (.bipush 12, 2) := by decide +kernel
theorem dX5_learnNet_30 : decode cX5_learnNet 30 = .ok (.if_icmp .ge 92, 3) := by decide +kernel
theorem dX5_learnNet_33 : decode cX5_learnNet 33 = .ok (.iconst 1, 1) := by decide +kernel
theorem dX5_learnNet_34 : decode cX5_learnNet 34 = .ok (.iload_n 1, 1) := by decide +kernel
theorem dX5_learnNet_35 : decode cX5_learnNet 35 = .ok (.ishl, 1) := by decide +kernel
theorem dX5_learnNet_36 : decode cX5_learnNet 36 = .ok (.istore_n 2, 1) := by decide +kernel
theorem dX5_learnNet_37 : decode cX5_learnNet 37 = .ok (.aload_n 0, 1) := by decide +kernel
theorem dX5_learnNet_38 : decode cX5_learnNet 38 = .ok (.getfield 48, 3) := by decide +kernel
theorem dX5_learnNet_41 : decode cX5_learnNet 41 = .ok (.iload_n 1, 1) := by decide +kernel
theorem dX5_learnNet_42 : decode cX5_learnNet 42 = .ok (.invokevirtual 67, 3) := by decide +kernel
theorem dX5_learnNet_45 : decode cX5_learnNet 45 = .ok (.istore_n 3, 1) := by decide +kernel
theorem dX5_learnNet_46 : decode cX5_learnNet 46 = .ok (.iconst 0, 1) := by decide +kernel
theorem dX5_learnNet_47 : decode cX5_learnNet 47 = .ok (.istore 4, 2) := by decide +kernel
theorem dX5_learnNet_49 : decode cX5_learnNet 49 = .ok (.iload 4, 2) := by decide +kernel
theorem dX5_learnNet_51 : decode cX5_learnNet 51 = .ok (.iload_n 2, 1) := by decide +kernel
theorem dX5_learnNet_52 : decode cX5_learnNet 52 = .ok (.if_icmp .ge 64, 3) := by decide +kernel
theorem dX5_learnNet_55 : decode cX5_learnNet 55 = .ok (.aload_n 0, 1) := by decide +kernel
theorem dX5_learnNet_56 : decode cX5_learnNet 56 = .ok (.getfield 15, 3) := by decide +kernel
theorem dX5_learnNet_59 : decode cX5_learnNet 59 = .ok (.iload 4, 2) := by decide +kernel
theorem dX5_learnNet_61 : decode cX5_learnNet 61 = .ok (.iload_n 2, 1) := by decide +kernel
theorem dX5_learnNet_62 : decode cX5_learnNet 62 = .ok (.iadd, 1) := by decide +kernel
theorem dX5_learnNet_63 : decode cX5_learnNet 63 = .ok (.aload_n 0, 1) := by decide +kernel
theorem dX5_learnNet_64 : decode cX5_learnNet 64 = .ok (.getfield 15, 3) := by decide +kernel
theorem dX5_learnNet_67 : decode cX5_learnNet 67 = .ok (.iload 4, 2) := by decide +kernel
theorem dX5_learnNet_69 : decode cX5_learnNet 69 = .ok (.laload, 1) := by decide +kernel
theorem dX5_learnNet_70 : decode cX5_learnNet 70 = .ok (.iload_n 3, 1) := by decide +kernel
theorem dX5_learnNet_71 : decode cX5_learnNet 71 = .ok (.i2l, 1) := by decide +kernel
theorem dX5_learnNet_72 : decode cX5_learnNet 72 = .ok (.lmul, 1) := by decide +kernel
theorem dX5_learnNet_73 : decode cX5_learnNet 73 = .ok (.lastore, 1) := by decide +kernel
theorem dX5_learnNet_74 : decode cX5_learnNet 74 = .ok (.aload_n 0, 1) := by decide +kernel
theorem dX5_learnNet_75 : decode cX5_learnNet 75 = .ok (.getfield 15, 3) := by decide +kernel
theorem dX5_learnNet_78 : decode cX5_learnNet 78 = .ok (.iload 4, 2) := by decide +kernel
theorem dX5_learnNet_80 : decode cX5_learnNet 80 = .ok (.dup2, 1) := by decide +kernel
theorem dX5_learnNet_81 : decode cX5_learnNet 81 = .ok (.laload, 1) := by decide +kernel
theorem dX5_learnNet_82 : decode cX5_learnNet 82 = .ok (.bipush 10, 2) := by decide +kernel
theorem dX5_learnNet_84 : decode cX5_learnNet 84 = .ok (.iload_n 3, 1) := by decide +kernel
theorem dX5_learnNet_85 : decode cX5_learnNet 85 = .ok (.isub, 1) := by decide +kernel
theorem dX5_learnNet_86 : decode cX5_learnNet 86 = .ok (.i2l, 1) := by decide +kernel
theorem dX5_learnNet_87 : decode cX5_learnNet 87 = .ok (.lmul, 1) := by decide +kernel
theorem dX5_learnNet_88 : decode cX5_learnNet 88 = .ok (.lastore, 1) := by decide +kernel
theorem dX5_learnNet_89 : decode cX5_learnNet 89 = .ok (.aload_n 0, 1) := by decide +kernel
theorem dX5_learnNet_90 : decode cX5_learnNet 90 = .ok (.getfield 19, 3) := by decide +kernel
theorem dX5_learnNet_93 : decode cX5_learnNet 93 = .ok (.iload 4, 2) := by decide +kernel
theorem dX5_learnNet_95 : decode cX5_learnNet 95 = .ok (.iload_n 2, 1) := by decide +kernel
theorem dX5_learnNet_96 : decode cX5_learnNet 96 = .ok (.iadd, 1) := by decide +kernel
theorem dX5_learnNet_97 : decode cX5_learnNet 97 = .ok (.aload_n 0, 1) := by decide +kernel
theorem dX5_learnNet_98 : decode cX5_learnNet 98 = .ok (.getfield 19, 3) := by decide +kernel
theorem dX5_learnNet_101 : decode cX5_learnNet 101 = .ok (.iload 4, 2) := by decide +kernel
theorem dX5_learnNet_103 : decode cX5_learnNet 103 = .ok (.iaload, 1) := by decide +kernel
theorem dX5_learnNet_104 : decode cX5_learnNet 104 = .ok (.bipush 10, 2) := by decide +kernel
theorem dX5_learnNet_106 : decode cX5_learnNet 106 = .ok (.iadd, 1) := by decide +kernel
theorem dX5_learnNet_107 : decode cX5_learnNet 107 = .ok (.iload_n 3, 1) := by decide +kernel
theorem dX5_learnNet_108 : decode cX5_learnNet 108 = .ok (.isub, 1) := by decide +kernel
theorem dX5_learnNet_109 : decode cX5_learnNet 109 = .ok (.iastore, 1) := by decide +kernel
theorem dX5_learnNet_110 : decode cX5_learnNet 110 = .ok (.iinc 4 1, 3) := by decide +kernel
theorem dX5_learnNet_113 : decode cX5_learnNet 113 = .ok (.goto (-64), 3) := by decide +kernel
theorem dX5_learnNet_116 : decode cX5_learnNet 116 = .ok (.iinc 1 1, 3) := by decide +kernel
theorem dX5_learnNet_119 : decode cX5_learnNet 119 = .ok (.goto (-103), 3) := by decide +kernel
theorem dX5_learnNet_122 : decode cX5_learnNet 122 = .ok (.return_, 1) := by decide +kernel
theorem dX5_learnWays_0 : decode cX5_learnWays 0 = .ok (.aload_n 0, 1) := by decide +kernel
theorem dX5_learnWays_1 : decode cX5_learnWays 1 = .ok (.invokevirtual 71, 3) := by decide +kernel
theorem dX5_learnWays_4 : decode cX5_learnWays 4 = .ok (.aload_n 0, 1) := by decide +kernel
theorem dX5_learnWays_5 : decode cX5_learnWays 5 = .ok (.getfield 9, 3) := by decide +kernel
theorem dX5_learnWays_8 : decode cX5_learnWays 8 = .ok (.iconst 0, 1) := by decide +kernel
theorem dX5_learnWays_9 : decode cX5_learnWays 9 = .ok (.iconst 0, 1) := by decide +kernel
theorem dX5_learnWays_10 : decode cX5_learnWays 10 = .ok (.iastore, 1) := by decide +kernel
theorem dX5_learnWays_11 : decode cX5_learnWays 11 = .ok (.iconst 0, 1) := by decide +kernel
theorem dX5_learnWays_12 : decode cX5_learnWays 12 = .ok (.istore_n 1, 1) := by decide +kernel
theorem dX5_learnWays_13 : decode cX5_learnWays 13 = .ok (.iload_n 1, 1) := by decide +kernel
theorem dX5_learnWays_14 : decode cX5_learnWays 14 = .ok (.aload_n 0, 1) := by decide +kernel
theorem dX5_learnWays_15 : decode cX5_learnWays 15 = .ok (.getfield 48, 3) := by decide +kernel
theorem dX5_learnWays_18 : decode cX5_learnWays 18 = .ok (.getfield 62, 3) := by decide +kernel
theorem dX5_learnWays_21 : decode cX5_learnWays 21 = .ok (.if_icmp .ge 61, 3) := by decide +kernel
theorem dX5_learnWays_24 : decode cX5_learnWays 24 = .ok (.iload_n 1, 1) := by decide +kernel
theorem dX5_learnWays_25 : decode cX5_learnWays 25 = .ok (.bipush 12, 2) := by decide +kernel
theorem dX5_learnWays_27 : decode cX5_learnWays 27 = .ok (.if_icmp .ge 55, 3) := by decide +kernel
theorem dX5_learnWays_30 : decode cX5_learnWays 30 = .ok (.iconst 1, 1) := by decide +kernel
theorem dX5_learnWays_31 : decode cX5_learnWays 31 = .ok (.iload_n 1, 1) := by decide +kernel
theorem dX5_learnWays_32 : decode cX5_learnWays 32 = .ok (.ishl, 1) := by decide +kernel
theorem dX5_learnWays_33 : decode cX5_learnWays 33 = .ok (.istore_n 2, 1) := by decide +kernel
theorem dX5_learnWays_34 : decode cX5_learnWays 34 = .ok (.aload_n 0, 1) := by decide +kernel
theorem dX5_learnWays_35 : decode cX5_learnWays 35 = .ok (.getfield 52, 3) := by decide +kernel
theorem dX5_learnWays_38 : decode cX5_learnWays 38 = .ok (.iload_n 1, 1) := by decide +kernel
theorem dX5_learnWays_39 : decode cX5_learnWays 39 = .ok (.invokevirtual 74, 3) := by decide +kernel
theorem dX5_learnWays_42 : decode cX5_learnWays 42 = .ok (.istore_n 3, 1) := by decide +kernel
theorem dX5_learnWays_43 : decode cX5_learnWays 43 = .ok (.iconst 0, 1) := by decide +kernel
theorem dX5_learnWays_44 : decode cX5_learnWays 44 = .ok (.istore 4, 2) := by decide +kernel
theorem dX5_learnWays_46 : decode cX5_learnWays 46 = .ok (.iload 4, 2) := by decide +kernel
theorem dX5_learnWays_48 : decode cX5_learnWays 48 = .ok (.iload_n 2, 1) := by decide +kernel
theorem dX5_learnWays_49 : decode cX5_learnWays 49 = .ok (.if_icmp .ge 27, 3) := by decide +kernel
theorem dX5_learnWays_52 : decode cX5_learnWays 52 = .ok (.aload_n 0, 1) := by decide +kernel
theorem dX5_learnWays_53 : decode cX5_learnWays 53 = .ok (.getfield 9, 3) := by decide +kernel
theorem dX5_learnWays_56 : decode cX5_learnWays 56 = .ok (.iload 4, 2) := by decide +kernel
theorem dX5_learnWays_58 : decode cX5_learnWays 58 = .ok (.iload_n 2, 1) := by decide +kernel
theorem dX5_learnWays_59 : decode cX5_learnWays 59 = .ok (.iadd, 1) := by decide +kernel
theorem dX5_learnWays_60 : decode cX5_learnWays 60 = .ok (.aload_n 0, 1) := by decide +kernel
theorem dX5_learnWays_61 : decode cX5_learnWays 61 = .ok (.getfield 9, 3) := by decide +kernel
theorem dX5_learnWays_64 : decode cX5_learnWays 64 = .ok (.iload 4, 2) := by decide +kernel
theorem dX5_learnWays_66 : decode cX5_learnWays 66 = .ok (.iaload, 1) := by decide +kernel
theorem dX5_learnWays_67 : decode cX5_learnWays 67 = .ok (.iload_n 3, 1) := by decide +kernel
theorem dX5_learnWays_68 : decode cX5_learnWays 68 = .ok (.ior, 1) := by decide +kernel
theorem dX5_learnWays_69 : decode cX5_learnWays 69 = .ok (.iastore, 1) := by decide +kernel
theorem dX5_learnWays_70 : decode cX5_learnWays 70 = .ok (.iinc 4 1, 3) := by decide +kernel
theorem dX5_learnWays_73 : decode cX5_learnWays 73 = .ok (.goto (-27), 3) := by decide +kernel
theorem dX5_learnWays_76 : decode cX5_learnWays 76 = .ok (.iinc 1 1, 3) := by decide +kernel
theorem dX5_learnWays_79 : decode cX5_learnWays 79 = .ok (.goto (-66), 3) := by decide +kernel
theorem dX5_learnWays_82 : decode cX5_learnWays 82 = .ok (.return_, 1) := by decide +kernel
theorem dX5_forgetFindings_0 : decode cX5_forgetFindings 0 = .ok (.aload_n 0, 1) := by decide +kernel
theorem dX5_forgetFindings_1 : decode cX5_forgetFindings 1 = .ok (.iconst 0, 1) := by decide +kernel
theorem dX5_forgetFindings_2 : decode cX5_forgetFindings 2 = .ok (.putfield 31, 3) := by decide +kernel
theorem dX5_forgetFindings_5 : decode cX5_forgetFindings 5 = .ok (.aload_n 0, 1) := by decide +kernel
theorem dX5_forgetFindings_6 : decode cX5_forgetFindings 6 = .ok (.iconst 0, 1) := by decide +kernel
theorem dX5_forgetFindings_7 : decode cX5_forgetFindings 7 = .ok (.putfield 35, 3) := by decide +kernel
theorem dX5_forgetFindings_10 : decode cX5_forgetFindings 10 = .ok (.return_, 1) := by decide +kernel
theorem dX5_size_0 : decode cX5_size 0 = .ok (.aload_n 0, 1) := by decide +kernel
theorem dX5_size_1 : decode cX5_size 1 = .ok (.getfield 48, 3) := by decide +kernel
theorem dX5_size_4 : decode cX5_size 4 = .ok (.invokevirtual 79, 3) := by decide +kernel
theorem dX5_size_7 : decode cX5_size 7 = .ok (.sipush 4096, 3) := by decide +kernel
theorem dX5_size_10 : decode cX5_size 10 = .ok (.invokestatic 83, 3) := by decide +kernel
theorem dX5_size_13 : decode cX5_size 13 = .ok (.ireturn, 1) := by decide +kernel
theorem dX5_traceOf_0 : decode cX5_traceOf 0 = .ok (.iload_n 1, 1) := by decide +kernel
theorem dX5_traceOf_1 : decode cX5_traceOf 1 = .ok (.ifCond .lt 19, 3) := by decide +kernel
theorem dX5_traceOf_4 : decode cX5_traceOf 4 = .ok (.iload_n 1, 1) := by decide +kernel
theorem dX5_traceOf_5 : decode cX5_traceOf 5 = .ok (.sipush 4096, 3) := by decide +kernel
theorem dX5_traceOf_8 : decode cX5_traceOf 8 = .ok (.if_icmp .ge 12, 3) := by decide +kernel
theorem dX5_traceOf_11 : decode cX5_traceOf 11 = .ok (.aload_n 0, 1) := by decide +kernel
theorem dX5_traceOf_12 : decode cX5_traceOf 12 = .ok (.getfield 9, 3) := by decide +kernel
theorem dX5_traceOf_15 : decode cX5_traceOf 15 = .ok (.iload_n 1, 1) := by decide +kernel
theorem dX5_traceOf_16 : decode cX5_traceOf 16 = .ok (.iaload, 1) := by decide +kernel
theorem dX5_traceOf_17 : decode cX5_traceOf 17 = .ok (.goto 4, 3) := by decide +kernel
theorem dX5_traceOf_20 : decode cX5_traceOf 20 = .ok (.iconst 0, 1) := by decide +kernel
theorem dX5_traceOf_21 : decode cX5_traceOf 21 = .ok (.ireturn, 1) := by decide +kernel
theorem dX5_tollOf_0 : decode cX5_tollOf 0 = .ok (.iload_n 1, 1) := by decide +kernel
theorem dX5_tollOf_1 : decode cX5_tollOf 1 = .ok (.ifCond .lt 19, 3) := by decide +kernel
theorem dX5_tollOf_4 : decode cX5_tollOf 4 = .ok (.iload_n 1, 1) := by decide +kernel
theorem dX5_tollOf_5 : decode cX5_tollOf 5 = .ok (.sipush 4096, 3) := by decide +kernel
theorem dX5_tollOf_8 : decode cX5_tollOf 8 = .ok (.if_icmp .ge 12, 3) := by decide +kernel
theorem dX5_tollOf_11 : decode cX5_tollOf 11 = .ok (.aload_n 0, 1) := by decide +kernel
theorem dX5_tollOf_12 : decode cX5_tollOf 12 = .ok (.getfield 19, 3) := by decide +kernel
theorem dX5_tollOf_15 : decode cX5_tollOf 15 = .ok (.iload_n 1, 1) := by decide +kernel
theorem dX5_tollOf_16 : decode cX5_tollOf 16 = .ok (.iaload, 1) := by decide +kernel
theorem dX5_tollOf_17 : decode cX5_tollOf 17 = .ok (.goto 4, 3) := by decide +kernel
theorem dX5_tollOf_20 : decode cX5_tollOf 20 = .ok (.iconst 0, 1) := by decide +kernel
theorem dX5_tollOf_21 : decode cX5_tollOf 21 = .ok (.ireturn, 1) := by decide +kernel
theorem dX5_fits_0 : decode cX5_fits 0 = .ok (.aload_n 0, 1) := by decide +kernel
theorem dX5_fits_1 : decode cX5_fits 1 = .ok (.iload_n 1, 1) := by decide +kernel
theorem dX5_fits_2 : decode cX5_fits 2 = .ok (.invokevirtual 89, 3) := by decide +kernel
theorem dX5_fits_5 : decode cX5_fits 5 = .ok (.iload_n 2, 1) := by decide +kernel
theorem dX5_fits_6 : decode cX5_fits 6 = .ok (.iand, 1) := by decide +kernel
theorem dX5_fits_7 : decode cX5_fits 7 = .ok (.iload_n 3, 1) := by decide +kernel
theorem dX5_fits_8 : decode cX5_fits 8 = .ok (.if_icmp .ne 7, 3) := by decide +kernel
theorem dX5_fits_11 : decode cX5_fits 11 = .ok (.iconst 1, 1) := by decide +kernel
theorem dX5_fits_12 : decode cX5_fits 12 = .ok (.goto 4, 3) := by decide +kernel
theorem dX5_fits_15 : decode cX5_fits 15 = .ok (.iconst 0, 1) := by decide +kernel
theorem dX5_fits_16 : decode cX5_fits 16 = .ok (.ireturn, 1) := by decide +kernel
theorem dX5_isLean_0 : decode cX5_isLean 0 = .ok (.aload_n 0, 1) := by decide +kernel
theorem dX5_isLean_1 : decode cX5_isLean 1 = .ok (.iload_n 1, 1) := by decide +kernel
theorem dX5_isLean_2 : decode cX5_isLean 2 = .ok (.iload_n 2, 1) := by decide +kernel
theorem dX5_isLean_3 : decode cX5_isLean 3 = .ok (.iload_n 3, 1) := by decide +kernel
theorem dX5_isLean_4 : decode cX5_isLean 4 = .ok (.invokevirtual 92, 3) := by decide +kernel
theorem dX5_isLean_7 : decode cX5_isLean 7 = .ok (.ifCond .ne 5, 3) := by decide +kernel
theorem dX5_isLean_10 : decode cX5_isLean 10 = .ok (.iconst 0, 1) := by decide +kernel
theorem dX5_isLean_11 : decode cX5_isLean 11 = .ok (.ireturn, 1) := by decide +kernel
theorem dX5_isLean_12 : decode cX5_isLean 12 = .ok (.iconst 0, 1) := by decide +kernel
theorem dX5_isLean_13 : decode cX5_isLean 13 = .ok (.istore 4, 2) := by decide +kernel
theorem dX5_isLean_15 : decode cX5_isLean 15 = .ok (.iload 4, 2) := by decide +kernel
theorem dX5_isLean_17 : decode cX5_isLean 17 = .ok (.bipush 12, 2) := by decide +kernel
theorem dX5_isLean_19 : decode cX5_isLean 19 = .ok (.if_icmp .ge 39, 3) := by decide +kernel
theorem dX5_isLean_22 : decode cX5_isLean 22 = .ok (.iconst 1, 1) := by decide +kernel
theorem dX5_isLean_23 : decode cX5_isLean 23 = .ok (.iload 4, 2) := by decide +kernel
theorem dX5_isLean_25 : decode cX5_isLean 25 = .ok (.ishl, 1) := by decide +kernel
theorem dX5_isLean_26 : decode cX5_isLean 26 = .ok (.istore 5, 2) := by decide +kernel
theorem dX5_isLean_28 : decode cX5_isLean 28 = .ok (.iload_n 1, 1) := by decide +kernel
theorem dX5_isLean_29 : decode cX5_isLean 29 = .ok (.iload 5, 2) := by decide +kernel
theorem dX5_isLean_31 : decode cX5_isLean 31 = .ok (.iand, 1) := by decide +kernel
theorem dX5_isLean_32 : decode cX5_isLean 32 = .ok (.ifCond .eq 20, 3) := by decide +kernel
theorem dX5_isLean_35 : decode cX5_isLean 35 = .ok (.aload_n 0, 1) := by decide +kernel
theorem dX5_isLean_36 : decode cX5_isLean 36 = .ok (.iload_n 1, 1) := by decide +kernel
theorem dX5_isLean_37 : decode cX5_isLean 37 = .ok (.iload 5, 2) := by decide +kernel
theorem dX5_isLean_39 : decode cX5_isLean 39 = .ok (.iconst (-1), 1) := by decide +kernel
theorem dX5_isLean_40 : decode cX5_isLean 40 = .ok (.ixor, 1) := by decide +kernel
theorem dX5_isLean_41 : decode cX5_isLean 41 = .ok (.iand, 1) := by decide +kernel
theorem dX5_isLean_42 : decode cX5_isLean 42 = .ok (.iload_n 2, 1) := by decide +kernel
theorem dX5_isLean_43 : decode cX5_isLean 43 = .ok (.iload_n 3, 1) := by decide +kernel
theorem dX5_isLean_44 : decode cX5_isLean 44 = .ok (.invokevirtual 92, 3) := by decide +kernel
theorem dX5_isLean_47 : decode cX5_isLean 47 = .ok (.ifCond .eq 5, 3) := by decide +kernel
theorem dX5_isLean_50 : decode cX5_isLean 50 = .ok (.iconst 0, 1) := by decide +kernel
theorem dX5_isLean_51 : decode cX5_isLean 51 = .ok (.ireturn, 1) := by decide +kernel
theorem dX5_isLean_52 : decode cX5_isLean 52 = .ok (.iinc 4 1, 3) := by decide +kernel
theorem dX5_isLean_55 : decode cX5_isLean 55 = .ok (.goto (-40), 3) := by decide +kernel
theorem dX5_isLean_58 : decode cX5_isLean 58 = .ok (.iconst 1, 1) := by decide +kernel
theorem dX5_isLean_59 : decode cX5_isLean 59 = .ok (.ireturn, 1) := by decide +kernel
theorem dX5_countUpTo_0 : decode cX5_countUpTo 0 = .ok (.iconst 0, 1) := by decide +kernel
theorem dX5_countUpTo_1 : decode cX5_countUpTo 1 = .ok (.istore 4, 2) := by decide +kernel
theorem dX5_countUpTo_3 : decode cX5_countUpTo 3 = .ok (.iconst 0, 1) := by decide +kernel
theorem dX5_countUpTo_4 : decode cX5_countUpTo 4 = .ok (.istore 5, 2) := by decide +kernel
theorem dX5_countUpTo_6 : decode cX5_countUpTo 6 = .ok (.aload_n 0, 1) := by decide +kernel
theorem dX5_countUpTo_7 : decode cX5_countUpTo 7 = .ok (.invokevirtual 96, 3) := by decide +kernel
theorem dX5_countUpTo_10 : decode cX5_countUpTo 10 = .ok (.istore 6, 2) := by decide +kernel
theorem dX5_countUpTo_12 : decode cX5_countUpTo 12 = .ok (.iload 5, 2) := by decide +kernel
theorem dX5_countUpTo_14 : decode cX5_countUpTo 14 = .ok (.iload 6, 2) := by decide +kernel
theorem dX5_countUpTo_16 : decode cX5_countUpTo 16 = .ok (.if_icmp .ge 32, 3) := by decide +kernel
theorem dX5_countUpTo_19 : decode cX5_countUpTo 19 = .ok (.aload_n 0, 1) := by decide +kernel
theorem dX5_countUpTo_20 : decode cX5_countUpTo 20 = .ok (.iload 5, 2) := by decide +kernel
theorem dX5_countUpTo_22 : decode cX5_countUpTo 22 = .ok (.iload_n 2, 1) := by decide +kernel
theorem dX5_countUpTo_23 : decode cX5_countUpTo 23 = .ok (.iload_n 3, 1) := by decide +kernel
theorem dX5_countUpTo_24 : decode cX5_countUpTo 24 = .ok (.invokevirtual 92, 3) := by decide +kernel
theorem dX5_countUpTo_27 : decode cX5_countUpTo 27 = .ok (.ifCond .eq 15, 3) := by decide +kernel
theorem dX5_countUpTo_30 : decode cX5_countUpTo 30 = .ok (.iload 5, 2) := by decide +kernel
theorem dX5_countUpTo_32 : decode cX5_countUpTo 32 = .ok (.invokestatic 99, 3) := by decide +kernel
theorem dX5_countUpTo_35 : decode cX5_countUpTo 35 = .ok (.iload_n 1, 1) := by decide +kernel
theorem dX5_countUpTo_36 : decode cX5_countUpTo 36 = .ok (.if_icmp .gt 6, 3) := by decide +kernel
theorem dX5_countUpTo_39 : decode cX5_countUpTo 39 = .ok (.iinc 4 1, 3) := by decide +kernel
theorem dX5_countUpTo_42 : decode cX5_countUpTo 42 = .ok (.iinc 5 1, 3) := by decide +kernel
theorem dX5_countUpTo_45 : decode cX5_countUpTo 45 = .ok (.goto (-33), 3) := by decide +kernel
theorem dX5_countUpTo_48 : decode cX5_countUpTo 48 = .ok (.iload 4, 2) := by decide +kernel
theorem dX5_countUpTo_50 : decode cX5_countUpTo 50 = .ok (.ireturn, 1) := by decide +kernel
theorem dX5_heaviest_0 : decode cX5_heaviest 0 = .ok (.bipush (-2), 2) := by decide +kernel
theorem dX5_heaviest_2 : decode cX5_heaviest 2 = .ok (.istore_n 3, 1) := by decide +kernel
theorem dX5_heaviest_3 : decode cX5_heaviest 3 = .ok (.lconst 0, 1) := by decide +kernel
theorem dX5_heaviest_4 : decode cX5_heaviest 4 = .ok (.lstore 4, 2) := by decide +kernel
theorem dX5_heaviest_6 : decode cX5_heaviest 6 = .ok (.iconst 0, 1) := by decide +kernel
theorem dX5_heaviest_7 : decode cX5_heaviest 7 = .ok (.istore 6, 2) := by decide +kernel
theorem dX5_heaviest_9 : decode cX5_heaviest 9 = .ok (.aload_n 0, 1) := by decide +kernel
theorem dX5_heaviest_10 : decode cX5_heaviest 10 = .ok (.invokevirtual 96, 3) := by decide +kernel
theorem dX5_heaviest_13 : decode cX5_heaviest 13 = .ok (.istore 7, 2) := by decide +kernel
theorem dX5_heaviest_15 : decode cX5_heaviest 15 = .ok (.iload 6, 2) := by decide +kernel
theorem dX5_heaviest_17 : decode cX5_heaviest 17 = .ok (.iload 7, 2) := by decide +kernel
theorem dX5_heaviest_19 : decode cX5_heaviest 19 = .ok (.if_icmp .ge 45, 3) := by decide +kernel
theorem dX5_heaviest_22 : decode cX5_heaviest 22 = .ok (.aload_n 0, 1) := by decide +kernel
theorem dX5_heaviest_23 : decode cX5_heaviest 23 = .ok (.iload 6, 2) := by decide +kernel
theorem dX5_heaviest_25 : decode cX5_heaviest 25 = .ok (.iload_n 1, 1) := by decide +kernel
theorem dX5_heaviest_26 : decode cX5_heaviest 26 = .ok (.iload_n 2, 1) := by decide +kernel
theorem dX5_heaviest_27 : decode cX5_heaviest 27 = .ok (.invokevirtual 92, 3) := by decide +kernel
theorem dX5_heaviest_30 : decode cX5_heaviest 30 = .ok (.ifCond .eq 28, 3) := by decide +kernel
theorem dX5_heaviest_33 : decode cX5_heaviest 33 = .ok (.aload_n 0, 1) := by decide +kernel
theorem dX5_heaviest_34 : decode cX5_heaviest 34 = .ok (.getfield 15, 3) := by decide +kernel
theorem dX5_heaviest_37 : decode cX5_heaviest 37 = .ok (.iload 6, 2) := by decide +kernel
theorem dX5_heaviest_39 : decode cX5_heaviest 39 = .ok (.laload, 1) := by decide +kernel
theorem dX5_heaviest_40 : decode cX5_heaviest 40 = .ok (.lload 4, 2) := by decide +kernel
theorem dX5_heaviest_42 : decode cX5_heaviest 42 = .ok (.lcmp, 1) := by decide +kernel
theorem dX5_heaviest_43 : decode cX5_heaviest 43 = .ok (.ifCond .le 15, 3) := by decide +kernel
theorem dX5_heaviest_46 : decode cX5_heaviest 46 = .ok (.aload_n 0, 1) := by decide +kernel
theorem dX5_heaviest_47 : decode cX5_heaviest 47 = .ok (.getfield 15, 3) := by decide +kernel
theorem dX5_heaviest_50 : decode cX5_heaviest 50 = .ok (.iload 6, 2) := by decide +kernel
theorem dX5_heaviest_52 : decode cX5_heaviest 52 = .ok (.laload, 1) := by decide +kernel
theorem dX5_heaviest_53 : decode cX5_heaviest 53 = .ok (.lstore 4, 2) := by decide +kernel
theorem dX5_heaviest_55 : decode cX5_heaviest 55 = .ok (.iload 6, 2) := by decide +kernel
theorem dX5_heaviest_57 : decode cX5_heaviest 57 = .ok (.istore_n 3, 1) := by decide +kernel
theorem dX5_heaviest_58 : decode cX5_heaviest 58 = .ok (.iinc 6 1, 3) := by decide +kernel
theorem dX5_heaviest_61 : decode cX5_heaviest 61 = .ok (.goto (-46), 3) := by decide +kernel
theorem dX5_heaviest_64 : decode cX5_heaviest 64 = .ok (.iload_n 3, 1) := by decide +kernel
theorem dX5_heaviest_65 : decode cX5_heaviest 65 = .ok (.ireturn, 1) := by decide +kernel
theorem dX5_smallest_0 : decode cX5_smallest 0 = .ok (.bipush (-2), 2) := by decide +kernel
theorem dX5_smallest_2 : decode cX5_smallest 2 = .ok (.istore_n 3, 1) := by decide +kernel
theorem dX5_smallest_3 : decode cX5_smallest 3 = .ok (.bipush 13, 2) := by decide +kernel
theorem dX5_smallest_5 : decode cX5_smallest 5 = .ok (.istore 4, 2) := by decide +kernel
theorem dX5_smallest_7 : decode cX5_smallest 7 = .ok (.iconst 0, 1) := by decide +kernel
theorem dX5_smallest_8 : decode cX5_smallest 8 = .ok (.istore 5, 2) := by decide +kernel
theorem dX5_smallest_10 : decode cX5_smallest 10 = .ok (.aload_n 0, 1) := by decide +kernel
theorem dX5_smallest_11 : decode cX5_smallest 11 = .ok (.invokevirtual 96, 3) := by decide +kernel
theorem dX5_smallest_14 : decode cX5_smallest 14 = .ok (.istore 6, 2) := by decide +kernel
theorem dX5_smallest_16 : decode cX5_smallest 16 = .ok (.iload 5, 2) := by decide +kernel
theorem dX5_smallest_18 : decode cX5_smallest 18 = .ok (.iload 6, 2) := by decide +kernel
theorem dX5_smallest_20 : decode cX5_smallest 20 = .ok (.if_icmp .ge 40, 3) := by decide +kernel
theorem dX5_smallest_23 : decode cX5_smallest 23 = .ok (.aload_n 0, 1) := by decide +kernel
theorem dX5_smallest_24 : decode cX5_smallest 24 = .ok (.iload 5, 2) := by decide +kernel
theorem dX5_smallest_26 : decode cX5_smallest 26 = .ok (.iload_n 1, 1) := by decide +kernel
theorem dX5_smallest_27 : decode cX5_smallest 27 = .ok (.iload_n 2, 1) := by decide +kernel
theorem dX5_smallest_28 : decode cX5_smallest 28 = .ok (.invokevirtual 92, 3) := by decide +kernel
theorem dX5_smallest_31 : decode cX5_smallest 31 = .ok (.ifCond .eq 23, 3) := by decide +kernel
theorem dX5_smallest_34 : decode cX5_smallest 34 = .ok (.iload 5, 2) := by decide +kernel
theorem dX5_smallest_36 : decode cX5_smallest 36 = .ok (.invokestatic 99, 3) := by decide +kernel
theorem dX5_smallest_39 : decode cX5_smallest 39 = .ok (.iload 4, 2) := by decide +kernel
theorem dX5_smallest_41 : decode cX5_smallest 41 = .ok (.if_icmp .ge 13, 3) := by decide +kernel
theorem dX5_smallest_44 : decode cX5_smallest 44 = .ok (.iload 5, 2) := by decide +kernel
theorem dX5_smallest_46 : decode cX5_smallest 46 = .ok (.invokestatic 99, 3) := by decide +kernel
theorem dX5_smallest_49 : decode cX5_smallest 49 = .ok (.istore 4, 2) := by decide +kernel
theorem dX5_smallest_51 : decode cX5_smallest 51 = .ok (.iload 5, 2) := by decide +kernel
theorem dX5_smallest_53 : decode cX5_smallest 53 = .ok (.istore_n 3, 1) := by decide +kernel
theorem dX5_smallest_54 : decode cX5_smallest 54 = .ok (.iinc 5 1, 3) := by decide +kernel
theorem dX5_smallest_57 : decode cX5_smallest 57 = .ok (.goto (-41), 3) := by decide +kernel
theorem dX5_smallest_60 : decode cX5_smallest 60 = .ok (.iload_n 3, 1) := by decide +kernel
theorem dX5_smallest_61 : decode cX5_smallest 61 = .ok (.ireturn, 1) := by decide +kernel
theorem dX5_weightOf_0 : decode cX5_weightOf 0 = .ok (.lconst 0, 1) := by decide +kernel
theorem dX5_weightOf_1 : decode cX5_weightOf 1 = .ok (.lstore 4, 2) := by decide +kernel
theorem dX5_weightOf_3 : decode cX5_weightOf 3 = .ok (.iconst 0, 1) := by decide +kernel
theorem dX5_weightOf_4 : decode cX5_weightOf 4 = .ok (.istore 6, 2) := by decide +kernel
theorem dX5_weightOf_6 : decode cX5_weightOf 6 = .ok (.aload_n 0, 1) := by decide +kernel
theorem dX5_weightOf_7 : decode cX5_weightOf 7 = .ok (.invokevirtual 96, 3) := by decide +kernel
theorem dX5_weightOf_10 : decode cX5_weightOf 10 = .ok (.istore 7, 2) := by decide +kernel
theorem dX5_weightOf_12 : decode cX5_weightOf 12 = .ok (.iload 6, 2) := by decide +kernel
theorem dX5_weightOf_14 : decode cX5_weightOf 14 = .ok (.iload 7, 2) := by decide +kernel
theorem dX5_weightOf_16 : decode cX5_weightOf 16 = .ok (.if_icmp .ge 40, 3) := by decide +kernel
theorem dX5_weightOf_19 : decode cX5_weightOf 19 = .ok (.iload 6, 2) := by decide +kernel
theorem dX5_weightOf_21 : decode cX5_weightOf 21 = .ok (.iload_n 1, 1) := by decide +kernel
theorem dX5_weightOf_22 : decode cX5_weightOf 22 = .ok (.iand, 1) := by decide +kernel
theorem dX5_weightOf_23 : decode cX5_weightOf 23 = .ok (.iload_n 1, 1) := by decide +kernel
theorem dX5_weightOf_24 : decode cX5_weightOf 24 = .ok (.if_icmp .ne 26, 3) := by decide +kernel
theorem dX5_weightOf_27 : decode cX5_weightOf 27 = .ok (.aload_n 0, 1) := by decide +kernel
theorem dX5_weightOf_28 : decode cX5_weightOf 28 = .ok (.iload 6, 2) := by decide +kernel
theorem dX5_weightOf_30 : decode cX5_weightOf 30 = .ok (.iload_n 2, 1) := by decide +kernel
theorem dX5_weightOf_31 : decode cX5_weightOf 31 = .ok (.iload_n 3, 1) := by decide +kernel
theorem dX5_weightOf_32 : decode cX5_weightOf 32 = .ok (.invokevirtual 92, 3) := by decide +kernel
theorem dX5_weightOf_35 : decode cX5_weightOf 35 = .ok (.ifCond .eq 15, 3) := by decide +kernel
theorem dX5_weightOf_38 : decode cX5_weightOf 38 = .ok (.lload 4, 2) := by decide +kernel
theorem dX5_weightOf_40 : decode cX5_weightOf 40 = .ok (.aload_n 0, 1) := by decide +kernel
theorem dX5_weightOf_41 : decode cX5_weightOf 41 = .ok (.getfield 15, 3) := by decide +kernel
theorem dX5_weightOf_44 : decode cX5_weightOf 44 = .ok (.iload 6, 2) := by decide +kernel
theorem dX5_weightOf_46 : decode cX5_weightOf 46 = .ok (.laload, 1) := by decide +kernel
theorem dX5_weightOf_47 : decode cX5_weightOf 47 = .ok (.ladd, 1) := by decide +kernel
theorem dX5_weightOf_48 : decode cX5_weightOf 48 = .ok (.lstore 4, 2) := by decide +kernel
theorem dX5_weightOf_50 : decode cX5_weightOf 50 = .ok (.iinc 6 1, 3) := by decide +kernel
theorem dX5_weightOf_53 : decode cX5_weightOf 53 = .ok (.goto (-41), 3) := by decide +kernel
theorem dX5_weightOf_56 : decode cX5_weightOf 56 = .ok (.lload 4, 2) := by decide +kernel
theorem dX5_weightOf_58 : decode cX5_weightOf 58 = .ok (.lreturn, 1) := by decide +kernel
theorem dX5_sureLinks_0 : decode cX5_sureLinks 0 = .ok (.iconst 0, 1) := by decide +kernel
theorem dX5_sureLinks_1 : decode cX5_sureLinks 1 = .ok (.istore_n 3, 1) := by decide +kernel
theorem dX5_sureLinks_2 : decode cX5_sureLinks 2 = .ok (.iconst 0, 1) := by decide +kernel
theorem dX5_sureLinks_3 : decode cX5_sureLinks 3 = .ok (.istore 4, 2) := by decide +kernel
theorem dX5_sureLinks_5 : decode cX5_sureLinks 5 = .ok (.iload 4, 2) := by decide +kernel
theorem dX5_sureLinks_7 : decode cX5_sureLinks 7 = .ok (.aload_n 0, 1) := by decide +kernel
theorem dX5_sureLinks_8 : decode cX5_sureLinks 8 = .ok (.getfield 48, 3) := by decide +kernel
theorem dX5_sureLinks_11 : decode cX5_sureLinks 11 = .ok (.getfield 62, 3) := by decide +kernel
theorem dX5_sureLinks_14 : decode cX5_sureLinks 14 = .ok (.if_icmp .ge 33, 3) := by decide +kernel
theorem dX5_sureLinks_17 : decode cX5_sureLinks 17 = .ok (.aload_n 0, 1) := by decide +kernel
theorem dX5_sureLinks_18 : decode cX5_sureLinks 18 = .ok (.iconst 1, 1) := by decide +kernel
theorem dX5_sureLinks_19 : decode cX5_sureLinks 19 = .ok (.iload 4, 2) := by decide +kernel
theorem dX5_sureLinks_21 : decode cX5_sureLinks 21 = .ok (.ishl, 1) := by decide +kernel
theorem dX5_sureLinks_22 : decode cX5_sureLinks 22 = .ok (.invokevirtual 89, 3) := by decide +kernel
theorem dX5_sureLinks_25 : decode cX5_sureLinks 25 = .ok (.iload_n 1, 1) := by decide +kernel
theorem dX5_sureLinks_26 : decode cX5_sureLinks 26 = .ok (.iand, 1) := by decide +kernel
theorem dX5_sureLinks_27 : decode cX5_sureLinks 27 = .ok (.iload_n 2, 1) := by decide +kernel
theorem dX5_sureLinks_28 : decode cX5_sureLinks 28 = .ok (.iconst (-1), 1) := by decide +kernel
theorem dX5_sureLinks_29 : decode cX5_sureLinks 29 = .ok (.ixor, 1) := by decide +kernel
theorem dX5_sureLinks_30 : decode cX5_sureLinks 30 = .ok (.iand, 1) := by decide +kernel
theorem dX5_sureLinks_31 : decode cX5_sureLinks 31 = .ok (.ifCond .ne 10, 3) := by decide +kernel
theorem dX5_sureLinks_34 : decode cX5_sureLinks 34 = .ok (.iload_n 3, 1) := by decide +kernel
theorem dX5_sureLinks_35 : decode cX5_sureLinks 35 = .ok (.iconst 1, 1) := by decide +kernel
theorem dX5_sureLinks_36 : decode cX5_sureLinks 36 = .ok (.iload 4, 2) := by decide +kernel
theorem dX5_sureLinks_38 : decode cX5_sureLinks 38 = .ok (.ishl, 1) := by decide +kernel
theorem dX5_sureLinks_39 : decode cX5_sureLinks 39 = .ok (.ior, 1) := by decide +kernel
theorem dX5_sureLinks_40 : decode cX5_sureLinks 40 = .ok (.istore_n 3, 1) := by decide +kernel
theorem dX5_sureLinks_41 : decode cX5_sureLinks 41 = .ok (.iinc 4 1, 3) := by decide +kernel
theorem dX5_sureLinks_44 : decode cX5_sureLinks 44 = .ok (.goto (-39), 3) := by decide +kernel
theorem dX5_sureLinks_47 : decode cX5_sureLinks 47 = .ok (.iconst 0, 1) := by decide +kernel
theorem dX5_sureLinks_48 : decode cX5_sureLinks 48 = .ok (.istore 4, 2) := by decide +kernel
theorem dX5_sureLinks_50 : decode cX5_sureLinks 50 = .ok (.iconst 0, 1) := by decide +kernel
theorem dX5_sureLinks_51 : decode cX5_sureLinks 51 = .ok (.istore 5, 2) := by decide +kernel
theorem dX5_sureLinks_53 : decode cX5_sureLinks 53 = .ok (.iload 5, 2) := by decide +kernel
theorem dX5_sureLinks_55 : decode cX5_sureLinks 55 = .ok (.aload_n 0, 1) := by decide +kernel
theorem dX5_sureLinks_56 : decode cX5_sureLinks 56 = .ok (.getfield 48, 3) := by decide +kernel
theorem dX5_sureLinks_59 : decode cX5_sureLinks 59 = .ok (.getfield 62, 3) := by decide +kernel
theorem dX5_sureLinks_62 : decode cX5_sureLinks 62 = .ok (.if_icmp .ge 44, 3) := by decide +kernel
theorem dX5_sureLinks_65 : decode cX5_sureLinks 65 = .ok (.iconst 1, 1) := by decide +kernel
theorem dX5_sureLinks_66 : decode cX5_sureLinks 66 = .ok (.iload 5, 2) := by decide +kernel
theorem dX5_sureLinks_68 : decode cX5_sureLinks 68 = .ok (.ishl, 1) := by decide +kernel
theorem dX5_sureLinks_69 : decode cX5_sureLinks 69 = .ok (.istore 6, 2) := by decide +kernel
theorem dX5_sureLinks_71 : decode cX5_sureLinks 71 = .ok (.iload_n 3, 1) := by decide +kernel
theorem dX5_sureLinks_72 : decode cX5_sureLinks 72 = .ok (.iload 6, 2) := by decide +kernel
theorem dX5_sureLinks_74 : decode cX5_sureLinks 74 = .ok (.iand, 1) := by decide +kernel
theorem dX5_sureLinks_75 : decode cX5_sureLinks 75 = .ok (.ifCond .eq 25, 3) := by decide +kernel
theorem dX5_sureLinks_78 : decode cX5_sureLinks 78 = .ok (.aload_n 0, 1) := by decide +kernel
theorem dX5_sureLinks_79 : decode cX5_sureLinks 79 = .ok (.iload_n 3, 1) := by decide +kernel
theorem dX5_sureLinks_80 : decode cX5_sureLinks 80 = .ok (.iload 6, 2) := by decide +kernel
theorem dX5_sureLinks_82 : decode cX5_sureLinks 82 = .ok (.iconst (-1), 1) := by decide +kernel
theorem dX5_sureLinks_83 : decode cX5_sureLinks 83 = .ok (.ixor, 1) := by decide +kernel
theorem dX5_sureLinks_84 : decode cX5_sureLinks 84 = .ok (.iand, 1) := by decide +kernel
theorem dX5_sureLinks_85 : decode cX5_sureLinks 85 = .ok (.iload_n 1, 1) := by decide +kernel
theorem dX5_sureLinks_86 : decode cX5_sureLinks 86 = .ok (.iload_n 2, 1) := by decide +kernel
theorem dX5_sureLinks_87 : decode cX5_sureLinks 87 = .ok (.invokevirtual 92, 3) := by decide +kernel
theorem dX5_sureLinks_90 : decode cX5_sureLinks 90 = .ok (.ifCond .ne 10, 3) := by decide +kernel
theorem dX5_sureLinks_93 : decode cX5_sureLinks 93 = .ok (.iload 4, 2) := by decide +kernel
theorem dX5_sureLinks_95 : decode cX5_sureLinks 95 = .ok (.iload 6, 2) := by decide +kernel
theorem dX5_sureLinks_97 : decode cX5_sureLinks 97 = .ok (.ior, 1) := by decide +kernel
theorem dX5_sureLinks_98 : decode cX5_sureLinks 98 = .ok (.istore 4, 2) := by decide +kernel
theorem dX5_sureLinks_100 : decode cX5_sureLinks 100 = .ok (.iinc 5 1, 3) := by decide +kernel
theorem dX5_sureLinks_103 : decode cX5_sureLinks 103 = .ok (.goto (-50), 3) := by decide +kernel
theorem dX5_sureLinks_106 : decode cX5_sureLinks 106 = .ok (.iload 4, 2) := by decide +kernel
theorem dX5_sureLinks_108 : decode cX5_sureLinks 108 = .ok (.ireturn, 1) := by decide +kernel
theorem dX5_findLean_0 : decode cX5_findLean 0 = .ok (.aload_n 0, 1) := by decide +kernel
theorem dX5_findLean_1 : decode cX5_findLean 1 = .ok (.getfield 31, 3) := by decide +kernel
theorem dX5_findLean_4 : decode cX5_findLean 4 = .ok (.ifCond .eq 4, 3) := by decide +kernel
theorem dX5_findLean_7 : decode cX5_findLean 7 = .ok (.return_, 1) := by decide +kernel
theorem dX5_findLean_8 : decode cX5_findLean 8 = .ok (.aload_n 0, 1) := by decide +kernel
theorem dX5_findLean_9 : decode cX5_findLean 9 = .ok (.iconst 1, 1) := by decide +kernel
theorem dX5_findLean_10 : decode cX5_findLean 10 = .ok (.putfield 31, 3) := by decide +kernel
theorem dX5_findLean_13 : decode cX5_findLean 13 = .ok (.aload_n 0, 1) := by decide +kernel
theorem dX5_findLean_14 : decode cX5_findLean 14 = .ok (.iconst 0, 1) := by decide +kernel
theorem dX5_findLean_15 : decode cX5_findLean 15 = .ok (.putfield 38, 3) := by decide +kernel
theorem dX5_findLean_18 : decode cX5_findLean 18 = .ok (.aload_n 0, 1) := by decide +kernel
theorem dX5_findLean_19 : decode cX5_findLean 19 = .ok (.aload_n 0, 1) := by decide +kernel
theorem dX5_findLean_20 : decode cX5_findLean 20 = .ok (.getfield 48, 3) := by decide +kernel
theorem dX5_findLean_23 : decode cX5_findLean 23 = .ok (.invokevirtual 104, 3) := by decide +kernel
theorem dX5_findLean_26 : decode cX5_findLean 26 = .ok (.putfield 42, 3) := by decide +kernel
theorem dX5_findLean_29 : decode cX5_findLean 29 = .ok (.aload_n 0, 1) := by decide +kernel
theorem dX5_findLean_30 : decode cX5_findLean 30 = .ok (.iconst 0, 1) := by decide +kernel
theorem dX5_findLean_31 : decode cX5_findLean 31 = .ok (.putfield 45, 3) := by decide +kernel
theorem dX5_findLean_34 : decode cX5_findLean 34 = .ok (.aload_n 0, 1) := by decide +kernel
theorem dX5_findLean_35 : decode cX5_findLean 35 = .ok (.invokevirtual 107, 3) := by decide +kernel
theorem dX5_findLean_38 : decode cX5_findLean 38 = .ok (.istore_n 1, 1) := by decide +kernel
theorem dX5_findLean_39 : decode cX5_findLean 39 = .ok (.iconst 0, 1) := by decide +kernel
theorem dX5_findLean_40 : decode cX5_findLean 40 = .ok (.istore_n 2, 1) := by decide +kernel
theorem dX5_findLean_41 : decode cX5_findLean 41 = .ok (.iload_n 2, 1) := by decide +kernel
theorem dX5_findLean_42 : decode cX5_findLean 42 = .ok (.aload_n 0, 1) := by decide +kernel
theorem dX5_findLean_43 : decode cX5_findLean 43 = .ok (.getfield 48, 3) := by decide +kernel
theorem dX5_findLean_46 : decode cX5_findLean 46 = .ok (.getfield 62, 3) := by decide +kernel
theorem dX5_findLean_49 : decode cX5_findLean 49 = .ok (.if_icmp .gt 52, 3) := by decide +kernel
theorem dX5_findLean_52 : decode cX5_findLean 52 = .ok (.iconst 0, 1) := by decide +kernel
theorem dX5_findLean_53 : decode cX5_findLean 53 = .ok (.istore_n 3, 1) := by decide +kernel
theorem dX5_findLean_54 : decode cX5_findLean 54 = .ok (.iload_n 3, 1) := by decide +kernel
theorem dX5_findLean_55 : decode cX5_findLean 55 = .ok (.iload_n 1, 1) := by decide +kernel
theorem dX5_findLean_56 : decode cX5_findLean 56 = .ok (.if_icmp .ge 39, 3) := by decide +kernel
theorem dX5_findLean_59 : decode cX5_findLean 59 = .ok (.iload_n 3, 1) := by decide +kernel
theorem dX5_findLean_60 : decode cX5_findLean 60 = .ok (.sipush 924, 3) := by decide +kernel
theorem dX5_findLean_63 : decode cX5_findLean 63 = .ok (.if_icmp .ge 32, 3) := by decide +kernel
theorem dX5_findLean_66 : decode cX5_findLean 66 = .ok (.aload_n 0, 1) := by decide +kernel
theorem dX5_findLean_67 : decode cX5_findLean 67 = .ok (.getfield 25, 3) := by decide +kernel
theorem dX5_findLean_70 : decode cX5_findLean 70 = .ok (.iload_n 3, 1) := by decide +kernel
theorem dX5_findLean_71 : decode cX5_findLean 71 = .ok (.iaload, 1) := by decide +kernel
theorem dX5_findLean_72 : decode cX5_findLean 72 = .ok (.invokestatic 99, 3) := by decide +kernel
theorem dX5_findLean_75 : decode cX5_findLean 75 = .ok (.iload_n 2, 1) := by decide +kernel
theorem dX5_findLean_76 : decode cX5_findLean 76 = .ok (.if_icmp .ne 13, 3) := by decide +kernel
theorem dX5_findLean_79 : decode cX5_findLean 79 = .ok (.aload_n 0, 1) := by decide +kernel
theorem dX5_findLean_80 : decode cX5_findLean 80 = .ok (.aload_n 0, 1) := by decide +kernel
theorem dX5_findLean_81 : decode cX5_findLean 81 = .ok (.getfield 25, 3) := by decide +kernel
theorem dX5_findLean_84 : decode cX5_findLean 84 = .ok (.iload_n 3, 1) := by decide +kernel
theorem dX5_findLean_85 : decode cX5_findLean 85 = .ok (.iaload, 1) := by decide +kernel
theorem dX5_findLean_86 : decode cX5_findLean 86 = .ok (.invokevirtual 110, 3) := by decide +kernel
theorem dX5_findLean_89 : decode cX5_findLean 89 = .ok (.iinc 3 1, 3) := by decide +kernel
theorem dX5_findLean_92 : decode cX5_findLean 92 = .ok (.goto (-38), 3) := by decide +kernel
theorem dX5_findLean_95 : decode cX5_findLean 95 = .ok (.iinc 2 1, 3) := by decide +kernel
theorem dX5_findLean_98 : decode cX5_findLean 98 = .ok (.goto (-57), 3) := by decide +kernel
theorem dX5_findLean_101 : decode cX5_findLean 101 = .ok (.aload_n 0, 1) := by decide +kernel
theorem dX5_findLean_102 : decode cX5_findLean 102 = .ok (.getfield 38, 3) := by decide +kernel
theorem dX5_findLean_105 : decode cX5_findLean 105 = .ok (.ifCond .ne 8, 3) := by decide +kernel
theorem dX5_findLean_108 : decode cX5_findLean 108 = .ok (.aload_n 0, 1) := by decide +kernel
theorem dX5_findLean_109 : decode cX5_findLean 109 = .ok (.iconst 0, 1) := by decide +kernel
theorem dX5_findLean_110 : decode cX5_findLean 110 = .ok (.putfield 42, 3) := by decide +kernel
theorem dX5_findLean_113 : decode cX5_findLean 113 = .ok (.return_, 1) := by decide +kernel
theorem dX5_gatherLean_0 : decode cX5_gatherLean 0 = .ok (.iconst 0, 1) := by decide +kernel
theorem dX5_gatherLean_1 : decode cX5_gatherLean 1 = .ok (.istore_n 1, 1) := by decide +kernel
theorem dX5_gatherLean_2 : decode cX5_gatherLean 2 = .ok (.aload_n 0, 1) := by decide +kernel
theorem dX5_gatherLean_3 : decode cX5_gatherLean 3 = .ok (.getfield 52, 3) := by decide +kernel
theorem dX5_gatherLean_6 : decode cX5_gatherLean 6 = .ok (.invokevirtual 114, 3) := by decide +kernel
theorem dX5_gatherLean_9 : decode cX5_gatherLean 9 = .ok (.istore_n 2, 1) := by decide +kernel
theorem dX5_gatherLean_10 : decode cX5_gatherLean 10 = .ok (.aload_n 0, 1) := by decide +kernel
theorem dX5_gatherLean_11 : decode cX5_gatherLean 11 = .ok (.getfield 52, 3) := by decide +kernel
theorem dX5_gatherLean_14 : decode cX5_gatherLean 14 = .ok (.invokevirtual 117, 3) := by decide +kernel
theorem dX5_gatherLean_17 : decode cX5_gatherLean 17 = .ok (.istore_n 3, 1) := by decide +kernel
theorem dX5_gatherLean_18 : decode cX5_gatherLean 18 = .ok (.iconst 0, 1) := by decide +kernel
theorem dX5_gatherLean_19 : decode cX5_gatherLean 19 = .ok (.istore 4, 2) := by decide +kernel
theorem dX5_gatherLean_21 : decode cX5_gatherLean 21 = .ok (.aload_n 0, 1) := by decide +kernel
theorem dX5_gatherLean_22 : decode cX5_gatherLean 22 = .ok (.invokevirtual 96, 3) := by decide +kernel
theorem dX5_gatherLean_25 : decode cX5_gatherLean 25 = .ok (.istore 5, 2) := by decide +kernel
theorem dX5_gatherLean_27 : decode cX5_gatherLean 27 = .ok (.iload 4, 2) := by decide +kernel
theorem dX5_gatherLean_29 : decode cX5_gatherLean 29 = .ok (.iload 5, 2) := by decide +kernel
theorem dX5_gatherLean_31 : decode cX5_gatherLean 31 = .ok (.if_icmp .ge 38, 3) := by decide +kernel
theorem dX5_gatherLean_34 : decode cX5_gatherLean 34 = .ok (.aload_n 0, 1) := by decide +kernel
theorem dX5_gatherLean_35 : decode cX5_gatherLean 35 = .ok (.iload 4, 2) := by decide +kernel
theorem dX5_gatherLean_37 : decode cX5_gatherLean 37 = .ok (.iload_n 2, 1) := by decide +kernel
theorem dX5_gatherLean_38 : decode cX5_gatherLean 38 = .ok (.iload_n 3, 1) := by decide +kernel
theorem dX5_gatherLean_39 : decode cX5_gatherLean 39 = .ok (.invokevirtual 120, 3) := by decide +kernel
theorem dX5_gatherLean_42 : decode cX5_gatherLean 42 = .ok (.ifCond .eq 21, 3) := by decide +kernel
theorem dX5_gatherLean_45 : decode cX5_gatherLean 45 = .ok (.iload_n 1, 1) := by decide +kernel
theorem dX5_gatherLean_46 : decode cX5_gatherLean 46 = .ok (.sipush 924, 3) := by decide +kernel
theorem dX5_gatherLean_49 : decode cX5_gatherLean 49 = .ok (.if_icmp .ge 14, 3) := by decide +kernel
theorem dX5_gatherLean_52 : decode cX5_gatherLean 52 = .ok (.aload_n 0, 1) := by decide +kernel
theorem dX5_gatherLean_53 : decode cX5_gatherLean 53 = .ok (.getfield 25, 3) := by decide +kernel
theorem dX5_gatherLean_56 : decode cX5_gatherLean 56 = .ok (.iload_n 1, 1) := by decide +kernel
theorem dX5_gatherLean_57 : decode cX5_gatherLean 57 = .ok (.iload 4, 2) := by decide +kernel
theorem dX5_gatherLean_59 : decode cX5_gatherLean 59 = .ok (.iastore, 1) := by decide +kernel
theorem dX5_gatherLean_60 : decode cX5_gatherLean 60 = .ok (.iinc 1 1, 3) := by decide +kernel
theorem dX5_gatherLean_63 : decode cX5_gatherLean 63 = .ok (.iinc 4 1, 3) := by decide +kernel
theorem dX5_gatherLean_66 : decode cX5_gatherLean 66 = .ok (.goto (-39), 3) := by decide +kernel
theorem dX5_gatherLean_69 : decode cX5_gatherLean 69 = .ok (.iload_n 1, 1) := by decide +kernel
theorem dX5_gatherLean_70 : decode cX5_gatherLean 70 = .ok (.ireturn, 1) := by decide +kernel
theorem dX5_addLean_0 : decode cX5_addLean 0 = .ok (.aload_n 0, 1) := by decide +kernel
theorem dX5_addLean_1 : decode cX5_addLean 1 = .ok (.getfield 38, 3) := by decide +kernel
theorem dX5_addLean_4 : decode cX5_addLean 4 = .ok (.ifCond .lt 53, 3) := by decide +kernel
theorem dX5_addLean_7 : decode cX5_addLean 7 = .ok (.aload_n 0, 1) := by decide +kernel
theorem dX5_addLean_8 : decode cX5_addLean 8 = .ok (.getfield 38, 3) := by decide +kernel
theorem dX5_addLean_11 : decode cX5_addLean 11 = .ok (.sipush 924, 3) := by decide +kernel
theorem dX5_addLean_14 : decode cX5_addLean 14 = .ok (.if_icmp .ge 43, 3) := by decide +kernel
theorem dX5_addLean_17 : decode cX5_addLean 17 = .ok (.aload_n 0, 1) := by decide +kernel
theorem dX5_addLean_18 : decode cX5_addLean 18 = .ok (.getfield 28, 3) := by decide +kernel
theorem dX5_addLean_21 : decode cX5_addLean 21 = .ok (.aload_n 0, 1) := by decide +kernel
theorem dX5_addLean_22 : decode cX5_addLean 22 = .ok (.getfield 38, 3) := by decide +kernel
theorem dX5_addLean_25 : decode cX5_addLean 25 = .ok (.iload_n 1, 1) := by decide +kernel
theorem dX5_addLean_26 : decode cX5_addLean 26 = .ok (.iastore, 1) := by decide +kernel
theorem dX5_addLean_27 : decode cX5_addLean 27 = .ok (.aload_n 0, 1) := by decide +kernel
theorem dX5_addLean_28 : decode cX5_addLean 28 = .ok (.dup, 1) := by decide +kernel
theorem dX5_addLean_29 : decode cX5_addLean 29 = .ok (.getfield 38, 3) := by decide +kernel
theorem dX5_addLean_32 : decode cX5_addLean 32 = .ok (.iconst 1, 1) := by decide +kernel
theorem dX5_addLean_33 : decode cX5_addLean 33 = .ok (.iadd, 1) := by decide +kernel
theorem dX5_addLean_34 : decode cX5_addLean 34 = .ok (.putfield 38, 3) := by decide +kernel
theorem dX5_addLean_37 : decode cX5_addLean 37 = .ok (.aload_n 0, 1) := by decide +kernel
theorem dX5_addLean_38 : decode cX5_addLean 38 = .ok (.dup, 1) := by decide +kernel
theorem dX5_addLean_39 : decode cX5_addLean 39 = .ok (.getfield 42, 3) := by decide +kernel
theorem dX5_addLean_42 : decode cX5_addLean 42 = .ok (.iload_n 1, 1) := by decide +kernel
theorem dX5_addLean_43 : decode cX5_addLean 43 = .ok (.iand, 1) := by decide +kernel
theorem dX5_addLean_44 : decode cX5_addLean 44 = .ok (.putfield 42, 3) := by decide +kernel
theorem dX5_addLean_47 : decode cX5_addLean 47 = .ok (.aload_n 0, 1) := by decide +kernel
theorem dX5_addLean_48 : decode cX5_addLean 48 = .ok (.dup, 1) := by decide +kernel
theorem dX5_addLean_49 : decode cX5_addLean 49 = .ok (.getfield 45, 3) := by decide +kernel
theorem dX5_addLean_52 : decode cX5_addLean 52 = .ok (.iload_n 1, 1) := by decide +kernel
theorem dX5_addLean_53 : decode cX5_addLean 53 = .ok (.ior, 1) := by decide +kernel
theorem dX5_addLean_54 : decode cX5_addLean 54 = .ok (.putfield 45, 3) := by decide +kernel
theorem dX5_addLean_57 : decode cX5_addLean 57 = .ok (.return_, 1) := by decide +kernel
theorem dX5_leanAt_0 : decode cX5_leanAt 0 = .ok (.iload_n 1, 1) := by decide +kernel
theorem dX5_leanAt_1 : decode cX5_leanAt 1 = .ok (.ifCond .lt 27, 3) := by decide +kernel
theorem dX5_leanAt_4 : decode cX5_leanAt 4 = .ok (.iload_n 1, 1) := by decide +kernel
theorem dX5_leanAt_5 : decode cX5_leanAt 5 = .ok (.aload_n 0, 1) := by decide +kernel
theorem dX5_leanAt_6 : decode cX5_leanAt 6 = .ok (.getfield 38, 3) := by decide +kernel
theorem dX5_leanAt_9 : decode cX5_leanAt 9 = .ok (.if_icmp .ge 19, 3) := by decide +kernel
theorem dX5_leanAt_12 : decode cX5_leanAt 12 = .ok (.iload_n 1, 1) := by decide +kernel
theorem dX5_leanAt_13 : decode cX5_leanAt 13 = .ok (.sipush 924, 3) := by decide +kernel
theorem dX5_leanAt_16 : decode cX5_leanAt 16 = .ok (.if_icmp .ge 12, 3) := by decide +kernel
theorem dX5_leanAt_19 : decode cX5_leanAt 19 = .ok (.aload_n 0, 1) := by decide +kernel
theorem dX5_leanAt_20 : decode cX5_leanAt 20 = .ok (.getfield 28, 3) := by decide +kernel
theorem dX5_leanAt_23 : decode cX5_leanAt 23 = .ok (.iload_n 1, 1) := by decide +kernel
theorem dX5_leanAt_24 : decode cX5_leanAt 24 = .ok (.iaload, 1) := by decide +kernel
theorem dX5_leanAt_25 : decode cX5_leanAt 25 = .ok (.goto 4, 3) := by decide +kernel
theorem dX5_leanAt_28 : decode cX5_leanAt 28 = .ok (.iconst (-1), 1) := by decide +kernel
theorem dX5_leanAt_29 : decode cX5_leanAt 29 = .ok (.ireturn, 1) := by decide +kernel
theorem dX5_idleLinks_0 : decode cX5_idleLinks 0 = .ok (.aload_n 0, 1) := by decide +kernel
theorem dX5_idleLinks_1 : decode cX5_idleLinks 1 = .ok (.getfield 38, 3) := by decide +kernel
theorem dX5_idleLinks_4 : decode cX5_idleLinks 4 = .ok (.ifCond .ne 7, 3) := by decide +kernel
theorem dX5_idleLinks_7 : decode cX5_idleLinks 7 = .ok (.iconst 0, 1) := by decide +kernel
theorem dX5_idleLinks_8 : decode cX5_idleLinks 8 = .ok (.goto 27, 3) := by decide +kernel
theorem dX5_idleLinks_11 : decode cX5_idleLinks 11 = .ok (.aload_n 0, 1) := by decide +kernel
theorem dX5_idleLinks_12 : decode cX5_idleLinks 12 = .ok (.getfield 48, 3) := by decide +kernel
theorem dX5_idleLinks_15 : decode cX5_idleLinks 15 = .ok (.invokevirtual 104, 3) := by decide +kernel
theorem dX5_idleLinks_18 : decode cX5_idleLinks 18 = .ok (.aload_n 0, 1) := by decide +kernel
theorem dX5_idleLinks_19 : decode cX5_idleLinks 19 = .ok (.getfield 52, 3) := by decide +kernel
theorem dX5_idleLinks_22 : decode cX5_idleLinks 22 = .ok (.invokevirtual 123, 3) := by decide +kernel
theorem dX5_idleLinks_25 : decode cX5_idleLinks 25 = .ok (.iconst (-1), 1) := by decide +kernel
theorem dX5_idleLinks_26 : decode cX5_idleLinks 26 = .ok (.ixor, 1) := by decide +kernel
theorem dX5_idleLinks_27 : decode cX5_idleLinks 27 = .ok (.iand, 1) := by decide +kernel
theorem dX5_idleLinks_28 : decode cX5_idleLinks 28 = .ok (.aload_n 0, 1) := by decide +kernel
theorem dX5_idleLinks_29 : decode cX5_idleLinks 29 = .ok (.getfield 45, 3) := by decide +kernel
theorem dX5_idleLinks_32 : decode cX5_idleLinks 32 = .ok (.iconst (-1), 1) := by decide +kernel
theorem dX5_idleLinks_33 : decode cX5_idleLinks 33 = .ok (.ixor, 1) := by decide +kernel
theorem dX5_idleLinks_34 : decode cX5_idleLinks 34 = .ok (.iand, 1) := by decide +kernel
theorem dX5_idleLinks_35 : decode cX5_idleLinks 35 = .ok (.ireturn, 1) := by decide +kernel
theorem dX5_stateOf_0 : decode cX5_stateOf 0 = .ok (.aload_n 0, 1) := by decide +kernel
theorem dX5_stateOf_1 : decode cX5_stateOf 1 = .ok (.invokevirtual 126, 3) := by decide +kernel
theorem dX5_stateOf_4 : decode cX5_stateOf 4 = .ok (.aload_n 0, 1) := by decide +kernel
theorem dX5_stateOf_5 : decode cX5_stateOf 5 = .ok (.getfield 38, 3) := by decide +kernel
theorem dX5_stateOf_8 : decode cX5_stateOf 8 = .ok (.ifCond .ne 6, 3) := by decide +kernel
theorem dX5_stateOf_11 : decode cX5_stateOf 11 = .ok (.bipush (-2), 2) := by decide +kernel
theorem dX5_stateOf_13 : decode cX5_stateOf 13 = .ok (.ireturn, 1) := by decide +kernel
theorem dX5_stateOf_14 : decode cX5_stateOf 14 = .ok (.aload_n 0, 1) := by decide +kernel
theorem dX5_stateOf_15 : decode cX5_stateOf 15 = .ok (.getfield 52, 3) := by decide +kernel
theorem dX5_stateOf_18 : decode cX5_stateOf 18 = .ok (.invokevirtual 123, 3) := by decide +kernel
theorem dX5_stateOf_21 : decode cX5_stateOf 21 = .ok (.iload_n 1, 1) := by decide +kernel
theorem dX5_stateOf_22 : decode cX5_stateOf 22 = .ok (.ishr, 1) := by decide +kernel
theorem dX5_stateOf_23 : decode cX5_stateOf 23 = .ok (.iconst 1, 1) := by decide +kernel
theorem dX5_stateOf_24 : decode cX5_stateOf 24 = .ok (.iand, 1) := by decide +kernel
theorem dX5_stateOf_25 : decode cX5_stateOf 25 = .ok (.ifCond .eq 5, 3) := by decide +kernel
theorem dX5_stateOf_28 : decode cX5_stateOf 28 = .ok (.iconst 0, 1) := by decide +kernel
theorem dX5_stateOf_29 : decode cX5_stateOf 29 = .ok (.ireturn, 1) := by decide +kernel
theorem dX5_stateOf_30 : decode cX5_stateOf 30 = .ok (.aload_n 0, 1) := by decide +kernel
theorem dX5_stateOf_31 : decode cX5_stateOf 31 = .ok (.getfield 42, 3) := by decide +kernel
theorem dX5_stateOf_34 : decode cX5_stateOf 34 = .ok (.iload_n 1, 1) := by decide +kernel
theorem dX5_stateOf_35 : decode cX5_stateOf 35 = .ok (.ishr, 1) := by decide +kernel
