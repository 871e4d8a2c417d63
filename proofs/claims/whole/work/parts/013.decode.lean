theorem dX5_stateOf_36 : decode cX5_stateOf 36 = .ok (.iconst 1, 1) := by decide +kernel
theorem dX5_stateOf_37 : decode cX5_stateOf 37 = .ok (.iand, 1) := by decide +kernel
theorem dX5_stateOf_38 : decode cX5_stateOf 38 = .ok (.ifCond .eq 5, 3) := by decide +kernel
theorem dX5_stateOf_41 : decode cX5_stateOf 41 = .ok (.iconst 1, 1) := by decide +kernel
theorem dX5_stateOf_42 : decode cX5_stateOf 42 = .ok (.ireturn, 1) := by decide +kernel
theorem dX5_stateOf_43 : decode cX5_stateOf 43 = .ok (.aload_n 0, 1) := by decide +kernel
theorem dX5_stateOf_44 : decode cX5_stateOf 44 = .ok (.getfield 45, 3) := by decide +kernel
theorem dX5_stateOf_47 : decode cX5_stateOf 47 = .ok (.iload_n 1, 1) := by decide +kernel
theorem dX5_stateOf_48 : decode cX5_stateOf 48 = .ok (.ishr, 1) := by decide +kernel
theorem dX5_stateOf_49 : decode cX5_stateOf 49 = .ok (.iconst 1, 1) := by decide +kernel
theorem dX5_stateOf_50 : decode cX5_stateOf 50 = .ok (.iand, 1) := by decide +kernel
theorem dX5_stateOf_51 : decode cX5_stateOf 51 = .ok (.ifCond .eq 7, 3) := by decide +kernel
theorem dX5_stateOf_54 : decode cX5_stateOf 54 = .ok (.iconst 2, 1) := by decide +kernel
theorem dX5_stateOf_55 : decode cX5_stateOf 55 = .ok (.goto 4, 3) := by decide +kernel
theorem dX5_stateOf_58 : decode cX5_stateOf 58 = .ok (.iconst 3, 1) := by decide +kernel
theorem dX5_stateOf_59 : decode cX5_stateOf 59 = .ok (.ireturn, 1) := by decide +kernel
theorem dX5_mostLeftBy_0 : decode cX5_mostLeftBy 0 = .ok (.aload_n 0, 1) := by decide +kernel
theorem dX5_mostLeftBy_1 : decode cX5_mostLeftBy 1 = .ok (.invokevirtual 129, 3) := by decide +kernel
theorem dX5_mostLeftBy_4 : decode cX5_mostLeftBy 4 = .ok (.aload_n 0, 1) := by decide +kernel
theorem dX5_mostLeftBy_5 : decode cX5_mostLeftBy 5 = .ok (.getfield 48, 3) := by decide +kernel
theorem dX5_mostLeftBy_8 : decode cX5_mostLeftBy 8 = .ok (.invokevirtual 104, 3) := by decide +kernel
theorem dX5_mostLeftBy_11 : decode cX5_mostLeftBy 11 = .ok (.istore_n 2, 1) := by decide +kernel
theorem dX5_mostLeftBy_12 : decode cX5_mostLeftBy 12 = .ok (.iload_n 2, 1) := by decide +kernel
theorem dX5_mostLeftBy_13 : decode cX5_mostLeftBy 13 = .ok (.iload_n 1, 1) := by decide +kernel
theorem dX5_mostLeftBy_14 : decode cX5_mostLeftBy 14 = .ok (.iconst (-1), 1) := by decide +kernel
theorem dX5_mostLeftBy_15 : decode cX5_mostLeftBy 15 = .ok (.ixor, 1) := by decide +kernel
theorem dX5_mostLeftBy_16 : decode cX5_mostLeftBy 16 = .ok (.iand, 1) := by decide +kernel
theorem dX5_mostLeftBy_17 : decode cX5_mostLeftBy 17 = .ok (.istore_n 3, 1) := by decide +kernel
theorem dX5_mostLeftBy_18 : decode cX5_mostLeftBy 18 = .ok (.iload_n 3, 1) := by decide +kernel
theorem dX5_mostLeftBy_19 : decode cX5_mostLeftBy 19 = .ok (.ifCond .lt 21, 3) := by decide +kernel
theorem dX5_mostLeftBy_22 : decode cX5_mostLeftBy 22 = .ok (.iload_n 2, 1) := by decide +kernel
theorem dX5_mostLeftBy_23 : decode cX5_mostLeftBy 23 = .ok (.ifCond .lt 17, 3) := by decide +kernel
theorem dX5_mostLeftBy_26 : decode cX5_mostLeftBy 26 = .ok (.iload_n 3, 1) := by decide +kernel
theorem dX5_mostLeftBy_27 : decode cX5_mostLeftBy 27 = .ok (.sipush 4096, 3) := by decide +kernel
theorem dX5_mostLeftBy_30 : decode cX5_mostLeftBy 30 = .ok (.if_icmp .ge 10, 3) := by decide +kernel
theorem dX5_mostLeftBy_33 : decode cX5_mostLeftBy 33 = .ok (.iload_n 2, 1) := by decide +kernel
theorem dX5_mostLeftBy_34 : decode cX5_mostLeftBy 34 = .ok (.sipush 4096, 3) := by decide +kernel
theorem dX5_mostLeftBy_37 : decode cX5_mostLeftBy 37 = .ok (.if_icmp .lt 5, 3) := by decide +kernel
theorem dX5_mostLeftBy_40 : decode cX5_mostLeftBy 40 = .ok (.iconst 0, 1) := by decide +kernel
theorem dX5_mostLeftBy_41 : decode cX5_mostLeftBy 41 = .ok (.ireturn, 1) := by decide +kernel
theorem dX5_mostLeftBy_42 : decode cX5_mostLeftBy 42 = .ok (.aload_n 0, 1) := by decide +kernel
theorem dX5_mostLeftBy_43 : decode cX5_mostLeftBy 43 = .ok (.getfield 22, 3) := by decide +kernel
theorem dX5_mostLeftBy_46 : decode cX5_mostLeftBy 46 = .ok (.iload_n 3, 1) := by decide +kernel
theorem dX5_mostLeftBy_47 : decode cX5_mostLeftBy 47 = .ok (.iaload, 1) := by decide +kernel
theorem dX5_mostLeftBy_48 : decode cX5_mostLeftBy 48 = .ok (.aload_n 0, 1) := by decide +kernel
theorem dX5_mostLeftBy_49 : decode cX5_mostLeftBy 49 = .ok (.getfield 22, 3) := by decide +kernel
theorem dX5_mostLeftBy_52 : decode cX5_mostLeftBy 52 = .ok (.iload_n 2, 1) := by decide +kernel
theorem dX5_mostLeftBy_53 : decode cX5_mostLeftBy 53 = .ok (.iaload, 1) := by decide +kernel
theorem dX5_mostLeftBy_54 : decode cX5_mostLeftBy 54 = .ok (.aload_n 0, 1) := by decide +kernel
theorem dX5_mostLeftBy_55 : decode cX5_mostLeftBy 55 = .ok (.getfield 22, 3) := by decide +kernel
theorem dX5_mostLeftBy_58 : decode cX5_mostLeftBy 58 = .ok (.iload_n 3, 1) := by decide +kernel
theorem dX5_mostLeftBy_59 : decode cX5_mostLeftBy 59 = .ok (.iaload, 1) := by decide +kernel
theorem dX5_mostLeftBy_60 : decode cX5_mostLeftBy 60 = .ok (.isub, 1) := by decide +kernel
theorem dX5_mostLeftBy_61 : decode cX5_mostLeftBy 61 = .ok (.invokestatic 132, 3) := by decide +kernel
theorem dX5_mostLeftBy_64 : decode cX5_mostLeftBy 64 = .ok (.ireturn, 1) := by decide +kernel
theorem dX5_findWithin_0 : decode cX5_findWithin 0 = .ok (.aload_n 0, 1) := by decide +kernel
theorem dX5_findWithin_1 : decode cX5_findWithin 1 = .ok (.getfield 35, 3) := by decide +kernel
theorem dX5_findWithin_4 : decode cX5_findWithin 4 = .ok (.ifCond .eq 4, 3) := by decide +kernel
theorem dX5_findWithin_7 : decode cX5_findWithin 7 = .ok (.return_, 1) := by decide +kernel
theorem dX5_findWithin_8 : decode cX5_findWithin 8 = .ok (.aload_n 0, 1) := by decide +kernel
theorem dX5_findWithin_9 : decode cX5_findWithin 9 = .ok (.iconst 1, 1) := by decide +kernel
theorem dX5_findWithin_10 : decode cX5_findWithin 10 = .ok (.putfield 35, 3) := by decide +kernel
theorem dX5_findWithin_13 : decode cX5_findWithin 13 = .ok (.aload_n 0, 1) := by decide +kernel
theorem dX5_findWithin_14 : decode cX5_findWithin 14 = .ok (.getfield 52, 3) := by decide +kernel
theorem dX5_findWithin_17 : decode cX5_findWithin 17 = .ok (.invokevirtual 114, 3) := by decide +kernel
theorem dX5_findWithin_20 : decode cX5_findWithin 20 = .ok (.istore_n 1, 1) := by decide +kernel
theorem dX5_findWithin_21 : decode cX5_findWithin 21 = .ok (.aload_n 0, 1) := by decide +kernel
theorem dX5_findWithin_22 : decode cX5_findWithin 22 = .ok (.getfield 52, 3) := by decide +kernel
theorem dX5_findWithin_25 : decode cX5_findWithin 25 = .ok (.invokevirtual 117, 3) := by decide +kernel
theorem dX5_findWithin_28 : decode cX5_findWithin 28 = .ok (.istore_n 2, 1) := by decide +kernel
theorem dX5_findWithin_29 : decode cX5_findWithin 29 = .ok (.iconst 0, 1) := by decide +kernel
theorem dX5_findWithin_30 : decode cX5_findWithin 30 = .ok (.istore_n 3, 1) := by decide +kernel
theorem dX5_findWithin_31 : decode cX5_findWithin 31 = .ok (.aload_n 0, 1) := by decide +kernel
theorem dX5_findWithin_32 : decode cX5_findWithin 32 = .ok (.invokevirtual 96, 3) := by decide +kernel
theorem dX5_findWithin_35 : decode cX5_findWithin 35 = .ok (.istore 4, 2) := by decide +kernel
theorem dX5_findWithin_37 : decode cX5_findWithin 37 = .ok (.iload_n 3, 1) := by decide +kernel
theorem dX5_findWithin_38 : decode cX5_findWithin 38 = .ok (.iload 4, 2) := by decide +kernel
theorem dX5_findWithin_40 : decode cX5_findWithin 40 = .ok (.if_icmp .ge 30, 3) := by decide +kernel
theorem dX5_findWithin_43 : decode cX5_findWithin 43 = .ok (.aload_n 0, 1) := by decide +kernel
theorem dX5_findWithin_44 : decode cX5_findWithin 44 = .ok (.getfield 22, 3) := by decide +kernel
theorem dX5_findWithin_47 : decode cX5_findWithin 47 = .ok (.iload_n 3, 1) := by decide +kernel
theorem dX5_findWithin_48 : decode cX5_findWithin 48 = .ok (.aload_n 0, 1) := by decide +kernel
theorem dX5_findWithin_49 : decode cX5_findWithin 49 = .ok (.iload_n 3, 1) := by decide +kernel
theorem dX5_findWithin_50 : decode cX5_findWithin 50 = .ok (.iload_n 1, 1) := by decide +kernel
theorem dX5_findWithin_51 : decode cX5_findWithin 51 = .ok (.iload_n 2, 1) := by decide +kernel
theorem dX5_findWithin_52 : decode cX5_findWithin 52 = .ok (.invokevirtual 92, 3) := by decide +kernel
theorem dX5_findWithin_55 : decode cX5_findWithin 55 = .ok (.ifCond .eq 7, 3) := by decide +kernel
theorem dX5_findWithin_58 : decode cX5_findWithin 58 = .ok (.iconst 1, 1) := by decide +kernel
theorem dX5_findWithin_59 : decode cX5_findWithin 59 = .ok (.goto 4, 3) := by decide +kernel
theorem dX5_findWithin_62 : decode cX5_findWithin 62 = .ok (.iconst 0, 1) := by decide +kernel
theorem dX5_findWithin_63 : decode cX5_findWithin 63 = .ok (.iastore, 1) := by decide +kernel
theorem dX5_findWithin_64 : decode cX5_findWithin 64 = .ok (.iinc 3 1, 3) := by decide +kernel
theorem dX5_findWithin_67 : decode cX5_findWithin 67 = .ok (.goto (-30), 3) := by decide +kernel
theorem dX5_findWithin_70 : decode cX5_findWithin 70 = .ok (.iconst 0, 1) := by decide +kernel
theorem dX5_findWithin_71 : decode cX5_findWithin 71 = .ok (.istore_n 3, 1) := by decide +kernel
theorem dX5_findWithin_72 : decode cX5_findWithin 72 = .ok (.iload_n 3, 1) := by decide +kernel
theorem dX5_findWithin_73 : decode cX5_findWithin 73 = .ok (.aload_n 0, 1) := by decide +kernel
theorem dX5_findWithin_74 : decode cX5_findWithin 74 = .ok (.getfield 48, 3) := by decide +kernel
theorem dX5_findWithin_77 : decode cX5_findWithin 77 = .ok (.getfield 62, 3) := by decide +kernel
theorem dX5_findWithin_80 : decode cX5_findWithin 80 = .ok (.if_icmp .ge 66, 3) := by decide +kernel
theorem dX5_findWithin_83 : decode cX5_findWithin 83 = .ok (.iconst 1, 1) := by decide +kernel
theorem dX5_findWithin_84 : decode cX5_findWithin 84 = .ok (.iload_n 3, 1) := by decide +kernel
theorem dX5_findWithin_85 : decode cX5_findWithin 85 = .ok (.ishl, 1) := by decide +kernel
theorem dX5_findWithin_86 : decode cX5_findWithin 86 = .ok (.istore 4, 2) := by decide +kernel
theorem dX5_findWithin_88 : decode cX5_findWithin 88 = .ok (.iconst 0, 1) := by decide +kernel
theorem dX5_findWithin_89 : decode cX5_findWithin 89 = .ok (.istore 5, 2) := by decide +kernel
theorem dX5_findWithin_91 : decode cX5_findWithin 91 = .ok (.aload_n 0, 1) := by decide +kernel
theorem dX5_findWithin_92 : decode cX5_findWithin 92 = .ok (.invokevirtual 96, 3) := by decide +kernel
theorem dX5_findWithin_95 : decode cX5_findWithin 95 = .ok (.istore 6, 2) := by decide +kernel
theorem dX5_findWithin_97 : decode cX5_findWithin 97 = .ok (.iload 5, 2) := by decide +kernel
theorem dX5_findWithin_99 : decode cX5_findWithin 99 = .ok (.iload 6, 2) := by decide +kernel
theorem dX5_findWithin_101 : decode cX5_findWithin 101 = .ok (.if_icmp .ge 39, 3) := by decide +kernel
theorem dX5_findWithin_104 : decode cX5_findWithin 104 = .ok (.iload 5, 2) := by decide +kernel
theorem dX5_findWithin_106 : decode cX5_findWithin 106 = .ok (.iload 4, 2) := by decide +kernel
theorem dX5_findWithin_108 : decode cX5_findWithin 108 = .ok (.iand, 1) := by decide +kernel
theorem dX5_findWithin_109 : decode cX5_findWithin 109 = .ok (.ifCond .eq 25, 3) := by decide +kernel
theorem dX5_findWithin_112 : decode cX5_findWithin 112 = .ok (.aload_n 0, 1) := by decide +kernel
theorem dX5_findWithin_113 : decode cX5_findWithin 113 = .ok (.getfield 22, 3) := by decide +kernel
theorem dX5_findWithin_116 : decode cX5_findWithin 116 = .ok (.iload 5, 2) := by decide +kernel
theorem dX5_findWithin_118 : decode cX5_findWithin 118 = .ok (.dup2, 1) := by decide +kernel
theorem dX5_findWithin_119 : decode cX5_findWithin 119 = .ok (.iaload, 1) := by decide +kernel
theorem dX5_findWithin_120 : decode cX5_findWithin 120 = .ok (.aload_n 0, 1) := by decide +kernel
theorem dX5_findWithin_121 : decode cX5_findWithin 121 = .ok (.getfield 22, 3) := by decide +kernel
theorem dX5_findWithin_124 : decode cX5_findWithin 124 = .ok (.iload 5, 2) := by decide +kernel
theorem dX5_findWithin_126 : decode cX5_findWithin 126 = .ok (.iload 4, 2) := by decide +kernel
theorem dX5_findWithin_128 : decode cX5_findWithin 128 = .ok (.iconst (-1), 1) := by decide +kernel
theorem dX5_findWithin_129 : decode cX5_findWithin 129 = .ok (.ixor, 1) := by decide +kernel
theorem dX5_findWithin_130 : decode cX5_findWithin 130 = .ok (.iand, 1) := by decide +kernel
theorem dX5_findWithin_131 : decode cX5_findWithin 131 = .ok (.iaload, 1) := by decide +kernel
theorem dX5_findWithin_132 : decode cX5_findWithin 132 = .ok (.iadd, 1) := by decide +kernel
theorem dX5_findWithin_133 : decode cX5_findWithin 133 = .ok (.iastore, 1) := by decide +kernel
theorem dX5_findWithin_134 : decode cX5_findWithin 134 = .ok (.iinc 5 1, 3) := by decide +kernel
theorem dX5_findWithin_137 : decode cX5_findWithin 137 = .ok (.goto (-40), 3) := by decide +kernel
theorem dX5_findWithin_140 : decode cX5_findWithin 140 = .ok (.iinc 3 1, 3) := by decide +kernel
theorem dX5_findWithin_143 : decode cX5_findWithin 143 = .ok (.goto (-71), 3) := by decide +kernel
theorem dX5_findWithin_146 : decode cX5_findWithin 146 = .ok (.return_, 1) := by decide +kernel
theorem dX6_init_0 : decode cX6_init 0 = .ok (.aload_n 0, 1) := by decide +kernel
theorem dX6_init_1 : decode cX6_init 1 = .ok (.invokespecial 3, 3) := by decide +kernel
theorem dX6_init_4 : decode cX6_init 4 = .ok (.aload_n 0, 1) := by decide +kernel
theorem dX6_init_5 : decode cX6_init 5 = .ok (.sipush 4096, 3) := by decide +kernel
theorem dX6_init_8 : decode cX6_init 8 = .ok (.newarray .byte, 2) := by decide +kernel
theorem dX6_init_10 : decode cX6_init 10 = .ok (.putfield 9, 3) := by decide +kernel
theorem dX6_init_13 : decode cX6_init 13 = .ok (.aload_n 0, 1) := by decide +kernel
theorem dX6_init_14 : decode cX6_init 14 = .ok (.bipush 78, 2) := by decide +kernel
theorem dX6_init_16 : decode cX6_init 16 = .ok (.newarray .int, 2) := by decide +kernel
theorem dX6_init_18 : decode cX6_init 18 = .ok (.putfield 15, 3) := by decide +kernel
theorem dX6_init_21 : decode cX6_init 21 = .ok (.aload_n 0, 1) := by decide +kernel
theorem dX6_init_22 : decode cX6_init 22 = .ok (.iconst 0, 1) := by decide +kernel
theorem dX6_init_23 : decode cX6_init 23 = .ok (.putfield 19, 3) := by decide +kernel
theorem dX6_init_26 : decode cX6_init 26 = .ok (.aload_n 0, 1) := by decide +kernel
theorem dX6_init_27 : decode cX6_init 27 = .ok (.aload_n 1, 1) := by decide +kernel
theorem dX6_init_28 : decode cX6_init 28 = .ok (.putfield 23, 3) := by decide +kernel
theorem dX6_init_31 : decode cX6_init 31 = .ok (.aload_n 0, 1) := by decide +kernel
theorem dX6_init_32 : decode cX6_init 32 = .ok (.aload_n 2, 1) := by decide +kernel
theorem dX6_init_33 : decode cX6_init 33 = .ok (.putfield 27, 3) := by decide +kernel
theorem dX6_init_36 : decode cX6_init 36 = .ok (.aload_n 0, 1) := by decide +kernel
theorem dX6_init_37 : decode cX6_init 37 = .ok (.aload_n 3, 1) := by decide +kernel
theorem dX6_init_38 : decode cX6_init 38 = .ok (.putfield 31, 3) := by decide +kernel
theorem dX6_init_41 : decode cX6_init 41 = .ok (.return_, 1) := by decide +kernel
theorem dX6_highestLevel_0 : decode cX6_highestLevel 0 = .ok (.aload_n 0, 1) := by decide +kernel
theorem dX6_highestLevel_1 : decode cX6_highestLevel 1 = .ok (.getfield 27, 3) := by decide +kernel
theorem dX6_highestLevel_4 : decode cX6_highestLevel 4 = .ok (.invokevirtual 35, 3) := by decide +kernel
theorem dX6_highestLevel_7 : decode cX6_highestLevel 7 = .ok (.istore_n 1, 1) := by decide +kernel
theorem dX6_highestLevel_8 : decode cX6_highestLevel 8 = .ok (.iload_n 1, 1) := by decide +kernel
theorem dX6_highestLevel_9 : decode cX6_highestLevel 9 = .ok (.invokestatic 41, 3) := by decide +kernel
theorem dX6_highestLevel_12 : decode cX6_highestLevel 12 = .ok (.istore_n 2, 1) := by decide +kernel
theorem dX6_highestLevel_13 : decode cX6_highestLevel 13 = .ok (.aload_n 0, 1) := by decide +kernel
theorem dX6_highestLevel_14 : decode cX6_highestLevel 14 = .ok (.getfield 9, 3) := by decide +kernel
theorem dX6_highestLevel_17 : decode cX6_highestLevel 17 = .ok (.bipush 99, 2) := by decide +kernel
theorem dX6_highestLevel_19 : decode cX6_highestLevel 19 = .ok (.invokestatic 47, 3) := by decide +kernel
theorem dX6_highestLevel_22 : decode cX6_highestLevel 22 = .ok (.iconst 0, 1) := by decide +kernel
theorem dX6_highestLevel_23 : decode cX6_highestLevel 23 = .ok (.istore_n 3, 1) := by decide +kernel
theorem dX6_highestLevel_24 : decode cX6_highestLevel 24 = .ok (.aload_n 0, 1) := by decide +kernel
theorem dX6_highestLevel_25 : decode cX6_highestLevel 25 = .ok (.getfield 31, 3) := by decide +kernel
theorem dX6_highestLevel_28 : decode cX6_highestLevel 28 = .ok (.invokevirtual 53, 3) := by decide +kernel
theorem dX6_highestLevel_31 : decode cX6_highestLevel 31 = .ok (.istore 4, 2) := by decide +kernel
theorem dX6_highestLevel_33 : decode cX6_highestLevel 33 = .ok (.iload_n 3, 1) := by decide +kernel
theorem dX6_highestLevel_34 : decode cX6_highestLevel 34 = .ok (.iload 4, 2) := by decide +kernel
theorem dX6_highestLevel_36 : decode cX6_highestLevel 36 = .ok (.if_icmp .ge 94, 3) := by decide +kernel
theorem dX6_highestLevel_39 : decode cX6_highestLevel 39 = .ok (.aload_n 0, 1) := by decide +kernel
theorem dX6_highestLevel_40 : decode cX6_highestLevel 40 = .ok (.getfield 31, 3) := by decide +kernel
theorem dX6_highestLevel_43 : decode cX6_highestLevel 43 = .ok (.iload_n 3, 1) := by decide +kernel
theorem dX6_highestLevel_44 : decode cX6_highestLevel 44 = .ok (.invokevirtual 58, 3) := by decide +kernel
theorem dX6_highestLevel_47 : decode cX6_highestLevel 47 = .ok (.istore 5, 2) := by decide +kernel
theorem dX6_highestLevel_49 : decode cX6_highestLevel 49 = .ok (.iload_n 3, 1) := by decide +kernel
theorem dX6_highestLevel_50 : decode cX6_highestLevel 50 = .ok (.iload_n 1, 1) := by decide +kernel
theorem dX6_highestLevel_51 : decode cX6_highestLevel 51 = .ok (.iconst (-1), 1) := by decide +kernel
theorem dX6_highestLevel_52 : decode cX6_highestLevel 52 = .ok (.ixor, 1) := by decide +kernel
theorem dX6_highestLevel_53 : decode cX6_highestLevel 53 = .ok (.iand, 1) := by decide +kernel
theorem dX6_highestLevel_54 : decode cX6_highestLevel 54 = .ok (.ifCond .ne 70, 3) := by decide +kernel
theorem dX6_highestLevel_57 : decode cX6_highestLevel 57 = .ok (.iload 5, 2) := by decide +kernel
theorem dX6_highestLevel_59 : decode cX6_highestLevel 59 = .ok (.ifCond .lt 65, 3) := by decide +kernel
theorem dX6_highestLevel_62 : decode cX6_highestLevel 62 = .ok (.iload 5, 2) := by decide +kernel
theorem dX6_highestLevel_64 : decode cX6_highestLevel 64 = .ok (.sipush 4096, 3) := by decide +kernel
theorem dX6_highestLevel_67 : decode cX6_highestLevel 67 = .ok (.if_icmp .lt 6, 3) := by decide +kernel
theorem dX6_highestLevel_70 : decode cX6_highestLevel 70 = .ok (.goto 54, 3) := by decide +kernel
theorem dX6_highestLevel_73 : decode cX6_highestLevel 73 = .ok (.iload_n 3, 1) := by decide +kernel
theorem dX6_highestLevel_74 : decode cX6_highestLevel 74 = .ok (.invokestatic 41, 3) := by decide +kernel
theorem dX6_highestLevel_77 : decode cX6_highestLevel 77 = .ok (.istore 6, 2) := by decide +kernel
theorem dX6_highestLevel_79 : decode cX6_highestLevel 79 = .ok (.aload_n 0, 1) := by decide +kernel
theorem dX6_highestLevel_80 : decode cX6_highestLevel 80 = .ok (.getfield 9, 3) := by decide +kernel
theorem dX6_highestLevel_83 : decode cX6_highestLevel 83 = .ok (.iload 5, 2) := by decide +kernel
theorem dX6_highestLevel_85 : decode cX6_highestLevel 85 = .ok (.baload, 1) := by decide +kernel
theorem dX6_highestLevel_86 : decode cX6_highestLevel 86 = .ok (.istore 7, 2) := by decide +kernel
theorem dX6_highestLevel_88 : decode cX6_highestLevel 88 = .ok (.iload 7, 2) := by decide +kernel
theorem dX6_highestLevel_90 : decode cX6_highestLevel 90 = .ok (.bipush 99, 2) := by decide +kernel
theorem dX6_highestLevel_92 : decode cX6_highestLevel 92 = .ok (.if_icmp .eq 17, 3) := by decide +kernel
theorem dX6_highestLevel_95 : decode cX6_highestLevel 95 = .ok (.iload_n 2, 1) := by decide +kernel
theorem dX6_highestLevel_96 : decode cX6_highestLevel 96 = .ok (.iload 6, 2) := by decide +kernel
theorem dX6_highestLevel_98 : decode cX6_highestLevel 98 = .ok (.iload 7, 2) := by decide +kernel
theorem dX6_highestLevel_100 : decode cX6_highestLevel 100 = .ok (.invokestatic 61, 3) := by decide +kernel
theorem dX6_highestLevel_103 : decode cX6_highestLevel 103 = .ok (.iconst 1, 1) := by decide +kernel
theorem dX6_highestLevel_104 : decode cX6_highestLevel 104 = .ok (.isub, 1) := by decide +kernel
theorem dX6_highestLevel_105 : decode cX6_highestLevel 105 = .ok (.invokestatic 67, 3) := by decide +kernel
theorem dX6_highestLevel_108 : decode cX6_highestLevel 108 = .ok (.istore_n 2, 1) := by decide +kernel
theorem dX6_highestLevel_109 : decode cX6_highestLevel 109 = .ok (.aload_n 0, 1) := by decide +kernel
theorem dX6_highestLevel_110 : decode cX6_highestLevel 110 = .ok (.getfield 9, 3) := by decide +kernel
theorem dX6_highestLevel_113 : decode cX6_highestLevel 113 = .ok (.iload 5, 2) := by decide +kernel
theorem dX6_highestLevel_115 : decode cX6_highestLevel 115 = .ok (.iload 6, 2) := by decide +kernel
theorem dX6_highestLevel_117 : decode cX6_highestLevel 117 = .ok (.iload 7, 2) := by decide +kernel
theorem dX6_highestLevel_119 : decode cX6_highestLevel 119 = .ok (.invokestatic 67, 3) := by decide +kernel
theorem dX6_highestLevel_122 : decode cX6_highestLevel 122 = .ok (.i2b, 1) := by decide +kernel
theorem dX6_highestLevel_123 : decode cX6_highestLevel 123 = .ok (.bastore, 1) := by decide +kernel
theorem dX6_highestLevel_124 : decode cX6_highestLevel 124 = .ok (.iinc 3 1, 3) := by decide +kernel
theorem dX6_highestLevel_127 : decode cX6_highestLevel 127 = .ok (.goto (-94), 3) := by decide +kernel
theorem dX6_highestLevel_130 : decode cX6_highestLevel 130 = .ok (.iload_n 2, 1) := by decide +kernel
theorem dX6_highestLevel_131 : decode cX6_highestLevel 131 = .ok (.ireturn, 1) := by decide +kernel
theorem dX6_twinOf_0 : decode cX6_twinOf 0 = .ok (.aload_n 0, 1) := by decide +kernel
theorem dX6_twinOf_1 : decode cX6_twinOf 1 = .ok (.getfield 31, 3) := by decide +kernel
theorem dX6_twinOf_4 : decode cX6_twinOf 4 = .ok (.iconst 1, 1) := by decide +kernel
theorem dX6_twinOf_5 : decode cX6_twinOf 5 = .ok (.iload_n 1, 1) := by decide +kernel
theorem dX6_twinOf_6 : decode cX6_twinOf 6 = .ok (.ishl, 1) := by decide +kernel
theorem dX6_twinOf_7 : decode cX6_twinOf 7 = .ok (.invokevirtual 58, 3) := by decide +kernel
theorem dX6_twinOf_10 : decode cX6_twinOf 10 = .ok (.istore_n 2, 1) := by decide +kernel
theorem dX6_twinOf_11 : decode cX6_twinOf 11 = .ok (.iconst 0, 1) := by decide +kernel
theorem dX6_twinOf_12 : decode cX6_twinOf 12 = .ok (.istore_n 3, 1) := by decide +kernel
theorem dX6_twinOf_13 : decode cX6_twinOf 13 = .ok (.iload_n 3, 1) := by decide +kernel
theorem dX6_twinOf_14 : decode cX6_twinOf 14 = .ok (.aload_n 0, 1) := by decide +kernel
theorem dX6_twinOf_15 : decode cX6_twinOf 15 = .ok (.getfield 23, 3) := by decide +kernel
theorem dX6_twinOf_18 : decode cX6_twinOf 18 = .ok (.getfield 70, 3) := by decide +kernel
theorem dX6_twinOf_21 : decode cX6_twinOf 21 = .ok (.if_icmp .ge 30, 3) := by decide +kernel
theorem dX6_twinOf_24 : decode cX6_twinOf 24 = .ok (.iload_n 3, 1) := by decide +kernel
theorem dX6_twinOf_25 : decode cX6_twinOf 25 = .ok (.iload_n 1, 1) := by decide +kernel
theorem dX6_twinOf_26 : decode cX6_twinOf 26 = .ok (.if_icmp .eq 19, 3) := by decide +kernel
theorem dX6_twinOf_29 : decode cX6_twinOf 29 = .ok (.aload_n 0, 1) := by decide +kernel
theorem dX6_twinOf_30 : decode cX6_twinOf 30 = .ok (.getfield 31, 3) := by decide +kernel
theorem dX6_twinOf_33 : decode cX6_twinOf 33 = .ok (.iconst 1, 1) := by decide +kernel
theorem dX6_twinOf_34 : decode cX6_twinOf 34 = .ok (.iload_n 3, 1) := by decide +kernel
theorem dX6_twinOf_35 : decode cX6_twinOf 35 = .ok (.ishl, 1) := by decide +kernel
theorem dX6_twinOf_36 : decode cX6_twinOf 36 = .ok (.invokevirtual 58, 3) := by decide +kernel
theorem dX6_twinOf_39 : decode cX6_twinOf 39 = .ok (.iload_n 2, 1) := by decide +kernel
theorem dX6_twinOf_40 : decode cX6_twinOf 40 = .ok (.if_icmp .ne 5, 3) := by decide +kernel
theorem dX6_twinOf_43 : decode cX6_twinOf 43 = .ok (.iload_n 3, 1) := by decide +kernel
theorem dX6_twinOf_44 : decode cX6_twinOf 44 = .ok (.ireturn, 1) := by decide +kernel
theorem dX6_twinOf_45 : decode cX6_twinOf 45 = .ok (.iinc 3 1, 3) := by decide +kernel
theorem dX6_twinOf_48 : decode cX6_twinOf 48 = .ok (.goto (-35), 3) := by decide +kernel
theorem dX6_twinOf_51 : decode cX6_twinOf 51 = .ok (.bipush (-2), 2) := by decide +kernel
theorem dX6_twinOf_53 : decode cX6_twinOf 53 = .ok (.ireturn, 1) := by decide +kernel
theorem dX6_fewestWays_0 : decode cX6_fewestWays 0 = .ok (.aload_n 0, 1) := by decide +kernel
theorem dX6_fewestWays_1 : decode cX6_fewestWays 1 = .ok (.iload_n 1, 1) := by decide +kernel
theorem dX6_fewestWays_2 : decode cX6_fewestWays 2 = .ok (.invokevirtual 75, 3) := by decide +kernel
theorem dX6_fewestWays_5 : decode cX6_fewestWays 5 = .ok (.aload_n 0, 1) := by decide +kernel
theorem dX6_fewestWays_6 : decode cX6_fewestWays 6 = .ok (.getfield 27, 3) := by decide +kernel
theorem dX6_fewestWays_9 : decode cX6_fewestWays 9 = .ok (.invokevirtual 79, 3) := by decide +kernel
theorem dX6_fewestWays_12 : decode cX6_fewestWays 12 = .ok (.istore_n 2, 1) := by decide +kernel
theorem dX6_fewestWays_13 : decode cX6_fewestWays 13 = .ok (.iconst 0, 1) := by decide +kernel
theorem dX6_fewestWays_14 : decode cX6_fewestWays 14 = .ok (.istore_n 3, 1) := by decide +kernel
theorem dX6_fewestWays_15 : decode cX6_fewestWays 15 = .ok (.aload_n 0, 1) := by decide +kernel
theorem dX6_fewestWays_16 : decode cX6_fewestWays 16 = .ok (.getfield 27, 3) := by decide +kernel
theorem dX6_fewestWays_19 : decode cX6_fewestWays 19 = .ok (.invokevirtual 79, 3) := by decide +kernel
theorem dX6_fewestWays_22 : decode cX6_fewestWays 22 = .ok (.istore 4, 2) := by decide +kernel
theorem dX6_fewestWays_24 : decode cX6_fewestWays 24 = .ok (.iload_n 3, 1) := by decide +kernel
theorem dX6_fewestWays_25 : decode cX6_fewestWays 25 = .ok (.iload 4, 2) := by decide +kernel
theorem dX6_fewestWays_27 : decode cX6_fewestWays 27 = .ok (.if_icmp .ge 27, 3) := by decide +kernel
theorem dX6_fewestWays_30 : decode cX6_fewestWays 30 = .ok (.iload_n 3, 1) := by decide +kernel
theorem dX6_fewestWays_31 : decode cX6_fewestWays 31 = .ok (.iload_n 2, 1) := by decide +kernel
theorem dX6_fewestWays_32 : decode cX6_fewestWays 32 = .ok (.invokestatic 82, 3) := by decide +kernel
theorem dX6_fewestWays_35 : decode cX6_fewestWays 35 = .ok (.ifCond .eq 13, 3) := by decide +kernel
theorem dX6_fewestWays_38 : decode cX6_fewestWays 38 = .ok (.aload_n 0, 1) := by decide +kernel
theorem dX6_fewestWays_39 : decode cX6_fewestWays 39 = .ok (.iload_n 3, 1) := by decide +kernel
theorem dX6_fewestWays_40 : decode cX6_fewestWays 40 = .ok (.invokevirtual 86, 3) := by decide +kernel
theorem dX6_fewestWays_43 : decode cX6_fewestWays 43 = .ok (.ifCond .eq 5, 3) := by decide +kernel
theorem dX6_fewestWays_46 : decode cX6_fewestWays 46 = .ok (.iload_n 3, 1) := by decide +kernel
theorem dX6_fewestWays_47 : decode cX6_fewestWays 47 = .ok (.istore_n 2, 1) := by decide +kernel
theorem dX6_fewestWays_48 : decode cX6_fewestWays 48 = .ok (.iinc 3 1, 3) := by decide +kernel
theorem dX6_fewestWays_51 : decode cX6_fewestWays 51 = .ok (.goto (-27), 3) := by decide +kernel
theorem dX6_fewestWays_54 : decode cX6_fewestWays 54 = .ok (.iload_n 2, 1) := by decide +kernel
theorem dX6_fewestWays_55 : decode cX6_fewestWays 55 = .ok (.ireturn, 1) := by decide +kernel
theorem dX6_gatherDemands_0 : decode cX6_gatherDemands 0 = .ok (.aload_n 0, 1) := by decide +kernel
theorem dX6_gatherDemands_1 : decode cX6_gatherDemands 1 = .ok (.iconst 0, 1) := by decide +kernel
theorem dX6_gatherDemands_2 : decode cX6_gatherDemands 2 = .ok (.putfield 19, 3) := by decide +kernel
theorem dX6_gatherDemands_5 : decode cX6_gatherDemands 5 = .ok (.iconst 0, 1) := by decide +kernel
theorem dX6_gatherDemands_6 : decode cX6_gatherDemands 6 = .ok (.istore_n 2, 1) := by decide +kernel
theorem dX6_gatherDemands_7 : decode cX6_gatherDemands 7 = .ok (.iload_n 2, 1) := by decide +kernel
theorem dX6_gatherDemands_8 : decode cX6_gatherDemands 8 = .ok (.aload_n 0, 1) := by decide +kernel
theorem dX6_gatherDemands_9 : decode cX6_gatherDemands 9 = .ok (.getfield 23, 3) := by decide +kernel
theorem dX6_gatherDemands_12 : decode cX6_gatherDemands 12 = .ok (.getfield 70, 3) := by decide +kernel
theorem dX6_gatherDemands_15 : decode cX6_gatherDemands 15 = .ok (.if_icmp .ge 74, 3) := by decide +kernel
theorem dX6_gatherDemands_18 : decode cX6_gatherDemands 18 = .ok (.aload_n 0, 1) := by decide +kernel
theorem dX6_gatherDemands_19 : decode cX6_gatherDemands 19 = .ok (.getfield 31, 3) := by decide +kernel
theorem dX6_gatherDemands_22 : decode cX6_gatherDemands 22 = .ok (.iconst 1, 1) := by decide +kernel
theorem dX6_gatherDemands_23 : decode cX6_gatherDemands 23 = .ok (.iload_n 2, 1) := by decide +kernel
theorem dX6_gatherDemands_24 : decode cX6_gatherDemands 24 = .ok (.ishl, 1) := by decide +kernel
theorem dX6_gatherDemands_25 : decode cX6_gatherDemands 25 = .ok (.invokevirtual 58, 3) := by decide +kernel
theorem dX6_gatherDemands_28 : decode cX6_gatherDemands 28 = .ok (.istore_n 3, 1) := by decide +kernel
theorem dX6_gatherDemands_29 : decode cX6_gatherDemands 29 = .ok (.aload_n 0, 1) := by decide +kernel
theorem dX6_gatherDemands_30 : decode cX6_gatherDemands 30 = .ok (.iload_n 3, 1) := by decide +kernel
theorem dX6_gatherDemands_31 : decode cX6_gatherDemands 31 = .ok (.invokevirtual 90, 3) := by decide +kernel
theorem dX6_gatherDemands_34 : decode cX6_gatherDemands 34 = .ok (.iconst 0, 1) := by decide +kernel
theorem dX6_gatherDemands_35 : decode cX6_gatherDemands 35 = .ok (.istore 4, 2) := by decide +kernel
theorem dX6_gatherDemands_37 : decode cX6_gatherDemands 37 = .ok (.iload 4, 2) := by decide +kernel
theorem dX6_gatherDemands_39 : decode cX6_gatherDemands 39 = .ok (.iload_n 2, 1) := by decide +kernel
theorem dX6_gatherDemands_40 : decode cX6_gatherDemands 40 = .ok (.if_icmp .ge 43, 3) := by decide +kernel
theorem dX6_gatherDemands_43 : decode cX6_gatherDemands 43 = .ok (.iload_n 1, 1) := by decide +kernel
theorem dX6_gatherDemands_44 : decode cX6_gatherDemands 44 = .ok (.ifCond .eq 39, 3) := by decide +kernel
theorem dX6_gatherDemands_47 : decode cX6_gatherDemands 47 = .ok (.iload_n 3, 1) := by decide +kernel
theorem dX6_gatherDemands_48 : decode cX6_gatherDemands 48 = .ok (.ifCond .eq 35, 3) := by decide +kernel
theorem dX6_gatherDemands_51 : decode cX6_gatherDemands 51 = .ok (.aload_n 0, 1) := by decide +kernel
theorem dX6_gatherDemands_52 : decode cX6_gatherDemands 52 = .ok (.getfield 31, 3) := by decide +kernel
theorem dX6_gatherDemands_55 : decode cX6_gatherDemands 55 = .ok (.iconst 1, 1) := by decide +kernel
theorem dX6_gatherDemands_56 : decode cX6_gatherDemands 56 = .ok (.iload 4, 2) := by decide +kernel
theorem dX6_gatherDemands_58 : decode cX6_gatherDemands 58 = .ok (.ishl, 1) := by decide +kernel
theorem dX6_gatherDemands_59 : decode cX6_gatherDemands 59 = .ok (.invokevirtual 58, 3) := by decide +kernel
theorem dX6_gatherDemands_62 : decode cX6_gatherDemands 62 = .ok (.istore 5, 2) := by decide +kernel
theorem dX6_gatherDemands_64 : decode cX6_gatherDemands 64 = .ok (.iload 5, 2) := by decide +kernel
theorem dX6_gatherDemands_66 : decode cX6_gatherDemands 66 = .ok (.ifCond .eq 11, 3) := by decide +kernel
theorem dX6_gatherDemands_69 : decode cX6_gatherDemands 69 = .ok (.aload_n 0, 1) := by decide +kernel
theorem dX6_gatherDemands_70 : decode cX6_gatherDemands 70 = .ok (.iload_n 3, 1) := by decide +kernel
theorem dX6_gatherDemands_71 : decode cX6_gatherDemands 71 = .ok (.iload 5, 2) := by decide +kernel
theorem dX6_gatherDemands_73 : decode cX6_gatherDemands 73 = .ok (.ixor, 1) := by decide +kernel
theorem dX6_gatherDemands_74 : decode cX6_gatherDemands 74 = .ok (.invokevirtual 90, 3) := by decide +kernel
theorem dX6_gatherDemands_77 : decode cX6_gatherDemands 77 = .ok (.iinc 4 1, 3) := by decide +kernel
theorem dX6_gatherDemands_80 : decode cX6_gatherDemands 80 = .ok (.goto (-43), 3) := by decide +kernel
theorem dX6_gatherDemands_83 : decode cX6_gatherDemands 83 = .ok (.iinc 2 1, 3) := by decide +kernel
theorem dX6_gatherDemands_86 : decode cX6_gatherDemands 86 = .ok (.goto (-79), 3) := by decide +kernel
theorem dX6_gatherDemands_89 : decode cX6_gatherDemands 89 = .ok (.return_, 1) := by decide +kernel
theorem dX6_addDemand_0 : decode cX6_addDemand 0 = .ok (.iload_n 1, 1) := by decide +kernel
theorem dX6_addDemand_1 : decode cX6_addDemand 1 = .ok (.ifCond .eq 39, 3) := by decide +kernel
theorem dX6_addDemand_4 : decode cX6_addDemand 4 = .ok (.aload_n 0, 1) := by decide +kernel
theorem dX6_addDemand_5 : decode cX6_addDemand 5 = .ok (.getfield 19, 3) := by decide +kernel
theorem dX6_addDemand_8 : decode cX6_addDemand 8 = .ok (.ifCond .lt 32, 3) := by decide +kernel
theorem dX6_addDemand_11 : decode cX6_addDemand 11 = .ok (.aload_n 0, 1) := by decide +kernel
theorem dX6_addDemand_12 : decode cX6_addDemand 12 = .ok (.getfield 19, 3) := by decide +kernel
theorem dX6_addDemand_15 : decode cX6_addDemand 15 = .ok (.bipush 78, 2) := by decide +kernel
theorem dX6_addDemand_17 : decode cX6_addDemand 17 = .ok (.if_icmp .ge 23, 3) := by decide +kernel
theorem dX6_addDemand_20 : decode cX6_addDemand 20 = .ok (.aload_n 0, 1) := by decide +kernel
theorem dX6_addDemand_21 : decode cX6_addDemand 21 = .ok (.getfield 15, 3) := by decide +kernel
theorem dX6_addDemand_24 : decode cX6_addDemand 24 = .ok (.aload_n 0, 1) := by decide +kernel
theorem dX6_addDemand_25 : decode cX6_addDemand 25 = .ok (.getfield 19, 3) := by decide +kernel
theorem dX6_addDemand_28 : decode cX6_addDemand 28 = .ok (.iload_n 1, 1) := by decide +kernel
theorem dX6_addDemand_29 : decode cX6_addDemand 29 = .ok (.iastore, 1) := by decide +kernel
theorem dX6_addDemand_30 : decode cX6_addDemand 30 = .ok (.aload_n 0, 1) := by decide +kernel
theorem dX6_addDemand_31 : decode cX6_addDemand 31 = .ok (.dup, 1) := by decide +kernel
theorem dX6_addDemand_32 : decode cX6_addDemand 32 = .ok (.getfield 19, 3) := by decide +kernel
theorem dX6_addDemand_35 : decode cX6_addDemand 35 = .ok (.iconst 1, 1) := by decide +kernel
theorem dX6_addDemand_36 : decode cX6_addDemand 36 = .ok (.iadd, 1) := by decide +kernel
theorem dX6_addDemand_37 : decode cX6_addDemand 37 = .ok (.putfield 19, 3) := by decide +kernel
theorem dX6_addDemand_40 : decode cX6_addDemand 40 = .ok (.return_, 1) := by decide +kernel
theorem dX6_meetsDemands_0 : decode cX6_meetsDemands 0 = .ok (.iconst 0, 1) := by decide +kernel
theorem dX6_meetsDemands_1 : decode cX6_meetsDemands 1 = .ok (.istore_n 2, 1) := by decide +kernel
theorem dX6_meetsDemands_2 : decode cX6_meetsDemands 2 = .ok (.iload_n 2, 1) := by decide +kernel
theorem dX6_meetsDemands_3 : decode cX6_meetsDemands 3 = .ok (.aload_n 0, 1) := by decide +kernel
theorem dX6_meetsDemands_4 : decode cX6_meetsDemands 4 = .ok (.getfield 19, 3) := by decide +kernel
theorem dX6_meetsDemands_7 : decode cX6_meetsDemands 7 = .ok (.if_icmp .ge 28, 3) := by decide +kernel
theorem dX6_meetsDemands_10 : decode cX6_meetsDemands 10 = .ok (.iload_n 2, 1) := by decide +kernel
theorem dX6_meetsDemands_11 : decode cX6_meetsDemands 11 = .ok (.bipush 78, 2) := by decide +kernel
theorem dX6_meetsDemands_13 : decode cX6_meetsDemands 13 = .ok (.if_icmp .ge 22, 3) := by decide +kernel
theorem dX6_meetsDemands_16 : decode cX6_meetsDemands 16 = .ok (.aload_n 0, 1) := by decide +kernel
theorem dX6_meetsDemands_17 : decode cX6_meetsDemands 17 = .ok (.getfield 15, 3) := by decide +kernel
theorem dX6_meetsDemands_20 : decode cX6_meetsDemands 20 = .ok (.iload_n 2, 1) := by decide +kernel
theorem dX6_meetsDemands_21 : decode cX6_meetsDemands 21 = .ok (.iaload, 1) := by decide +kernel
theorem dX6_meetsDemands_22 : decode cX6_meetsDemands 22 = .ok (.iload_n 1, 1) := by decide +kernel
theorem dX6_meetsDemands_23 : decode cX6_meetsDemands 23 = .ok (.iand, 1) := by decide +kernel
theorem dX6_meetsDemands_24 : decode cX6_meetsDemands 24 = .ok (.ifCond .ne 5, 3) := by decide +kernel
theorem dX6_meetsDemands_27 : decode cX6_meetsDemands 27 = .ok (.iconst 0, 1) := by decide +kernel
theorem dX6_meetsDemands_28 : decode cX6_meetsDemands 28 = .ok (.ireturn, 1) := by decide +kernel
theorem dX6_meetsDemands_29 : decode cX6_meetsDemands 29 = .ok (.iinc 2 1, 3) := by decide +kernel
theorem dX6_meetsDemands_32 : decode cX6_meetsDemands 32 = .ok (.goto (-30), 3) := by decide +kernel
theorem dX6_meetsDemands_35 : decode cX6_meetsDemands 35 = .ok (.iconst 1, 1) := by decide +kernel
theorem dX6_meetsDemands_36 : decode cX6_meetsDemands 36 = .ok (.ireturn, 1) := by decide +kernel
theorem dX7_init_0 : decode cX7_init 0 = .ok (.aload_n 0, 1) := by decide +kernel
theorem dX7_init_1 : decode cX7_init 1 = .ok (.invokespecial 3, 3) := by decide +kernel
theorem dX7_init_4 : decode cX7_init 4 = .ok (.aload_n 0, 1) := by decide +kernel
theorem dX7_init_5 : decode cX7_init 5 = .ok (.sipush 2000, 3) := by decide +kernel
theorem dX7_init_8 : decode cX7_init 8 = .ok (.newarray .byte, 2) := by decide +kernel
theorem dX7_init_10 : decode cX7_init 10 = .ok (.putfield 11, 3) := by decide +kernel
theorem dX7_init_13 : decode cX7_init 13 = .ok (.aload_n 0, 1) := by decide +kernel
theorem dX7_init_14 : decode cX7_init 14 = .ok (.sipush 400, 3) := by decide +kernel
theorem dX7_init_17 : decode cX7_init 17 = .ok (.newarray .int, 2) := by decide +kernel
theorem dX7_init_19 : decode cX7_init 19 = .ok (.putfield 15, 3) := by decide +kernel
theorem dX7_init_22 : decode cX7_init 22 = .ok (.aload_n 0, 1) := by decide +kernel
theorem dX7_init_23 : decode cX7_init 23 = .ok (.sipush 400, 3) := by decide +kernel
theorem dX7_init_26 : decode cX7_init 26 = .ok (.newarray .int, 2) := by decide +kernel
theorem dX7_init_28 : decode cX7_init 28 = .ok (.putfield 19, 3) := by decide +kernel
theorem dX7_init_31 : decode cX7_init 31 = .ok (.aload_n 0, 1) := by decide +kernel
theorem dX7_init_32 : decode cX7_init 32 = .ok (.sipush 400, 3) := by decide +kernel
theorem dX7_init_35 : decode cX7_init 35 = .ok (.newarray .long, 2) := by decide +kernel
theorem dX7_init_37 : decode cX7_init 37 = .ok (.putfield 22, 3) := by decide +kernel
theorem dX7_init_40 : decode cX7_init 40 = .ok (.aload_n 0, 1) := by decide +kernel
theorem dX7_init_41 : decode cX7_init 41 = .ok (.bipush 13, 2) := by decide +kernel
theorem dX7_init_43 : decode cX7_init 43 = .ok (.newarray .int, 2) := by decide +kernel
theorem dX7_init_45 : decode cX7_init 45 = .ok (.putfield 26, 3) := by decide +kernel
theorem dX7_init_48 : decode cX7_init 48 = .ok (.aload_n 0, 1) := by decide +kernel
theorem dX7_init_49 : decode cX7_init 49 = .ok (.iconst 0, 1) := by decide +kernel
theorem dX7_init_50 : decode cX7_init 50 = .ok (.putfield 29, 3) := by decide +kernel
theorem dX7_init_53 : decode cX7_init 53 = .ok (.aload_n 0, 1) := by decide +kernel
theorem dX7_init_54 : decode cX7_init 54 = .ok (.iconst 0, 1) := by decide +kernel
theorem dX7_init_55 : decode cX7_init 55 = .ok (.putfield 33, 3) := by decide +kernel
theorem dX7_init_58 : decode cX7_init 58 = .ok (.aload_n 0, 1) := by decide +kernel
theorem dX7_init_59 : decode cX7_init 59 = .ok (.lconst 0, 1) := by decide +kernel
theorem dX7_init_60 : decode cX7_init 60 = .ok (.putfield 36, 3) := by decide +kernel
theorem dX7_init_63 : decode cX7_init 63 = .ok (.aload_n 0, 1) := by decide +kernel
theorem dX7_init_64 : decode cX7_init 64 = .ok (.iconst 0, 1) := by decide +kernel
theorem dX7_init_65 : decode cX7_init 65 = .ok (.putfield 40, 3) := by decide +kernel
theorem dX7_init_68 : decode cX7_init 68 = .ok (.aload_n 0, 1) := by decide +kernel
theorem dX7_init_69 : decode cX7_init 69 = .ok (.iconst 0, 1) := by decide +kernel
theorem dX7_init_70 : decode cX7_init 70 = .ok (.putfield 43, 3) := by decide +kernel
theorem dX7_init_73 : decode cX7_init 73 = .ok (.aload_n 0, 1) := by decide +kernel
theorem dX7_init_74 : decode cX7_init 74 = .ok (.iconst 0, 1) := by decide +kernel
theorem dX7_init_75 : decode cX7_init 75 = .ok (.putfield 46, 3) := by decide +kernel
theorem dX7_init_78 : decode cX7_init 78 = .ok (.aload_n 0, 1) := by decide +kernel
theorem dX7_init_79 : decode cX7_init 79 = .ok (.iconst 0, 1) := by decide +kernel
theorem dX7_init_80 : decode cX7_init 80 = .ok (.putfield 49, 3) := by decide +kernel
theorem dX7_init_83 : decode cX7_init 83 = .ok (.aload_n 0, 1) := by decide +kernel
theorem dX7_init_84 : decode cX7_init 84 = .ok (.iconst 0, 1) := by decide +kernel
theorem dX7_init_85 : decode cX7_init 85 = .ok (.putfield 52, 3) := by decide +kernel
theorem dX7_init_88 : decode cX7_init 88 = .ok (.aload_n 0, 1) := by decide +kernel
theorem dX7_init_89 : decode cX7_init 89 = .ok (.iconst (-1), 1) := by decide +kernel
theorem dX7_init_90 : decode cX7_init 90 = .ok (.putfield 55, 3) := by decide +kernel
theorem dX7_init_93 : decode cX7_init 93 = .ok (.return_, 1) := by decide +kernel
theorem dX7_hasRoom_0 : decode cX7_hasRoom 0 = .ok (.aload_n 0, 1) := by decide +kernel
theorem dX7_hasRoom_1 : decode cX7_hasRoom 1 = .ok (.getfield 46, 3) := by decide +kernel
theorem dX7_hasRoom_4 : decode cX7_hasRoom 4 = .ok (.iload_n 1, 1) := by decide +kernel
theorem dX7_hasRoom_5 : decode cX7_hasRoom 5 = .ok (.iadd, 1) := by decide +kernel
theorem dX7_hasRoom_6 : decode cX7_hasRoom 6 = .ok (.sipush 2000, 3) := by decide +kernel
theorem dX7_hasRoom_9 : decode cX7_hasRoom 9 = .ok (.if_icmp .gt 7, 3) := by decide +kernel
theorem dX7_hasRoom_12 : decode cX7_hasRoom 12 = .ok (.iconst 1, 1) := by decide +kernel
theorem dX7_hasRoom_13 : decode cX7_hasRoom 13 = .ok (.goto 4, 3) := by decide +kernel
theorem dX7_hasRoom_16 : decode cX7_hasRoom 16 = .ok (.iconst 0, 1) := by decide +kernel
theorem dX7_hasRoom_17 : decode cX7_hasRoom 17 = .ok (.ireturn, 1) := by decide +kernel
theorem dX7_addWord_0 : decode cX7_addWord 0 = .ok (.bipush 24, 2) := by decide +kernel
theorem dX7_addWord_2 : decode cX7_addWord 2 = .ok (.istore_n 2, 1) := by decide +kernel
theorem dX7_addWord_3 : decode cX7_addWord 3 = .ok (.iload_n 2, 1) := by decide +kernel
theorem dX7_addWord_4 : decode cX7_addWord 4 = .ok (.ifCond .lt 49, 3) := by decide +kernel
theorem dX7_addWord_7 : decode cX7_addWord 7 = .ok (.aload_n 0, 1) := by decide +kernel
theorem dX7_addWord_8 : decode cX7_addWord 8 = .ok (.getfield 46, 3) := by decide +kernel
theorem dX7_addWord_11 : decode cX7_addWord 11 = .ok (.ifCond .lt 36, 3) := by decide +kernel
theorem dX7_addWord_14 : decode cX7_addWord 14 = .ok (.aload_n 0, 1) := by decide +kernel
theorem dX7_addWord_15 : decode cX7_addWord 15 = .ok (.getfield 46, 3) := by decide +kernel
theorem dX7_addWord_18 : decode cX7_addWord 18 = .ok (.sipush 2000, 3) := by decide +kernel
theorem dX7_addWord_21 : decode cX7_addWord 21 = .ok (.if_icmp .ge 26, 3) := by decide +kernel
theorem dX7_addWord_24 : decode cX7_addWord 24 = .ok (.aload_n 0, 1) := by decide +kernel
theorem dX7_addWord_25 : decode cX7_addWord 25 = .ok (.getfield 11, 3) := by decide +kernel
theorem dX7_addWord_28 : decode cX7_addWord 28 = .ok (.aload_n 0, 1) := by decide +kernel
theorem dX7_addWord_29 : decode cX7_addWord 29 = .ok (.getfield 46, 3) := by decide +kernel
theorem dX7_addWord_32 : decode cX7_addWord 32 = .ok (.iload_n 1, 1) := by decide +kernel
theorem dX7_addWord_33 : decode cX7_addWord 33 = .ok (.iload_n 2, 1) := by decide +kernel
theorem dX7_addWord_34 : decode cX7_addWord 34 = .ok (.ishr, 1) := by decide +kernel
theorem dX7_addWord_35 : decode cX7_addWord 35 = .ok (.i2b, 1) := by decide +kernel
theorem dX7_addWord_36 : decode cX7_addWord 36 = .ok (.bastore, 1) := by decide +kernel
theorem dX7_addWord_37 : decode cX7_addWord 37 = .ok (.aload_n 0, 1) := by decide +kernel
theorem dX7_addWord_38 : decode cX7_addWord 38 = .ok (.dup, 1) := by decide +kernel
theorem dX7_addWord_39 : decode cX7_addWord 39 = .ok (.getfield 46, 3) := by decide +kernel
theorem dX7_addWord_42 : decode cX7_addWord 42 = .ok (.iconst 1, 1) := by decide +kernel
theorem dX7_addWord_43 : decode cX7_addWord 43 = .ok (.iadd, 1) := by decide +kernel
theorem dX7_addWord_44 : decode cX7_addWord 44 = .ok (.putfield 46, 3) := by decide +kernel
theorem dX7_addWord_47 : decode cX7_addWord 47 = .ok (.iinc 2 (-8), 3) := by decide +kernel
theorem dX7_addWord_50 : decode cX7_addWord 50 = .ok (.goto (-47), 3) := by decide +kernel
theorem dX7_addWord_53 : decode cX7_addWord 53 = .ok (.return_, 1) := by decide +kernel
theorem dX7_fail_0 : decode cX7_fail 0 = .ok (.aload_n 0, 1) := by decide +kernel
theorem dX7_fail_1 : decode cX7_fail 1 = .ok (.iload_n 1, 1) := by decide +kernel
theorem dX7_fail_2 : decode cX7_fail 2 = .ok (.putfield 52, 3) := by decide +kernel
theorem dX7_fail_5 : decode cX7_fail 5 = .ok (.aload_n 0, 1) := by decide +kernel
theorem dX7_fail_6 : decode cX7_fail 6 = .ok (.iload_n 2, 1) := by decide +kernel
theorem dX7_fail_7 : decode cX7_fail 7 = .ok (.putfield 55, 3) := by decide +kernel
theorem dX7_fail_10 : decode cX7_fail 10 = .ok (.return_, 1) := by decide +kernel
theorem dX7_kindAt_0 : decode cX7_kindAt 0 = .ok (.iload_n 1, 1) := by decide +kernel
theorem dX7_kindAt_1 : decode cX7_kindAt 1 = .ok (.ifCond .lt 20, 3) := by decide +kernel
theorem dX7_kindAt_4 : decode cX7_kindAt 4 = .ok (.iload_n 1, 1) := by decide +kernel
theorem dX7_kindAt_5 : decode cX7_kindAt 5 = .ok (.aload_n 0, 1) := by decide +kernel
theorem dX7_kindAt_6 : decode cX7_kindAt 6 = .ok (.getfield 49, 3) := by decide +kernel
theorem dX7_kindAt_9 : decode cX7_kindAt 9 = .ok (.if_icmp .ge 12, 3) := by decide +kernel
theorem dX7_kindAt_12 : decode cX7_kindAt 12 = .ok (.aload_n 0, 1) := by decide +kernel
theorem dX7_kindAt_13 : decode cX7_kindAt 13 = .ok (.getfield 15, 3) := by decide +kernel
theorem dX7_kindAt_16 : decode cX7_kindAt 16 = .ok (.iload_n 1, 1) := by decide +kernel
theorem dX7_kindAt_17 : decode cX7_kindAt 17 = .ok (.iaload, 1) := by decide +kernel
theorem dX7_kindAt_18 : decode cX7_kindAt 18 = .ok (.goto 4, 3) := by decide +kernel
theorem dX7_kindAt_21 : decode cX7_kindAt 21 = .ok (.iconst 0, 1) := by decide +kernel
theorem dX7_kindAt_22 : decode cX7_kindAt 22 = .ok (.ireturn, 1) := by decide +kernel
theorem dX7_placeAt_0 : decode cX7_placeAt 0 = .ok (.iload_n 1, 1) := by decide +kernel
theorem dX7_placeAt_1 : decode cX7_placeAt 1 = .ok (.ifCond .lt 20, 3) := by decide +kernel
theorem dX7_placeAt_4 : decode cX7_placeAt 4 = .ok (.iload_n 1, 1) := by decide +kernel
theorem dX7_placeAt_5 : decode cX7_placeAt 5 = .ok (.aload_n 0, 1) := by decide +kernel
theorem dX7_placeAt_6 : decode cX7_placeAt 6 = .ok (.getfield 49, 3) := by decide +kernel
theorem dX7_placeAt_9 : decode cX7_placeAt 9 = .ok (.if_icmp .ge 12, 3) := by decide +kernel
theorem dX7_placeAt_12 : decode cX7_placeAt 12 = .ok (.aload_n 0, 1) := by decide +kernel
theorem dX7_placeAt_13 : decode cX7_placeAt 13 = .ok (.getfield 19, 3) := by decide +kernel
theorem dX7_placeAt_16 : decode cX7_placeAt 16 = .ok (.iload_n 1, 1) := by decide +kernel
theorem dX7_placeAt_17 : decode cX7_placeAt 17 = .ok (.iaload, 1) := by decide +kernel
theorem dX7_placeAt_18 : decode cX7_placeAt 18 = .ok (.goto 4, 3) := by decide +kernel
theorem dX7_placeAt_21 : decode cX7_placeAt 21 = .ok (.iconst (-1), 1) := by decide +kernel
theorem dX7_placeAt_22 : decode cX7_placeAt 22 = .ok (.ireturn, 1) := by decide +kernel
theorem dX7_valueAt_0 : decode cX7_valueAt 0 = .ok (.iload_n 1, 1) := by decide +kernel
theorem dX7_valueAt_1 : decode cX7_valueAt 1 = .ok (.ifCond .lt 20, 3) := by decide +kernel
theorem dX7_valueAt_4 : decode cX7_valueAt 4 = .ok (.iload_n 1, 1) := by decide +kernel
theorem dX7_valueAt_5 : decode cX7_valueAt 5 = .ok (.aload_n 0, 1) := by decide +kernel
theorem dX7_valueAt_6 : decode cX7_valueAt 6 = .ok (.getfield 49, 3) := by decide +kernel
theorem dX7_valueAt_9 : decode cX7_valueAt 9 = .ok (.if_icmp .ge 12, 3) := by decide +kernel
theorem dX7_valueAt_12 : decode cX7_valueAt 12 = .ok (.aload_n 0, 1) := by decide +kernel
theorem dX7_valueAt_13 : decode cX7_valueAt 13 = .ok (.getfield 22, 3) := by decide +kernel
theorem dX7_valueAt_16 : decode cX7_valueAt 16 = .ok (.iload_n 1, 1) := by decide +kernel
theorem dX7_valueAt_17 : decode cX7_valueAt 17 = .ok (.laload, 1) := by decide +kernel
theorem dX7_valueAt_18 : decode cX7_valueAt 18 = .ok (.goto 4, 3) := by decide +kernel
theorem dX7_valueAt_21 : decode cX7_valueAt 21 = .ok (.lconst 0, 1) := by decide +kernel
theorem dX7_valueAt_22 : decode cX7_valueAt 22 = .ok (.lreturn, 1) := by decide +kernel
theorem dX7_isLineStart_0 : decode cX7_isLineStart 0 = .ok (.aload_n 0, 1) := by decide +kernel
theorem dX7_isLineStart_1 : decode cX7_isLineStart 1 = .ok (.iload_n 1, 1) := by decide +kernel
theorem dX7_isLineStart_2 : decode cX7_isLineStart 2 = .ok (.invokevirtual 58, 3) := by decide +kernel
theorem dX7_isLineStart_5 : decode cX7_isLineStart 5 = .ok (.istore_n 2, 1) := by decide +kernel
theorem dX7_isLineStart_6 : decode cX7_isLineStart 6 = .ok (.iload_n 2, 1) := by decide +kernel
theorem dX7_isLineStart_7 : decode cX7_isLineStart 7 = .ok (.iconst 1, 1) := by decide +kernel
theorem dX7_isLineStart_8 : decode cX7_isLineStart 8 = .ok (.if_icmp .lt 13, 3) := by decide +kernel
theorem dX7_isLineStart_11 : decode cX7_isLineStart 11 = .ok (.iload_n 2, 1) := by decide +kernel
theorem dX7_isLineStart_12 : decode cX7_isLineStart 12 = .ok (.bipush 8, 2) := by decide +kernel
theorem dX7_isLineStart_14 : decode cX7_isLineStart 14 = .ok (.if_icmp .gt 7, 3) := by decide +kernel
theorem dX7_isLineStart_17 : decode cX7_isLineStart 17 = .ok (.iconst 1, 1) := by decide +kernel
theorem dX7_isLineStart_18 : decode cX7_isLineStart 18 = .ok (.goto 4, 3) := by decide +kernel
theorem dX7_isLineStart_21 : decode cX7_isLineStart 21 = .ok (.iconst 0, 1) := by decide +kernel
theorem dX7_isLineStart_22 : decode cX7_isLineStart 22 = .ok (.ireturn, 1) := by decide +kernel
theorem dX7_scan_0 : decode cX7_scan 0 = .ok (.aload_n 0, 1) := by decide +kernel
theorem dX7_scan_1 : decode cX7_scan 1 = .ok (.iconst 0, 1) := by decide +kernel
theorem dX7_scan_2 : decode cX7_scan 2 = .ok (.putfield 52, 3) := by decide +kernel
theorem dX7_scan_5 : decode cX7_scan 5 = .ok (.aload_n 0, 1) := by decide +kernel
theorem dX7_scan_6 : decode cX7_scan 6 = .ok (.iconst (-1), 1) := by decide +kernel
theorem dX7_scan_7 : decode cX7_scan 7 = .ok (.putfield 55, 3) := by decide +kernel
theorem dX7_scan_10 : decode cX7_scan 10 = .ok (.aload_n 0, 1) := by decide +kernel
theorem dX7_scan_11 : decode cX7_scan 11 = .ok (.iconst 0, 1) := by decide +kernel
theorem dX7_scan_12 : decode cX7_scan 12 = .ok (.putfield 49, 3) := by decide +kernel
theorem dX7_scan_15 : decode cX7_scan 15 = .ok (.aload_n 0, 1) := by decide +kernel
theorem dX7_scan_16 : decode cX7_scan 16 = .ok (.iconst 0, 1) := by decide +kernel
theorem dX7_scan_17 : decode cX7_scan 17 = .ok (.putfield 33, 3) := by decide +kernel
theorem dX7_scan_20 : decode cX7_scan 20 = .ok (.aload_n 0, 1) := by decide +kernel
theorem dX7_scan_21 : decode cX7_scan 21 = .ok (.iconst 0, 1) := by decide +kernel
theorem dX7_scan_22 : decode cX7_scan 22 = .ok (.putfield 40, 3) := by decide +kernel
theorem dX7_scan_25 : decode cX7_scan 25 = .ok (.aload_n 0, 1) := by decide +kernel
theorem dX7_scan_26 : decode cX7_scan 26 = .ok (.iconst 0, 1) := by decide +kernel
theorem dX7_scan_27 : decode cX7_scan 27 = .ok (.putfield 43, 3) := by decide +kernel
theorem dX7_scan_30 : decode cX7_scan 30 = .ok (.aload_n 0, 1) := by decide +kernel
theorem dX7_scan_31 : decode cX7_scan 31 = .ok (.getfield 26, 3) := by decide +kernel
theorem dX7_scan_34 : decode cX7_scan 34 = .ok (.iconst 0, 1) := by decide +kernel
theorem dX7_scan_35 : decode cX7_scan 35 = .ok (.invokestatic 62, 3) := by decide +kernel
theorem dX7_scan_38 : decode cX7_scan 38 = .ok (.iconst 0, 1) := by decide +kernel
theorem dX7_scan_39 : decode cX7_scan 39 = .ok (.istore_n 1, 1) := by decide +kernel
theorem dX7_scan_40 : decode cX7_scan 40 = .ok (.iload_n 1, 1) := by decide +kernel
theorem dX7_scan_41 : decode cX7_scan 41 = .ok (.sipush 400, 3) := by decide +kernel
theorem dX7_scan_44 : decode cX7_scan 44 = .ok (.if_icmp .gt 79, 3) := by decide +kernel
theorem dX7_scan_47 : decode cX7_scan 47 = .ok (.aload_n 0, 1) := by decide +kernel
theorem dX7_scan_48 : decode cX7_scan 48 = .ok (.invokevirtual 68, 3) := by decide +kernel
theorem dX7_scan_51 : decode cX7_scan 51 = .ok (.istore_n 2, 1) := by decide +kernel
theorem dX7_scan_52 : decode cX7_scan 52 = .ok (.aload_n 0, 1) := by decide +kernel
theorem dX7_scan_53 : decode cX7_scan 53 = .ok (.iload_n 2, 1) := by decide +kernel
theorem dX7_scan_54 : decode cX7_scan 54 = .ok (.invokevirtual 72, 3) := by decide +kernel
theorem dX7_scan_57 : decode cX7_scan 57 = .ok (.ifCond .ne 15, 3) := by decide +kernel
theorem dX7_scan_60 : decode cX7_scan 60 = .ok (.aload_n 0, 1) := by decide +kernel
theorem dX7_scan_61 : decode cX7_scan 61 = .ok (.iconst 1, 1) := by decide +kernel
theorem dX7_scan_62 : decode cX7_scan 62 = .ok (.aload_n 0, 1) := by decide +kernel
theorem dX7_scan_63 : decode cX7_scan 63 = .ok (.getfield 29, 3) := by decide +kernel
theorem dX7_scan_66 : decode cX7_scan 66 = .ok (.invokevirtual 76, 3) := by decide +kernel
theorem dX7_scan_69 : decode cX7_scan 69 = .ok (.goto 31, 3) := by decide +kernel
theorem dX7_scan_72 : decode cX7_scan 72 = .ok (.iload_n 2, 1) := by decide +kernel
theorem dX7_scan_73 : decode cX7_scan 73 = .ok (.ifCond .eq 27, 3) := by decide +kernel
theorem dX7_scan_76 : decode cX7_scan 76 = .ok (.iload_n 1, 1) := by decide +kernel
theorem dX7_scan_77 : decode cX7_scan 77 = .ok (.sipush 400, 3) := by decide +kernel
theorem dX7_scan_80 : decode cX7_scan 80 = .ok (.if_icmp .eq 11, 3) := by decide +kernel
theorem dX7_scan_83 : decode cX7_scan 83 = .ok (.aload_n 0, 1) := by decide +kernel
theorem dX7_scan_84 : decode cX7_scan 84 = .ok (.iload_n 2, 1) := by decide +kernel
theorem dX7_scan_85 : decode cX7_scan 85 = .ok (.invokevirtual 80, 3) := by decide +kernel
theorem dX7_scan_88 : decode cX7_scan 88 = .ok (.ifCond .eq 12, 3) := by decide +kernel
theorem dX7_scan_91 : decode cX7_scan 91 = .ok (.aload_n 0, 1) := by decide +kernel
theorem dX7_scan_92 : decode cX7_scan 92 = .ok (.iconst 2, 1) := by decide +kernel
theorem dX7_scan_93 : decode cX7_scan 93 = .ok (.aload_n 0, 1) := by decide +kernel
theorem dX7_scan_94 : decode cX7_scan 94 = .ok (.getfield 29, 3) := by decide +kernel
theorem dX7_scan_97 : decode cX7_scan 97 = .ok (.invokevirtual 76, 3) := by decide +kernel
theorem dX7_scan_100 : decode cX7_scan 100 = .ok (.aload_n 0, 1) := by decide +kernel
theorem dX7_scan_101 : decode cX7_scan 101 = .ok (.getfield 52, 3) := by decide +kernel
theorem dX7_scan_104 : decode cX7_scan 104 = .ok (.ifCond .ne 7, 3) := by decide +kernel
theorem dX7_scan_107 : decode cX7_scan 107 = .ok (.iload_n 2, 1) := by decide +kernel
theorem dX7_scan_108 : decode cX7_scan 108 = .ok (.ifCond .ne 4, 3) := by decide +kernel
theorem dX7_scan_111 : decode cX7_scan 111 = .ok (.return_, 1) := by decide +kernel
theorem dX7_scan_112 : decode cX7_scan 112 = .ok (.aload_n 0, 1) := by decide +kernel
theorem dX7_scan_113 : decode cX7_scan 113 = .ok (.iload_n 2, 1) := by decide +kernel
theorem dX7_scan_114 : decode cX7_scan 114 = .ok (.invokevirtual 83, 3) := by decide +kernel
theorem dX7_scan_117 : decode cX7_scan 117 = .ok (.iinc 1 1, 3) := by decide +kernel
theorem dX7_scan_120 : decode cX7_scan 120 = .ok (.goto (-80), 3) := by decide +kernel
theorem dX7_scan_123 : decode cX7_scan 123 = .ok (.return_, 1) := by decide +kernel
theorem dX7_nextKind_0 : decode cX7_nextKind 0 = .ok (.aload_n 0, 1) := by decide +kernel
theorem dX7_nextKind_1 : decode cX7_nextKind 1 = .ok (.invokevirtual 87, 3) := by decide +kernel
theorem dX7_nextKind_4 : decode cX7_nextKind 4 = .ok (.aload_n 0, 1) := by decide +kernel
theorem dX7_nextKind_5 : decode cX7_nextKind 5 = .ok (.aload_n 0, 1) := by decide +kernel
theorem dX7_nextKind_6 : decode cX7_nextKind 6 = .ok (.getfield 33, 3) := by decide +kernel
theorem dX7_nextKind_9 : decode cX7_nextKind 9 = .ok (.putfield 29, 3) := by decide +kernel
theorem dX7_nextKind_12 : decode cX7_nextKind 12 = .ok (.aload_n 0, 1) := by decide +kernel
theorem dX7_nextKind_13 : decode cX7_nextKind 13 = .ok (.lconst 0, 1) := by decide +kernel
theorem dX7_nextKind_14 : decode cX7_nextKind 14 = .ok (.putfield 36, 3) := by decide +kernel
theorem dX7_nextKind_17 : decode cX7_nextKind 17 = .ok (.aload_n 0, 1) := by decide +kernel
theorem dX7_nextKind_18 : decode cX7_nextKind 18 = .ok (.getfield 29, 3) := by decide +kernel
theorem dX7_nextKind_21 : decode cX7_nextKind 21 = .ok (.aload_n 0, 1) := by decide +kernel
theorem dX7_nextKind_22 : decode cX7_nextKind 22 = .ok (.getfield 46, 3) := by decide +kernel
theorem dX7_nextKind_25 : decode cX7_nextKind 25 = .ok (.if_icmp .lt 5, 3) := by decide +kernel
theorem dX7_nextKind_28 : decode cX7_nextKind 28 = .ok (.iconst 0, 1) := by decide +kernel
theorem dX7_nextKind_29 : decode cX7_nextKind 29 = .ok (.ireturn, 1) := by decide +kernel
theorem dX7_nextKind_30 : decode cX7_nextKind 30 = .ok (.aload_n 0, 1) := by decide +kernel
theorem dX7_nextKind_31 : decode cX7_nextKind 31 = .ok (.aload_n 0, 1) := by decide +kernel
theorem dX7_nextKind_32 : decode cX7_nextKind 32 = .ok (.getfield 29, 3) := by decide +kernel
theorem dX7_nextKind_35 : decode cX7_nextKind 35 = .ok (.invokevirtual 90, 3) := by decide +kernel
theorem dX7_nextKind_38 : decode cX7_nextKind 38 = .ok (.istore_n 1, 1) := by decide +kernel
theorem dX7_nextKind_39 : decode cX7_nextKind 39 = .ok (.iload_n 1, 1) := by decide +kernel
theorem dX7_nextKind_40 : decode cX7_nextKind 40 = .ok (.invokestatic 93, 3) := by decide +kernel
theorem dX7_nextKind_43 : decode cX7_nextKind 43 = .ok (.ifCond .eq 8, 3) := by decide +kernel
theorem dX7_nextKind_46 : decode cX7_nextKind 46 = .ok (.aload_n 0, 1) := by decide +kernel
theorem dX7_nextKind_47 : decode cX7_nextKind 47 = .ok (.invokevirtual 96, 3) := by decide +kernel
theorem dX7_nextKind_50 : decode cX7_nextKind 50 = .ok (.ireturn, 1) := by decide +kernel
theorem dX7_nextKind_51 : decode cX7_nextKind 51 = .ok (.iload_n 1, 1) := by decide +kernel
theorem dX7_nextKind_52 : decode cX7_nextKind 52 = .ok (.invokestatic 99, 3) := by decide +kernel
theorem dX7_nextKind_55 : decode cX7_nextKind 55 = .ok (.ifCond .eq 8, 3) := by decide +kernel
theorem dX7_nextKind_58 : decode cX7_nextKind 58 = .ok (.aload_n 0, 1) := by decide +kernel
theorem dX7_nextKind_59 : decode cX7_nextKind 59 = .ok (.invokevirtual 102, 3) := by decide +kernel
theorem dX7_nextKind_62 : decode cX7_nextKind 62 = .ok (.ireturn, 1) := by decide +kernel
theorem dX7_nextKind_63 : decode cX7_nextKind 63 = .ok (.aload_n 0, 1) := by decide +kernel
theorem dX7_nextKind_64 : decode cX7_nextKind 64 = .ok (.aload_n 0, 1) := by decide +kernel
theorem dX7_nextKind_65 : decode cX7_nextKind 65 = .ok (.getfield 29, 3) := by decide +kernel
theorem dX7_nextKind_68 : decode cX7_nextKind 68 = .ok (.iconst 1, 1) := by decide +kernel
theorem dX7_nextKind_69 : decode cX7_nextKind 69 = .ok (.iadd, 1) := by decide +kernel
theorem dX7_nextKind_70 : decode cX7_nextKind 70 = .ok (.putfield 33, 3) := by decide +kernel
theorem dX7_nextKind_73 : decode cX7_nextKind 73 = .ok (.iload_n 1, 1) := by decide +kernel
theorem dX7_nextKind_74 : decode cX7_nextKind 74 = .ok (.bipush 59, 2) := by decide +kernel
theorem dX7_nextKind_76 : decode cX7_nextKind 76 = .ok (.if_icmp .ne 8, 3) := by decide +kernel
theorem dX7_nextKind_79 : decode cX7_nextKind 79 = .ok (.bipush 11, 2) := by decide +kernel
theorem dX7_nextKind_81 : decode cX7_nextKind 81 = .ok (.goto 5, 3) := by decide +kernel
theorem dX7_nextKind_84 : decode cX7_nextKind 84 = .ok (.bipush 12, 2) := by decide +kernel
theorem dX7_nextKind_86 : decode cX7_nextKind 86 = .ok (.ireturn, 1) := by decide +kernel
theorem dX7_skipBlanks_0 : decode cX7_skipBlanks 0 = .ok (.aload_n 0, 1) := by decide +kernel
theorem dX7_skipBlanks_1 : decode cX7_skipBlanks 1 = .ok (.getfield 33, 3) := by decide +kernel
theorem dX7_skipBlanks_4 : decode cX7_skipBlanks 4 = .ok (.istore_n 1, 1) := by decide +kernel
theorem dX7_skipBlanks_5 : decode cX7_skipBlanks 5 = .ok (.iload_n 1, 1) := by decide +kernel
theorem dX7_skipBlanks_6 : decode cX7_skipBlanks 6 = .ok (.aload_n 0, 1) := by decide +kernel
theorem dX7_skipBlanks_7 : decode cX7_skipBlanks 7 = .ok (.getfield 46, 3) := by decide +kernel
theorem dX7_skipBlanks_10 : decode cX7_skipBlanks 10 = .ok (.if_icmp .ge 20, 3) := by decide +kernel
theorem dX7_skipBlanks_13 : decode cX7_skipBlanks 13 = .ok (.aload_n 0, 1) := by decide +kernel
theorem dX7_skipBlanks_14 : decode cX7_skipBlanks 14 = .ok (.iload_n 1, 1) := by decide +kernel
theorem dX7_skipBlanks_15 : decode cX7_skipBlanks 15 = .ok (.invokevirtual 90, 3) := by decide +kernel
theorem dX7_skipBlanks_18 : decode cX7_skipBlanks 18 = .ok (.invokestatic 105, 3) := by decide +kernel
theorem dX7_skipBlanks_21 : decode cX7_skipBlanks 21 = .ok (.ifCond .eq 9, 3) := by decide +kernel
theorem dX7_skipBlanks_24 : decode cX7_skipBlanks 24 = .ok (.iinc 1 1, 3) := by decide +kernel
theorem dX7_skipBlanks_27 : decode cX7_skipBlanks 27 = .ok (.goto (-22), 3) := by decide +kernel
theorem dX7_skipBlanks_30 : decode cX7_skipBlanks 30 = .ok (.aload_n 0, 1) := by decide +kernel
theorem dX7_skipBlanks_31 : decode cX7_skipBlanks 31 = .ok (.iload_n 1, 1) := by decide +kernel
theorem dX7_skipBlanks_32 : decode cX7_skipBlanks 32 = .ok (.putfield 33, 3) := by decide +kernel
theorem dX7_skipBlanks_35 : decode cX7_skipBlanks 35 = .ok (.return_, 1) := by decide +kernel
theorem dX7_lettersKind_0 : decode cX7_lettersKind 0 = .ok (.aload_n 0, 1) := by decide +kernel
theorem dX7_lettersKind_1 : decode cX7_lettersKind 1 = .ok (.getfield 29, 3) := by decide +kernel
theorem dX7_lettersKind_4 : decode cX7_lettersKind 4 = .ok (.istore_n 1, 1) := by decide +kernel
theorem dX7_lettersKind_5 : decode cX7_lettersKind 5 = .ok (.iload_n 1, 1) := by decide +kernel
theorem dX7_lettersKind_6 : decode cX7_lettersKind 6 = .ok (.aload_n 0, 1) := by decide +kernel
theorem dX7_lettersKind_7 : decode cX7_lettersKind 7 = .ok (.getfield 46, 3) := by decide +kernel
theorem dX7_lettersKind_10 : decode cX7_lettersKind 10 = .ok (.if_icmp .ge 44, 3) := by decide +kernel
theorem dX7_lettersKind_13 : decode cX7_lettersKind 13 = .ok (.aload_n 0, 1) := by decide +kernel
theorem dX7_lettersKind_14 : decode cX7_lettersKind 14 = .ok (.iload_n 1, 1) := by decide +kernel
theorem dX7_lettersKind_15 : decode cX7_lettersKind 15 = .ok (.invokevirtual 90, 3) := by decide +kernel
theorem dX7_lettersKind_18 : decode cX7_lettersKind 18 = .ok (.invokestatic 93, 3) := by decide +kernel
theorem dX7_lettersKind_21 : decode cX7_lettersKind 21 = .ok (.ifCond .eq 33, 3) := by decide +kernel
theorem dX7_lettersKind_24 : decode cX7_lettersKind 24 = .ok (.aload_n 0, 1) := by decide +kernel
theorem dX7_lettersKind_25 : decode cX7_lettersKind 25 = .ok (.aload_n 0, 1) := by decide +kernel
theorem dX7_lettersKind_26 : decode cX7_lettersKind 26 = .ok (.getfield 36, 3) := by decide +kernel
theorem dX7_lettersKind_29 : decode cX7_lettersKind 29 = .ok (.ldc2_w 108, 3) := by decide +kernel
theorem dX7_lettersKind_32 : decode cX7_lettersKind 32 = .ok (.lmul, 1) := by decide +kernel
theorem dX7_lettersKind_33 : decode cX7_lettersKind 33 = .ok (.aload_n 0, 1) := by decide +kernel
theorem dX7_lettersKind_34 : decode cX7_lettersKind 34 = .ok (.iload_n 1, 1) := by decide +kernel
theorem dX7_lettersKind_35 : decode cX7_lettersKind 35 = .ok (.invokevirtual 90, 3) := by decide +kernel
theorem dX7_lettersKind_38 : decode cX7_lettersKind 38 = .ok (.bipush 97, 2) := by decide +kernel
theorem dX7_lettersKind_40 : decode cX7_lettersKind 40 = .ok (.isub, 1) := by decide +kernel
theorem dX7_lettersKind_41 : decode cX7_lettersKind 41 = .ok (.iconst 1, 1) := by decide +kernel
theorem dX7_lettersKind_42 : decode cX7_lettersKind 42 = .ok (.iadd, 1) := by decide +kernel
theorem dX7_lettersKind_43 : decode cX7_lettersKind 43 = .ok (.i2l, 1) := by decide +kernel
theorem dX7_lettersKind_44 : decode cX7_lettersKind 44 = .ok (.ladd, 1) := by decide +kernel
theorem dX7_lettersKind_45 : decode cX7_lettersKind 45 = .ok (.putfield 36, 3) := by decide +kernel
theorem dX7_lettersKind_48 : decode cX7_lettersKind 48 = .ok (.iinc 1 1, 3) := by decide +kernel
theorem dX7_lettersKind_51 : decode cX7_lettersKind 51 = .ok (.goto (-46), 3) := by decide +kernel
theorem dX7_lettersKind_54 : decode cX7_lettersKind 54 = .ok (.aload_n 0, 1) := by decide +kernel
theorem dX7_lettersKind_55 : decode cX7_lettersKind 55 = .ok (.iload_n 1, 1) := by decide +kernel
theorem dX7_lettersKind_56 : decode cX7_lettersKind 56 = .ok (.putfield 33, 3) := by decide +kernel
theorem dX7_lettersKind_59 : decode cX7_lettersKind 59 = .ok (.aload_n 0, 1) := by decide +kernel
theorem dX7_lettersKind_60 : decode cX7_lettersKind 60 = .ok (.getfield 33, 3) := by decide +kernel
theorem dX7_lettersKind_63 : decode cX7_lettersKind 63 = .ok (.aload_n 0, 1) := by decide +kernel
theorem dX7_lettersKind_64 : decode cX7_lettersKind 64 = .ok (.getfield 29, 3) := by decide +kernel
theorem dX7_lettersKind_67 : decode cX7_lettersKind 67 = .ok (.isub, 1) := by decide +kernel
theorem dX7_lettersKind_68 : decode cX7_lettersKind 68 = .ok (.bipush 8, 2) := by decide +kernel
theorem dX7_lettersKind_70 : decode cX7_lettersKind 70 = .ok (.if_icmp .le 8, 3) := by decide +kernel
theorem dX7_lettersKind_73 : decode cX7_lettersKind 73 = .ok (.bipush 12, 2) := by decide +kernel
theorem dX7_lettersKind_75 : decode cX7_lettersKind 75 = .ok (.goto 7, 3) := by decide +kernel
theorem dX7_lettersKind_78 : decode cX7_lettersKind 78 = .ok (.aload_n 0, 1) := by decide +kernel
theorem dX7_lettersKind_79 : decode cX7_lettersKind 79 = .ok (.invokevirtual 110, 3) := by decide +kernel
theorem dX7_lettersKind_82 : decode cX7_lettersKind 82 = .ok (.ireturn, 1) := by decide +kernel
theorem dX7_digitsKind_0 : decode cX7_digitsKind 0 = .ok (.aload_n 0, 1) := by decide +kernel
theorem dX7_digitsKind_1 : decode cX7_digitsKind 1 = .ok (.getfield 29, 3) := by decide +kernel
theorem dX7_digitsKind_4 : decode cX7_digitsKind 4 = .ok (.istore_n 1, 1) := by decide +kernel
theorem dX7_digitsKind_5 : decode cX7_digitsKind 5 = .ok (.iload_n 1, 1) := by decide +kernel
theorem dX7_digitsKind_6 : decode cX7_digitsKind 6 = .ok (.aload_n 0, 1) := by decide +kernel
theorem dX7_digitsKind_7 : decode cX7_digitsKind 7 = .ok (.getfield 46, 3) := by decide +kernel
theorem dX7_digitsKind_10 : decode cX7_digitsKind 10 = .ok (.if_icmp .ge 42, 3) := by decide +kernel
theorem dX7_digitsKind_13 : decode cX7_digitsKind 13 = .ok (.aload_n 0, 1) := by decide +kernel
theorem dX7_digitsKind_14 : decode cX7_digitsKind 14 = .ok (.iload_n 1, 1) := by decide +kernel
theorem dX7_digitsKind_15 : decode cX7_digitsKind 15 = .ok (.invokevirtual 90, 3) := by decide +kernel
theorem dX7_digitsKind_18 : decode cX7_digitsKind 18 = .ok (.invokestatic 99, 3) := by decide +kernel
theorem dX7_digitsKind_21 : decode cX7_digitsKind 21 = .ok (.ifCond .eq 31, 3) := by decide +kernel
theorem dX7_digitsKind_24 : decode cX7_digitsKind 24 = .ok (.aload_n 0, 1) := by decide +kernel
theorem dX7_digitsKind_25 : decode cX7_digitsKind 25 = .ok (.aload_n 0, 1) := by decide +kernel
theorem dX7_digitsKind_26 : decode cX7_digitsKind 26 = .ok (.getfield 36, 3) := by decide +kernel
theorem dX7_digitsKind_29 : decode cX7_digitsKind 29 = .ok (.ldc2_w 113, 3) := by decide +kernel
theorem dX7_digitsKind_32 : decode cX7_digitsKind 32 = .ok (.lmul, 1) := by decide +kernel
theorem dX7_digitsKind_33 : decode cX7_digitsKind 33 = .ok (.aload_n 0, 1) := by decide +kernel
theorem dX7_digitsKind_34 : decode cX7_digitsKind 34 = .ok (.iload_n 1, 1) := by decide +kernel
theorem dX7_digitsKind_35 : decode cX7_digitsKind 35 = .ok (.invokevirtual 90, 3) := by decide +kernel
theorem dX7_digitsKind_38 : decode cX7_digitsKind 38 = .ok (.bipush 48, 2) := by decide +kernel
theorem dX7_digitsKind_40 : decode cX7_digitsKind 40 = .ok (.isub, 1) := by decide +kernel
theorem dX7_digitsKind_41 : decode cX7_digitsKind 41 = .ok (.i2l, 1) := by decide +kernel
theorem dX7_digitsKind_42 : decode cX7_digitsKind 42 = .ok (.ladd, 1) := by decide +kernel
theorem dX7_digitsKind_43 : decode cX7_digitsKind 43 = .ok (.putfield 36, 3) := by decide +kernel
theorem dX7_digitsKind_46 : decode cX7_digitsKind 46 = .ok (.iinc 1 1, 3) := by decide +kernel
theorem dX7_digitsKind_49 : decode cX7_digitsKind 49 = .ok (.goto (-44), 3) := by decide +kernel
theorem dX7_digitsKind_52 : decode cX7_digitsKind 52 = .ok (.aload_n 0, 1) := by decide +kernel
theorem dX7_digitsKind_53 : decode cX7_digitsKind 53 = .ok (.iload_n 1, 1) := by decide +kernel
theorem dX7_digitsKind_54 : decode cX7_digitsKind 54 = .ok (.putfield 33, 3) := by decide +kernel
theorem dX7_digitsKind_57 : decode cX7_digitsKind 57 = .ok (.aload_n 0, 1) := by decide +kernel
theorem dX7_digitsKind_58 : decode cX7_digitsKind 58 = .ok (.getfield 33, 3) := by decide +kernel
theorem dX7_digitsKind_61 : decode cX7_digitsKind 61 = .ok (.aload_n 0, 1) := by decide +kernel
theorem dX7_digitsKind_62 : decode cX7_digitsKind 62 = .ok (.getfield 29, 3) := by decide +kernel
theorem dX7_digitsKind_65 : decode cX7_digitsKind 65 = .ok (.isub, 1) := by decide +kernel
theorem dX7_digitsKind_66 : decode cX7_digitsKind 66 = .ok (.iconst 4, 1) := by decide +kernel
theorem dX7_digitsKind_67 : decode cX7_digitsKind 67 = .ok (.if_icmp .le 8, 3) := by decide +kernel
theorem dX7_digitsKind_70 : decode cX7_digitsKind 70 = .ok (.bipush 12, 2) := by decide +kernel
theorem dX7_digitsKind_72 : decode cX7_digitsKind 72 = .ok (.goto 5, 3) := by decide +kernel
theorem dX7_digitsKind_75 : decode cX7_digitsKind 75 = .ok (.bipush 10, 2) := by decide +kernel
theorem dX7_digitsKind_77 : decode cX7_digitsKind 77 = .ok (.ireturn, 1) := by decide +kernel
theorem dX7_wordKind_0 : decode cX7_wordKind 0 = .ok (.aload_n 0, 1) := by decide +kernel
theorem dX7_wordKind_1 : decode cX7_wordKind 1 = .ok (.ldc 115, 2) := by decide +kernel
theorem dX7_wordKind_3 : decode cX7_wordKind 3 = .ok (.invokevirtual 117, 3) := by decide +kernel
theorem dX7_wordKind_6 : decode cX7_wordKind 6 = .ok (.ifCond .eq 5, 3) := by decide +kernel
theorem dX7_wordKind_9 : decode cX7_wordKind 9 = .ok (.iconst 1, 1) := by decide +kernel
theorem dX7_wordKind_10 : decode cX7_wordKind 10 = .ok (.ireturn, 1) := by decide +kernel
theorem dX7_wordKind_11 : decode cX7_wordKind 11 = .ok (.aload_n 0, 1) := by decide +kernel
theorem dX7_wordKind_12 : decode cX7_wordKind 12 = .ok (.ldc 121, 2) := by decide +kernel
theorem dX7_wordKind_14 : decode cX7_wordKind 14 = .ok (.invokevirtual 117, 3) := by decide +kernel
theorem dX7_wordKind_17 : decode cX7_wordKind 17 = .ok (.ifCond .eq 5, 3) := by decide +kernel
theorem dX7_wordKind_20 : decode cX7_wordKind 20 = .ok (.iconst 2, 1) := by decide +kernel
theorem dX7_wordKind_21 : decode cX7_wordKind 21 = .ok (.ireturn, 1) := by decide +kernel
theorem dX7_wordKind_22 : decode cX7_wordKind 22 = .ok (.aload_n 0, 1) := by decide +kernel
theorem dX7_wordKind_23 : decode cX7_wordKind 23 = .ok (.ldc 123, 2) := by decide +kernel
theorem dX7_wordKind_25 : decode cX7_wordKind 25 = .ok (.invokevirtual 117, 3) := by decide +kernel
theorem dX7_wordKind_28 : decode cX7_wordKind 28 = .ok (.ifCond .eq 5, 3) := by decide +kernel
theorem dX7_wordKind_31 : decode cX7_wordKind 31 = .ok (.iconst 3, 1) := by decide +kernel
theorem dX7_wordKind_32 : decode cX7_wordKind 32 = .ok (.ireturn, 1) := by decide +kernel
theorem dX7_wordKind_33 : decode cX7_wordKind 33 = .ok (.aload_n 0, 1) := by decide +kernel
theorem dX7_wordKind_34 : decode cX7_wordKind 34 = .ok (.ldc 125, 2) := by decide +kernel
theorem dX7_wordKind_36 : decode cX7_wordKind 36 = .ok (.invokevirtual 117, 3) := by decide +kernel
theorem dX7_wordKind_39 : decode cX7_wordKind 39 = .ok (.ifCond .eq 5, 3) := by decide +kernel
theorem dX7_wordKind_42 : decode cX7_wordKind 42 = .ok (.iconst 4, 1) := by decide +kernel
theorem dX7_wordKind_43 : decode cX7_wordKind 43 = .ok (.ireturn, 1) := by decide +kernel
theorem dX7_wordKind_44 : decode cX7_wordKind 44 = .ok (.aload_n 0, 1) := by decide +kernel
theorem dX7_wordKind_45 : decode cX7_wordKind 45 = .ok (.ldc 127, 2) := by decide +kernel
theorem dX7_wordKind_47 : decode cX7_wordKind 47 = .ok (.invokevirtual 117, 3) := by decide +kernel
theorem dX7_wordKind_50 : decode cX7_wordKind 50 = .ok (.ifCond .eq 5, 3) := by decide +kernel
theorem dX7_wordKind_53 : decode cX7_wordKind 53 = .ok (.iconst 5, 1) := by decide +kernel
theorem dX7_wordKind_54 : decode cX7_wordKind 54 = .ok (.ireturn, 1) := by decide +kernel
theorem dX7_wordKind_55 : decode cX7_wordKind 55 = .ok (.aload_n 0, 1) := by decide +kernel
theorem dX7_wordKind_56 : decode cX7_wordKind 56 = .ok (.ldc 129, 2) := by decide +kernel
theorem dX7_wordKind_58 : decode cX7_wordKind 58 = .ok (.invokevirtual 117, 3) := by decide +kernel
theorem dX7_wordKind_61 : decode cX7_wordKind 61 = .ok (.ifCond .eq 6, 3) := by decide +kernel
theorem dX7_wordKind_64 : decode cX7_wordKind 64 = .ok (.bipush 6, 2) := by decide +kernel
theorem dX7_wordKind_66 : decode cX7_wordKind 66 = .ok (.ireturn, 1) := by decide +kernel
theorem dX7_wordKind_67 : decode cX7_wordKind 67 = .ok (.aload_n 0, 1) := by decide +kernel
theorem dX7_wordKind_68 : decode cX7_wordKind 68 = .ok (.ldc 131, 2) := by decide +kernel
theorem dX7_wordKind_70 : decode cX7_wordKind 70 = .ok (.invokevirtual 117, 3) := by decide +kernel
theorem dX7_wordKind_73 : decode cX7_wordKind 73 = .ok (.ifCond .eq 6, 3) := by decide +kernel
theorem dX7_wordKind_76 : decode cX7_wordKind 76 = .ok (.bipush 7, 2) := by decide +kernel
theorem dX7_wordKind_78 : decode cX7_wordKind 78 = .ok (.ireturn, 1) := by decide +kernel
theorem dX7_wordKind_79 : decode cX7_wordKind 79 = .ok (.aload_n 0, 1) := by decide +kernel
theorem dX7_wordKind_80 : decode cX7_wordKind 80 = .ok (.ldc 133, 2) := by decide +kernel
theorem dX7_wordKind_82 : decode cX7_wordKind 82 = .ok (.invokevirtual 117, 3) := by decide +kernel
theorem dX7_wordKind_85 : decode cX7_wordKind 85 = .ok (.ifCond .eq 8, 3) := by decide +kernel
theorem dX7_wordKind_88 : decode cX7_wordKind 88 = .ok (.bipush 8, 2) := by decide +kernel
theorem dX7_wordKind_90 : decode cX7_wordKind 90 = .ok (.goto 5, 3) := by decide +kernel
theorem dX7_wordKind_93 : decode cX7_wordKind 93 = .ok (.bipush 9, 2) := by decide +kernel
theorem dX7_wordKind_95 : decode cX7_wordKind 95 = .ok (.ireturn, 1) := by decide +kernel
theorem dX7_spells_0 : decode cX7_spells 0 = .ok (.aload_n 0, 1) := by decide +kernel
theorem dX7_spells_1 : decode cX7_spells 1 = .ok (.getfield 33, 3) := by decide +kernel
theorem dX7_spells_4 : decode cX7_spells 4 = .ok (.aload_n 0, 1) := by decide +kernel
theorem dX7_spells_5 : decode cX7_spells 5 = .ok (.getfield 29, 3) := by decide +kernel
theorem dX7_spells_8 : decode cX7_spells 8 = .ok (.isub, 1) := by decide +kernel
theorem dX7_spells_9 : decode cX7_spells 9 = .ok (.aload_n 1, 1) := by decide +kernel
theorem dX7_spells_10 : decode cX7_spells 10 = .ok (.invokevirtual 135, 3) := by decide +kernel
theorem dX7_spells_13 : decode cX7_spells 13 = .ok (.if_icmp .eq 5, 3) := by decide +kernel
theorem dX7_spells_16 : decode cX7_spells 16 = .ok (.iconst 0, 1) := by decide +kernel
theorem dX7_spells_17 : decode cX7_spells 17 = .ok (.ireturn, 1) := by decide +kernel
theorem dX7_spells_18 : decode cX7_spells 18 = .ok (.iconst 0, 1) := by decide +kernel
theorem dX7_spells_19 : decode cX7_spells 19 = .ok (.istore_n 2, 1) := by decide +kernel
theorem dX7_spells_20 : decode cX7_spells 20 = .ok (.iload_n 2, 1) := by decide +kernel
theorem dX7_spells_21 : decode cX7_spells 21 = .ok (.aload_n 1, 1) := by decide +kernel
theorem dX7_spells_22 : decode cX7_spells 22 = .ok (.invokevirtual 135, 3) := by decide +kernel
theorem dX7_spells_25 : decode cX7_spells 25 = .ok (.if_icmp .ge 29, 3) := by decide +kernel
theorem dX7_spells_28 : decode cX7_spells 28 = .ok (.aload_n 0, 1) := by decide +kernel
theorem dX7_spells_29 : decode cX7_spells 29 = .ok (.aload_n 0, 1) := by decide +kernel
theorem dX7_spells_30 : decode cX7_spells 30 = .ok (.getfield 29, 3) := by decide +kernel
theorem dX7_spells_33 : decode cX7_spells 33 = .ok (.iload_n 2, 1) := by decide +kernel
theorem dX7_spells_34 : decode cX7_spells 34 = .ok (.iadd, 1) := by decide +kernel
theorem dX7_spells_35 : decode cX7_spells 35 = .ok (.invokevirtual 90, 3) := by decide +kernel
theorem dX7_spells_38 : decode cX7_spells 38 = .ok (.aload_n 1, 1) := by decide +kernel
theorem dX7_spells_39 : decode cX7_spells 39 = .ok (.iload_n 2, 1) := by decide +kernel
theorem dX7_spells_40 : decode cX7_spells 40 = .ok (.invokevirtual 139, 3) := by decide +kernel
theorem dX7_spells_43 : decode cX7_spells 43 = .ok (.if_icmp .eq 5, 3) := by decide +kernel
theorem dX7_spells_46 : decode cX7_spells 46 = .ok (.iconst 0, 1) := by decide +kernel
theorem dX7_spells_47 : decode cX7_spells 47 = .ok (.ireturn, 1) := by decide +kernel
theorem dX7_spells_48 : decode cX7_spells 48 = .ok (.iinc 2 1, 3) := by decide +kernel
theorem dX7_spells_51 : decode cX7_spells 51 = .ok (.goto (-31), 3) := by decide +kernel
theorem dX7_spells_54 : decode cX7_spells 54 = .ok (.iconst 1, 1) := by decide +kernel
theorem dX7_spells_55 : decode cX7_spells 55 = .ok (.ireturn, 1) := by decide +kernel
theorem dX7_goesOn_0 : decode cX7_goesOn 0 = .ok (.aload_n 0, 1) := by decide +kernel
theorem dX7_goesOn_1 : decode cX7_goesOn 1 = .ok (.getfield 40, 3) := by decide +kernel
theorem dX7_goesOn_4 : decode cX7_goesOn 4 = .ok (.tableswitch 153 0 8 #[52, 153, 64, 102, 153, 153, 153, 128, 128], 52) := by decide +kernel
theorem dX7_goesOn_56 : decode cX7_goesOn 56 = .ok (.iload_n 1, 1) := by decide +kernel
theorem dX7_goesOn_57 : decode cX7_goesOn 57 = .ok (.bipush 8, 2) := by decide +kernel
theorem dX7_goesOn_59 : decode cX7_goesOn 59 = .ok (.if_icmp .gt 7, 3) := by decide +kernel
theorem dX7_goesOn_62 : decode cX7_goesOn 62 = .ok (.iconst 1, 1) := by decide +kernel
theorem dX7_goesOn_63 : decode cX7_goesOn 63 = .ok (.goto 4, 3) := by decide +kernel
theorem dX7_goesOn_66 : decode cX7_goesOn 66 = .ok (.iconst 0, 1) := by decide +kernel
theorem dX7_goesOn_67 : decode cX7_goesOn 67 = .ok (.ireturn, 1) := by decide +kernel
theorem dX7_goesOn_68 : decode cX7_goesOn 68 = .ok (.iload_n 1, 1) := by decide +kernel
theorem dX7_goesOn_69 : decode cX7_goesOn 69 = .ok (.aload_n 0, 1) := by decide +kernel
theorem dX7_goesOn_70 : decode cX7_goesOn 70 = .ok (.getfield 43, 3) := by decide +kernel
theorem dX7_goesOn_73 : decode cX7_goesOn 73 = .ok (.iconst 2, 1) := by decide +kernel
theorem dX7_goesOn_74 : decode cX7_goesOn 74 = .ok (.if_icmp .gt 8, 3) := by decide +kernel
theorem dX7_goesOn_77 : decode cX7_goesOn 77 = .ok (.bipush 9, 2) := by decide +kernel
theorem dX7_goesOn_79 : decode cX7_goesOn 79 = .ok (.goto 18, 3) := by decide +kernel
theorem dX7_goesOn_82 : decode cX7_goesOn 82 = .ok (.aload_n 0, 1) := by decide +kernel
theorem dX7_goesOn_83 : decode cX7_goesOn 83 = .ok (.getfield 43, 3) := by decide +kernel
theorem dX7_goesOn_86 : decode cX7_goesOn 86 = .ok (.iconst 3, 1) := by decide +kernel
theorem dX7_goesOn_87 : decode cX7_goesOn 87 = .ok (.if_icmp .ne 8, 3) := by decide +kernel
theorem dX7_goesOn_90 : decode cX7_goesOn 90 = .ok (.bipush 10, 2) := by decide +kernel
theorem dX7_goesOn_92 : decode cX7_goesOn 92 = .ok (.goto 5, 3) := by decide +kernel
theorem dX7_goesOn_95 : decode cX7_goesOn 95 = .ok (.bipush 11, 2) := by decide +kernel
theorem dX7_goesOn_97 : decode cX7_goesOn 97 = .ok (.if_icmp .ne 7, 3) := by decide +kernel
theorem dX7_goesOn_100 : decode cX7_goesOn 100 = .ok (.iconst 1, 1) := by decide +kernel
theorem dX7_goesOn_101 : decode cX7_goesOn 101 = .ok (.goto 4, 3) := by decide +kernel
theorem dX7_goesOn_104 : decode cX7_goesOn 104 = .ok (.iconst 0, 1) := by decide +kernel
theorem dX7_goesOn_105 : decode cX7_goesOn 105 = .ok (.ireturn, 1) := by decide +kernel
theorem dX7_goesOn_106 : decode cX7_goesOn 106 = .ok (.iload_n 1, 1) := by decide +kernel
theorem dX7_goesOn_107 : decode cX7_goesOn 107 = .ok (.bipush 9, 2) := by decide +kernel
theorem dX7_goesOn_109 : decode cX7_goesOn 109 = .ok (.if_icmp .eq 17, 3) := by decide +kernel
theorem dX7_goesOn_112 : decode cX7_goesOn 112 = .ok (.iload_n 1, 1) := by decide +kernel
theorem dX7_goesOn_113 : decode cX7_goesOn 113 = .ok (.bipush 11, 2) := by decide +kernel
theorem dX7_goesOn_115 : decode cX7_goesOn 115 = .ok (.if_icmp .ne 15, 3) := by decide +kernel
theorem dX7_goesOn_118 : decode cX7_goesOn 118 = .ok (.aload_n 0, 1) := by decide +kernel
theorem dX7_goesOn_119 : decode cX7_goesOn 119 = .ok (.getfield 43, 3) := by decide +kernel
theorem dX7_goesOn_122 : decode cX7_goesOn 122 = .ok (.iconst 3, 1) := by decide +kernel
theorem dX7_goesOn_123 : decode cX7_goesOn 123 = .ok (.if_icmp .le 7, 3) := by decide +kernel
theorem dX7_goesOn_126 : decode cX7_goesOn 126 = .ok (.iconst 1, 1) := by decide +kernel
theorem dX7_goesOn_127 : decode cX7_goesOn 127 = .ok (.goto 4, 3) := by decide +kernel
theorem dX7_goesOn_130 : decode cX7_goesOn 130 = .ok (.iconst 0, 1) := by decide +kernel
theorem dX7_goesOn_131 : decode cX7_goesOn 131 = .ok (.ireturn, 1) := by decide +kernel
theorem dX7_goesOn_132 : decode cX7_goesOn 132 = .ok (.iload_n 1, 1) := by decide +kernel
theorem dX7_goesOn_133 : decode cX7_goesOn 133 = .ok (.aload_n 0, 1) := by decide +kernel
theorem dX7_goesOn_134 : decode cX7_goesOn 134 = .ok (.getfield 43, 3) := by decide +kernel
theorem dX7_goesOn_137 : decode cX7_goesOn 137 = .ok (.iconst 1, 1) := by decide +kernel
theorem dX7_goesOn_138 : decode cX7_goesOn 138 = .ok (.if_icmp .ne 8, 3) := by decide +kernel
theorem dX7_goesOn_141 : decode cX7_goesOn 141 = .ok (.bipush 10, 2) := by decide +kernel
theorem dX7_goesOn_143 : decode cX7_goesOn 143 = .ok (.goto 5, 3) := by decide +kernel
theorem dX7_goesOn_146 : decode cX7_goesOn 146 = .ok (.bipush 11, 2) := by decide +kernel
theorem dX7_goesOn_148 : decode cX7_goesOn 148 = .ok (.if_icmp .ne 7, 3) := by decide +kernel
theorem dX7_goesOn_151 : decode cX7_goesOn 151 = .ok (.iconst 1, 1) := by decide +kernel
theorem dX7_goesOn_152 : decode cX7_goesOn 152 = .ok (.goto 4, 3) := by decide +kernel
theorem dX7_goesOn_155 : decode cX7_goesOn 155 = .ok (.iconst 0, 1) := by decide +kernel
theorem dX7_goesOn_156 : decode cX7_goesOn 156 = .ok (.ireturn, 1) := by decide +kernel
theorem dX7_goesOn_157 : decode cX7_goesOn 157 = .ok (.iload_n 1, 1) := by decide +kernel
theorem dX7_goesOn_158 : decode cX7_goesOn 158 = .ok (.aload_n 0, 1) := by decide +kernel
theorem dX7_goesOn_159 : decode cX7_goesOn 159 = .ok (.getfield 43, 3) := by decide +kernel
theorem dX7_goesOn_162 : decode cX7_goesOn 162 = .ok (.iconst 1, 1) := by decide +kernel
theorem dX7_goesOn_163 : decode cX7_goesOn 163 = .ok (.if_icmp .ne 8, 3) := by decide +kernel
theorem dX7_goesOn_166 : decode cX7_goesOn 166 = .ok (.bipush 9, 2) := by decide +kernel
theorem dX7_goesOn_168 : decode cX7_goesOn 168 = .ok (.goto 5, 3) := by decide +kernel
theorem dX7_goesOn_171 : decode cX7_goesOn 171 = .ok (.bipush 11, 2) := by decide +kernel
theorem dX7_goesOn_173 : decode cX7_goesOn 173 = .ok (.if_icmp .ne 7, 3) := by decide +kernel
theorem dX7_goesOn_176 : decode cX7_goesOn 176 = .ok (.iconst 1, 1) := by decide +kernel
theorem dX7_goesOn_177 : decode cX7_goesOn 177 = .ok (.goto 4, 3) := by decide +kernel
theorem dX7_goesOn_180 : decode cX7_goesOn 180 = .ok (.iconst 0, 1) := by decide +kernel
theorem dX7_goesOn_181 : decode cX7_goesOn 181 = .ok (.ireturn, 1) := by decide +kernel
theorem dX7_isBeyondRoom_0 : decode cX7_isBeyondRoom 0 = .ok (.aload_n 0, 1) := by decide +kernel
theorem dX7_isBeyondRoom_1 : decode cX7_isBeyondRoom 1 = .ok (.getfield 40, 3) := by decide +kernel
theorem dX7_isBeyondRoom_4 : decode cX7_isBeyondRoom 4 = .ok (.iconst 3, 1) := by decide +kernel
theorem dX7_isBeyondRoom_5 : decode cX7_isBeyondRoom 5 = .ok (.if_icmp .ne 24, 3) := by decide +kernel
theorem dX7_isBeyondRoom_8 : decode cX7_isBeyondRoom 8 = .ok (.iload_n 1, 1) := by decide +kernel
theorem dX7_isBeyondRoom_9 : decode cX7_isBeyondRoom 9 = .ok (.bipush 9, 2) := by decide +kernel
theorem dX7_isBeyondRoom_11 : decode cX7_isBeyondRoom 11 = .ok (.if_icmp .ne 16, 3) := by decide +kernel
theorem dX7_isBeyondRoom_14 : decode cX7_isBeyondRoom 14 = .ok (.aload_n 0, 1) := by decide +kernel
theorem dX7_isBeyondRoom_15 : decode cX7_isBeyondRoom 15 = .ok (.getfield 43, 3) := by decide +kernel
theorem dX7_isBeyondRoom_18 : decode cX7_isBeyondRoom 18 = .ok (.bipush 9, 2) := by decide +kernel
theorem dX7_isBeyondRoom_20 : decode cX7_isBeyondRoom 20 = .ok (.if_icmp .le 7, 3) := by decide +kernel
theorem dX7_isBeyondRoom_23 : decode cX7_isBeyondRoom 23 = .ok (.iconst 1, 1) := by decide +kernel
theorem dX7_isBeyondRoom_24 : decode cX7_isBeyondRoom 24 = .ok (.goto 4, 3) := by decide +kernel
theorem dX7_isBeyondRoom_27 : decode cX7_isBeyondRoom 27 = .ok (.iconst 0, 1) := by decide +kernel
theorem dX7_isBeyondRoom_28 : decode cX7_isBeyondRoom 28 = .ok (.ireturn, 1) := by decide +kernel
theorem dX7_isBeyondRoom_29 : decode cX7_isBeyondRoom 29 = .ok (.aload_n 0, 1) := by decide +kernel
theorem dX7_isBeyondRoom_30 : decode cX7_isBeyondRoom 30 = .ok (.getfield 40, 3) := by decide +kernel
theorem dX7_isBeyondRoom_33 : decode cX7_isBeyondRoom 33 = .ok (.ifCond .ne 13, 3) := by decide +kernel
theorem dX7_isBeyondRoom_36 : decode cX7_isBeyondRoom 36 = .ok (.iload_n 1, 1) := by decide +kernel
theorem dX7_isBeyondRoom_37 : decode cX7_isBeyondRoom 37 = .ok (.ifCond .lt 9, 3) := by decide +kernel
theorem dX7_isBeyondRoom_40 : decode cX7_isBeyondRoom 40 = .ok (.iload_n 1, 1) := by decide +kernel
theorem dX7_isBeyondRoom_41 : decode cX7_isBeyondRoom 41 = .ok (.bipush 13, 2) := by decide +kernel
theorem dX7_isBeyondRoom_43 : decode cX7_isBeyondRoom 43 = .ok (.if_icmp .lt 5, 3) := by decide +kernel
theorem dX7_isBeyondRoom_46 : decode cX7_isBeyondRoom 46 = .ok (.iconst 0, 1) := by decide +kernel
theorem dX7_isBeyondRoom_47 : decode cX7_isBeyondRoom 47 = .ok (.ireturn, 1) := by decide +kernel
theorem dX7_isBeyondRoom_48 : decode cX7_isBeyondRoom 48 = .ok (.iload_n 1, 1) := by decide +kernel
theorem dX7_isBeyondRoom_49 : decode cX7_isBeyondRoom 49 = .ok (.tableswitch 106 1 6 #[39, 56, 73, 106, 106, 90], 39) := by decide +kernel
theorem dX7_isBeyondRoom_88 : decode cX7_isBeyondRoom 88 = .ok (.aload_n 0, 1) := by decide +kernel
theorem dX7_isBeyondRoom_89 : decode cX7_isBeyondRoom 89 = .ok (.getfield 26, 3) := by decide +kernel
theorem dX7_isBeyondRoom_92 : decode cX7_isBeyondRoom 92 = .ok (.iload_n 1, 1) := by decide +kernel
theorem dX7_isBeyondRoom_93 : decode cX7_isBeyondRoom 93 = .ok (.iaload, 1) := by decide +kernel
theorem dX7_isBeyondRoom_94 : decode cX7_isBeyondRoom 94 = .ok (.bipush 8, 2) := by decide +kernel
theorem dX7_isBeyondRoom_96 : decode cX7_isBeyondRoom 96 = .ok (.if_icmp .lt 7, 3) := by decide +kernel
theorem dX7_isBeyondRoom_99 : decode cX7_isBeyondRoom 99 = .ok (.iconst 1, 1) := by decide +kernel
theorem dX7_isBeyondRoom_100 : decode cX7_isBeyondRoom 100 = .ok (.goto 4, 3) := by decide +kernel
theorem dX7_isBeyondRoom_103 : decode cX7_isBeyondRoom 103 = .ok (.iconst 0, 1) := by decide +kernel
theorem dX7_isBeyondRoom_104 : decode cX7_isBeyondRoom 104 = .ok (.ireturn, 1) := by decide +kernel
theorem dX7_isBeyondRoom_105 : decode cX7_isBeyondRoom 105 = .ok (.aload_n 0, 1) := by decide +kernel
theorem dX7_isBeyondRoom_106 : decode cX7_isBeyondRoom 106 = .ok (.getfield 26, 3) := by decide +kernel
theorem dX7_isBeyondRoom_109 : decode cX7_isBeyondRoom 109 = .ok (.iload_n 1, 1) := by decide +kernel
theorem dX7_isBeyondRoom_110 : decode cX7_isBeyondRoom 110 = .ok (.iaload, 1) := by decide +kernel
theorem dX7_isBeyondRoom_111 : decode cX7_isBeyondRoom 111 = .ok (.bipush 12, 2) := by decide +kernel
theorem dX7_isBeyondRoom_113 : decode cX7_isBeyondRoom 113 = .ok (.if_icmp .lt 7, 3) := by decide +kernel
theorem dX7_isBeyondRoom_116 : decode cX7_isBeyondRoom 116 = .ok (.iconst 1, 1) := by decide +kernel
theorem dX7_isBeyondRoom_117 : decode cX7_isBeyondRoom 117 = .ok (.goto 4, 3) := by decide +kernel
theorem dX7_isBeyondRoom_120 : decode cX7_isBeyondRoom 120 = .ok (.iconst 0, 1) := by decide +kernel
theorem dX7_isBeyondRoom_121 : decode cX7_isBeyondRoom 121 = .ok (.ireturn, 1) := by decide +kernel
theorem dX7_isBeyondRoom_122 : decode cX7_isBeyondRoom 122 = .ok (.aload_n 0, 1) := by decide +kernel
theorem dX7_isBeyondRoom_123 : decode cX7_isBeyondRoom 123 = .ok (.getfield 26, 3) := by decide +kernel
theorem dX7_isBeyondRoom_126 : decode cX7_isBeyondRoom 126 = .ok (.iload_n 1, 1) := by decide +kernel
theorem dX7_isBeyondRoom_127 : decode cX7_isBeyondRoom 127 = .ok (.iaload, 1) := by decide +kernel
theorem dX7_isBeyondRoom_128 : decode cX7_isBeyondRoom 128 = .ok (.bipush 12, 2) := by decide +kernel
theorem dX7_isBeyondRoom_130 : decode cX7_isBeyondRoom 130 = .ok (.if_icmp .lt 7, 3) := by decide +kernel
theorem dX7_isBeyondRoom_133 : decode cX7_isBeyondRoom 133 = .ok (.iconst 1, 1) := by decide +kernel
theorem dX7_isBeyondRoom_134 : decode cX7_isBeyondRoom 134 = .ok (.goto 4, 3) := by decide +kernel
theorem dX7_isBeyondRoom_137 : decode cX7_isBeyondRoom 137 = .ok (.iconst 0, 1) := by decide +kernel
theorem dX7_isBeyondRoom_138 : decode cX7_isBeyondRoom 138 = .ok (.ireturn, 1) := by decide +kernel
theorem dX7_isBeyondRoom_139 : decode cX7_isBeyondRoom 139 = .ok (.aload_n 0, 1) := by decide +kernel
theorem dX7_isBeyondRoom_140 : decode cX7_isBeyondRoom 140 = .ok (.getfield 26, 3) := by decide +kernel
theorem dX7_isBeyondRoom_143 : decode cX7_isBeyondRoom 143 = .ok (.iload_n 1, 1) := by decide +kernel
theorem dX7_isBeyondRoom_144 : decode cX7_isBeyondRoom 144 = .ok (.iaload, 1) := by decide +kernel
theorem dX7_isBeyondRoom_145 : decode cX7_isBeyondRoom 145 = .ok (.iconst 4, 1) := by decide +kernel
theorem dX7_isBeyondRoom_146 : decode cX7_isBeyondRoom 146 = .ok (.if_icmp .lt 7, 3) := by decide +kernel
theorem dX7_isBeyondRoom_149 : decode cX7_isBeyondRoom 149 = .ok (.iconst 1, 1) := by decide +kernel
theorem dX7_isBeyondRoom_150 : decode cX7_isBeyondRoom 150 = .ok (.goto 4, 3) := by decide +kernel
theorem dX7_isBeyondRoom_153 : decode cX7_isBeyondRoom 153 = .ok (.iconst 0, 1) := by decide +kernel
theorem dX7_isBeyondRoom_154 : decode cX7_isBeyondRoom 154 = .ok (.ireturn, 1) := by decide +kernel
theorem dX7_isBeyondRoom_155 : decode cX7_isBeyondRoom 155 = .ok (.iconst 0, 1) := by decide +kernel
theorem dX7_isBeyondRoom_156 : decode cX7_isBeyondRoom 156 = .ok (.ireturn, 1) := by decide +kernel
theorem dX7_keep_0 : decode cX7_keep 0 = .ok (.aload_n 0, 1) := by decide +kernel
theorem dX7_keep_1 : decode cX7_keep 1 = .ok (.getfield 49, 3) := by decide +kernel
theorem dX7_keep_4 : decode cX7_keep 4 = .ok (.ifCond .lt 23, 3) := by decide +kernel
theorem dX7_keep_7 : decode cX7_keep 7 = .ok (.aload_n 0, 1) := by decide +kernel
theorem dX7_keep_8 : decode cX7_keep 8 = .ok (.getfield 49, 3) := by decide +kernel
theorem dX7_keep_11 : decode cX7_keep 11 = .ok (.sipush 400, 3) := by decide +kernel
theorem dX7_keep_14 : decode cX7_keep 14 = .ok (.if_icmp .ge 13, 3) := by decide +kernel
theorem dX7_keep_17 : decode cX7_keep 17 = .ok (.iload_n 1, 1) := by decide +kernel
theorem dX7_keep_18 : decode cX7_keep 18 = .ok (.ifCond .lt 9, 3) := by decide +kernel
theorem dX7_keep_21 : decode cX7_keep 21 = .ok (.iload_n 1, 1) := by decide +kernel
theorem dX7_keep_22 : decode cX7_keep 22 = .ok (.bipush 13, 2) := by decide +kernel
theorem dX7_keep_24 : decode cX7_keep 24 = .ok (.if_icmp .lt 4, 3) := by decide +kernel
theorem dX7_keep_27 : decode cX7_keep 27 = .ok (.return_, 1) := by decide +kernel
theorem dX7_keep_28 : decode cX7_keep 28 = .ok (.aload_n 0, 1) := by decide +kernel
theorem dX7_keep_29 : decode cX7_keep 29 = .ok (.getfield 15, 3) := by decide +kernel
theorem dX7_keep_32 : decode cX7_keep 32 = .ok (.aload_n 0, 1) := by decide +kernel
theorem dX7_keep_33 : decode cX7_keep 33 = .ok (.getfield 49, 3) := by decide +kernel
theorem dX7_keep_36 : decode cX7_keep 36 = .ok (.iload_n 1, 1) := by decide +kernel
theorem dX7_keep_37 : decode cX7_keep 37 = .ok (.iastore, 1) := by decide +kernel
theorem dX7_keep_38 : decode cX7_keep 38 = .ok (.aload_n 0, 1) := by decide +kernel
theorem dX7_keep_39 : decode cX7_keep 39 = .ok (.getfield 19, 3) := by decide +kernel
theorem dX7_keep_42 : decode cX7_keep 42 = .ok (.aload_n 0, 1) := by decide +kernel
theorem dX7_keep_43 : decode cX7_keep 43 = .ok (.getfield 49, 3) := by decide +kernel
theorem dX7_keep_46 : decode cX7_keep 46 = .ok (.aload_n 0, 1) := by decide +kernel
theorem dX7_keep_47 : decode cX7_keep 47 = .ok (.getfield 29, 3) := by decide +kernel
theorem dX7_keep_50 : decode cX7_keep 50 = .ok (.iastore, 1) := by decide +kernel
theorem dX7_keep_51 : decode cX7_keep 51 = .ok (.aload_n 0, 1) := by decide +kernel
theorem dX7_keep_52 : decode cX7_keep 52 = .ok (.getfield 22, 3) := by decide +kernel
theorem dX7_keep_55 : decode cX7_keep 55 = .ok (.aload_n 0, 1) := by decide +kernel
theorem dX7_keep_56 : decode cX7_keep 56 = .ok (.getfield 49, 3) := by decide +kernel
theorem dX7_keep_59 : decode cX7_keep 59 = .ok (.aload_n 0, 1) := by decide +kernel
theorem dX7_keep_60 : decode cX7_keep 60 = .ok (.getfield 36, 3) := by decide +kernel
theorem dX7_keep_63 : decode cX7_keep 63 = .ok (.lastore, 1) := by decide +kernel
theorem dX7_keep_64 : decode cX7_keep 64 = .ok (.aload_n 0, 1) := by decide +kernel
theorem dX7_keep_65 : decode cX7_keep 65 = .ok (.dup, 1) := by decide +kernel
theorem dX7_keep_66 : decode cX7_keep 66 = .ok (.getfield 49, 3) := by decide +kernel
theorem dX7_keep_69 : decode cX7_keep 69 = .ok (.iconst 1, 1) := by decide +kernel
theorem dX7_keep_70 : decode cX7_keep 70 = .ok (.iadd, 1) := by decide +kernel
theorem dX7_keep_71 : decode cX7_keep 71 = .ok (.putfield 49, 3) := by decide +kernel
theorem dX7_keep_74 : decode cX7_keep 74 = .ok (.aload_n 0, 1) := by decide +kernel
theorem dX7_keep_75 : decode cX7_keep 75 = .ok (.getfield 40, 3) := by decide +kernel
theorem dX7_keep_78 : decode cX7_keep 78 = .ok (.ifCond .ne 26, 3) := by decide +kernel
theorem dX7_keep_81 : decode cX7_keep 81 = .ok (.aload_n 0, 1) := by decide +kernel
theorem dX7_keep_82 : decode cX7_keep 82 = .ok (.iload_n 1, 1) := by decide +kernel
theorem dX7_keep_83 : decode cX7_keep 83 = .ok (.putfield 40, 3) := by decide +kernel
theorem dX7_keep_86 : decode cX7_keep 86 = .ok (.aload_n 0, 1) := by decide +kernel
theorem dX7_keep_87 : decode cX7_keep 87 = .ok (.getfield 26, 3) := by decide +kernel
theorem dX7_keep_90 : decode cX7_keep 90 = .ok (.iload_n 1, 1) := by decide +kernel
theorem dX7_keep_91 : decode cX7_keep 91 = .ok (.dup2, 1) := by decide +kernel
theorem dX7_keep_92 : decode cX7_keep 92 = .ok (.iaload, 1) := by decide +kernel
theorem dX7_keep_93 : decode cX7_keep 93 = .ok (.iconst 1, 1) := by decide +kernel
theorem dX7_keep_94 : decode cX7_keep 94 = .ok (.iadd, 1) := by decide +kernel
theorem dX7_keep_95 : decode cX7_keep 95 = .ok (.iastore, 1) := by decide +kernel
theorem dX7_keep_96 : decode cX7_keep 96 = .ok (.aload_n 0, 1) := by decide +kernel
theorem dX7_keep_97 : decode cX7_keep 97 = .ok (.iconst 1, 1) := by decide +kernel
theorem dX7_keep_98 : decode cX7_keep 98 = .ok (.putfield 43, 3) := by decide +kernel
theorem dX7_keep_101 : decode cX7_keep 101 = .ok (.goto 32, 3) := by decide +kernel
theorem dX7_keep_104 : decode cX7_keep 104 = .ok (.iload_n 1, 1) := by decide +kernel
theorem dX7_keep_105 : decode cX7_keep 105 = .ok (.bipush 11, 2) := by decide +kernel
theorem dX7_keep_107 : decode cX7_keep 107 = .ok (.if_icmp .ne 16, 3) := by decide +kernel
theorem dX7_keep_110 : decode cX7_keep 110 = .ok (.aload_n 0, 1) := by decide +kernel
theorem dX7_keep_111 : decode cX7_keep 111 = .ok (.iconst 0, 1) := by decide +kernel
theorem dX7_keep_112 : decode cX7_keep 112 = .ok (.putfield 40, 3) := by decide +kernel
theorem dX7_keep_115 : decode cX7_keep 115 = .ok (.aload_n 0, 1) := by decide +kernel
theorem dX7_keep_116 : decode cX7_keep 116 = .ok (.iconst 0, 1) := by decide +kernel
theorem dX7_keep_117 : decode cX7_keep 117 = .ok (.putfield 43, 3) := by decide +kernel
theorem dX7_keep_120 : decode cX7_keep 120 = .ok (.goto 13, 3) := by decide +kernel
theorem dX7_keep_123 : decode cX7_keep 123 = .ok (.aload_n 0, 1) := by decide +kernel
theorem dX7_keep_124 : decode cX7_keep 124 = .ok (.dup, 1) := by decide +kernel
theorem dX7_keep_125 : decode cX7_keep 125 = .ok (.getfield 43, 3) := by decide +kernel
theorem dX7_keep_128 : decode cX7_keep 128 = .ok (.iconst 1, 1) := by decide +kernel
theorem dX7_keep_129 : decode cX7_keep 129 = .ok (.iadd, 1) := by decide +kernel
theorem dX7_keep_130 : decode cX7_keep 130 = .ok (.putfield 43, 3) := by decide +kernel
theorem dX7_keep_133 : decode cX7_keep 133 = .ok (.return_, 1) := by decide +kernel
theorem dX7_byteAt_0 : decode cX7_byteAt 0 = .ok (.iload_n 1, 1) := by decide +kernel
theorem dX7_byteAt_1 : decode cX7_byteAt 1 = .ok (.ifCond .lt 31, 3) := by decide +kernel
theorem dX7_byteAt_4 : decode cX7_byteAt 4 = .ok (.iload_n 1, 1) := by decide +kernel
theorem dX7_byteAt_5 : decode cX7_byteAt 5 = .ok (.aload_n 0, 1) := by decide +kernel
theorem dX7_byteAt_6 : decode cX7_byteAt 6 = .ok (.getfield 46, 3) := by decide +kernel
theorem dX7_byteAt_9 : decode cX7_byteAt 9 = .ok (.if_icmp .ge 23, 3) := by decide +kernel
theorem dX7_byteAt_12 : decode cX7_byteAt 12 = .ok (.iload_n 1, 1) := by decide +kernel
theorem dX7_byteAt_13 : decode cX7_byteAt 13 = .ok (.sipush 2000, 3) := by decide +kernel
theorem dX7_byteAt_16 : decode cX7_byteAt 16 = .ok (.if_icmp .ge 16, 3) := by decide +kernel
theorem dX7_byteAt_19 : decode cX7_byteAt 19 = .ok (.aload_n 0, 1) := by decide +kernel
theorem dX7_byteAt_20 : decode cX7_byteAt 20 = .ok (.getfield 11, 3) := by decide +kernel
theorem dX7_byteAt_23 : decode cX7_byteAt 23 = .ok (.iload_n 1, 1) := by decide +kernel
theorem dX7_byteAt_24 : decode cX7_byteAt 24 = .ok (.baload, 1) := by decide +kernel
theorem dX7_byteAt_25 : decode cX7_byteAt 25 = .ok (.sipush 255, 3) := by decide +kernel
theorem dX7_byteAt_28 : decode cX7_byteAt 28 = .ok (.iand, 1) := by decide +kernel
theorem dX7_byteAt_29 : decode cX7_byteAt 29 = .ok (.goto 4, 3) := by decide +kernel
theorem dX7_byteAt_32 : decode cX7_byteAt 32 = .ok (.iconst 0, 1) := by decide +kernel
theorem dX7_byteAt_33 : decode cX7_byteAt 33 = .ok (.ireturn, 1) := by decide +kernel
theorem dX7_isBlank_0 : decode cX7_isBlank 0 = .ok (.iload_n 0, 1) := by decide +kernel
theorem dX7_isBlank_1 : decode cX7_isBlank 1 = .ok (.bipush 9, 2) := by decide +kernel
theorem dX7_isBlank_3 : decode cX7_isBlank 3 = .ok (.if_icmp .eq 21, 3) := by decide +kernel
theorem dX7_isBlank_6 : decode cX7_isBlank 6 = .ok (.iload_n 0, 1) := by decide +kernel
theorem dX7_isBlank_7 : decode cX7_isBlank 7 = .ok (.bipush 10, 2) := by decide +kernel
theorem dX7_isBlank_9 : decode cX7_isBlank 9 = .ok (.if_icmp .eq 15, 3) := by decide +kernel
theorem dX7_isBlank_12 : decode cX7_isBlank 12 = .ok (.iload_n 0, 1) := by decide +kernel
theorem dX7_isBlank_13 : decode cX7_isBlank 13 = .ok (.bipush 13, 2) := by decide +kernel
theorem dX7_isBlank_15 : decode cX7_isBlank 15 = .ok (.if_icmp .eq 9, 3) := by decide +kernel
theorem dX7_isBlank_18 : decode cX7_isBlank 18 = .ok (.iload_n 0, 1) := by decide +kernel
theorem dX7_isBlank_19 : decode cX7_isBlank 19 = .ok (.bipush 32, 2) := by decide +kernel
theorem dX7_isBlank_21 : decode cX7_isBlank 21 = .ok (.if_icmp .ne 7, 3) := by decide +kernel
theorem dX7_isBlank_24 : decode cX7_isBlank 24 = .ok (.iconst 1, 1) := by decide +kernel
theorem dX7_isBlank_25 : decode cX7_isBlank 25 = .ok (.goto 4, 3) := by decide +kernel
theorem dX7_isBlank_28 : decode cX7_isBlank 28 = .ok (.iconst 0, 1) := by decide +kernel
theorem dX7_isBlank_29 : decode cX7_isBlank 29 = .ok (.ireturn, 1) := by decide +kernel
theorem dX7_isLetter_0 : decode cX7_isLetter 0 = .ok (.iload_n 0, 1) := by decide +kernel
theorem dX7_isLetter_1 : decode cX7_isLetter 1 = .ok (.bipush 97, 2) := by decide +kernel
theorem dX7_isLetter_3 : decode cX7_isLetter 3 = .ok (.if_icmp .lt 13, 3) := by decide +kernel
theorem dX7_isLetter_6 : decode cX7_isLetter 6 = .ok (.iload_n 0, 1) := by decide +kernel
theorem dX7_isLetter_7 : decode cX7_isLetter 7 = .ok (.bipush 122, 2) := by decide +kernel
theorem dX7_isLetter_9 : decode cX7_isLetter 9 = .ok (.if_icmp .gt 7, 3) := by decide +kernel
theorem dX7_isLetter_12 : decode cX7_isLetter 12 = .ok (.iconst 1, 1) := by decide +kernel
theorem dX7_isLetter_13 : decode cX7_isLetter 13 = .ok (.goto 4, 3) := by decide +kernel
theorem dX7_isLetter_16 : decode cX7_isLetter 16 = .ok (.iconst 0, 1) := by decide +kernel
theorem dX7_isLetter_17 : decode cX7_isLetter 17 = .ok (.ireturn, 1) := by decide +kernel
theorem dX7_isDigit_0 : decode cX7_isDigit 0 = .ok (.iload_n 0, 1) := by decide +kernel
theorem dX7_isDigit_1 : decode cX7_isDigit 1 = .ok (.bipush 48, 2) := by decide +kernel
theorem dX7_isDigit_3 : decode cX7_isDigit 3 = .ok (.if_icmp .lt 13, 3) := by decide +kernel
theorem dX7_isDigit_6 : decode cX7_isDigit 6 = .ok (.iload_n 0, 1) := by decide +kernel
theorem dX7_isDigit_7 : decode cX7_isDigit 7 = .ok (.bipush 57, 2) := by decide +kernel
theorem dX7_isDigit_9 : decode cX7_isDigit 9 = .ok (.if_icmp .gt 7, 3) := by decide +kernel
theorem dX7_isDigit_12 : decode cX7_isDigit 12 = .ok (.iconst 1, 1) := by decide +kernel
theorem dX7_isDigit_13 : decode cX7_isDigit 13 = .ok (.goto 4, 3) := by decide +kernel
theorem dX7_isDigit_16 : decode cX7_isDigit 16 = .ok (.iconst 0, 1) := by decide +kernel
theorem dX7_isDigit_17 : decode cX7_isDigit 17 = .ok (.ireturn, 1) := by decide +kernel
theorem dX8_init_0 : decode cX8_init 0 = .ok (.aload_n 0, 1) := by decide +kernel
theorem dX8_init_1 : decode cX8_init 1 = .ok (.invokespecial 3, 3) := by decide +kernel
theorem dX8_init_4 : decode cX8_init 4 = .ok (.aload_n 0, 1) := by decide +kernel
theorem dX8_init_5 : decode cX8_init 5 = .ok (.bipush 13, 2) := by decide +kernel
theorem dX8_init_7 : decode cX8_init 7 = .ok (.newarray .int, 2) := by decide +kernel
theorem dX8_init_9 : decode cX8_init 9 = .ok (.putfield 11, 3) := by decide +kernel
theorem dX8_init_12 : decode cX8_init 12 = .ok (.aload_n 0, 1) := by decide +kernel
theorem dX8_init_13 : decode cX8_init 13 = .ok (.bipush 12, 2) := by decide +kernel
theorem dX8_init_15 : decode cX8_init 15 = .ok (.newarray .int, 2) := by decide +kernel
theorem dX8_init_17 : decode cX8_init 17 = .ok (.putfield 15, 3) := by decide +kernel
theorem dX8_init_20 : decode cX8_init 20 = .ok (.aload_n 0, 1) := by decide +kernel
theorem dX8_init_21 : decode cX8_init 21 = .ok (.sipush 8192, 3) := by decide +kernel
theorem dX8_init_24 : decode cX8_init 24 = .ok (.newarray .byte, 2) := by decide +kernel
theorem dX8_init_26 : decode cX8_init 26 = .ok (.putfield 18, 3) := by decide +kernel
theorem dX8_init_29 : decode cX8_init 29 = .ok (.aload_n 0, 1) := by decide +kernel
theorem dX8_init_30 : decode cX8_init 30 = .ok (.iconst 0, 1) := by decide +kernel
theorem dX8_init_31 : decode cX8_init 31 = .ok (.putfield 22, 3) := by decide +kernel
theorem dX8_init_34 : decode cX8_init 34 = .ok (.aload_n 0, 1) := by decide +kernel
theorem dX8_init_35 : decode cX8_init 35 = .ok (.aload_n 1, 1) := by decide +kernel
theorem dX8_init_36 : decode cX8_init 36 = .ok (.putfield 26, 3) := by decide +kernel
theorem dX8_init_39 : decode cX8_init 39 = .ok (.aload_n 0, 1) := by decide +kernel
theorem dX8_init_40 : decode cX8_init 40 = .ok (.aload_n 2, 1) := by decide +kernel
theorem dX8_init_41 : decode cX8_init 41 = .ok (.putfield 30, 3) := by decide +kernel
theorem dX8_init_44 : decode cX8_init 44 = .ok (.aload_n 0, 1) := by decide +kernel
theorem dX8_init_45 : decode cX8_init 45 = .ok (.aload_n 3, 1) := by decide +kernel
theorem dX8_init_46 : decode cX8_init 46 = .ok (.putfield 34, 3) := by decide +kernel
theorem dX8_init_49 : decode cX8_init 49 = .ok (.return_, 1) := by decide +kernel
theorem dX8_fewestTries_0 : decode cX8_fewestTries 0 = .ok (.aload_n 0, 1) := by decide +kernel
theorem dX8_fewestTries_1 : decode cX8_fewestTries 1 = .ok (.getfield 30, 3) := by decide +kernel
theorem dX8_fewestTries_4 : decode cX8_fewestTries 4 = .ok (.invokevirtual 38, 3) := by decide +kernel
theorem dX8_fewestTries_7 : decode cX8_fewestTries 7 = .ok (.aload_n 0, 1) := by decide +kernel
theorem dX8_fewestTries_8 : decode cX8_fewestTries 8 = .ok (.getfield 30, 3) := by decide +kernel
theorem dX8_fewestTries_11 : decode cX8_fewestTries 11 = .ok (.invokevirtual 44, 3) := by decide +kernel
theorem dX8_fewestTries_14 : decode cX8_fewestTries 14 = .ok (.iconst (-1), 1) := by decide +kernel
theorem dX8_fewestTries_15 : decode cX8_fewestTries 15 = .ok (.ixor, 1) := by decide +kernel
theorem dX8_fewestTries_16 : decode cX8_fewestTries 16 = .ok (.iand, 1) := by decide +kernel
theorem dX8_fewestTries_17 : decode cX8_fewestTries 17 = .ok (.istore_n 1, 1) := by decide +kernel
theorem dX8_fewestTries_18 : decode cX8_fewestTries 18 = .ok (.aload_n 0, 1) := by decide +kernel
theorem dX8_fewestTries_19 : decode cX8_fewestTries 19 = .ok (.iload_n 1, 1) := by decide +kernel
theorem dX8_fewestTries_20 : decode cX8_fewestTries 20 = .ok (.invokevirtual 47, 3) := by decide +kernel
theorem dX8_fewestTries_23 : decode cX8_fewestTries 23 = .ok (.iconst 0, 1) := by decide +kernel
theorem dX8_fewestTries_24 : decode cX8_fewestTries 24 = .ok (.istore_n 2, 1) := by decide +kernel
theorem dX8_fewestTries_25 : decode cX8_fewestTries 25 = .ok (.iload_n 2, 1) := by decide +kernel
theorem dX8_fewestTries_26 : decode cX8_fewestTries 26 = .ok (.bipush 12, 2) := by decide +kernel
theorem dX8_fewestTries_28 : decode cX8_fewestTries 28 = .ok (.if_icmp .ge 32, 3) := by decide +kernel
theorem dX8_fewestTries_31 : decode cX8_fewestTries 31 = .ok (.aload_n 0, 1) := by decide +kernel
theorem dX8_fewestTries_32 : decode cX8_fewestTries 32 = .ok (.getfield 15, 3) := by decide +kernel
theorem dX8_fewestTries_35 : decode cX8_fewestTries 35 = .ok (.iload_n 2, 1) := by decide +kernel
theorem dX8_fewestTries_36 : decode cX8_fewestTries 36 = .ok (.iload_n 1, 1) := by decide +kernel
theorem dX8_fewestTries_37 : decode cX8_fewestTries 37 = .ok (.iload_n 2, 1) := by decide +kernel
theorem dX8_fewestTries_38 : decode cX8_fewestTries 38 = .ok (.ishr, 1) := by decide +kernel
theorem dX8_fewestTries_39 : decode cX8_fewestTries 39 = .ok (.iconst 1, 1) := by decide +kernel
theorem dX8_fewestTries_40 : decode cX8_fewestTries 40 = .ok (.iand, 1) := by decide +kernel
theorem dX8_fewestTries_41 : decode cX8_fewestTries 41 = .ok (.ifCond .eq 11, 3) := by decide +kernel
theorem dX8_fewestTries_44 : decode cX8_fewestTries 44 = .ok (.aload_n 0, 1) := by decide +kernel
theorem dX8_fewestTries_45 : decode cX8_fewestTries 45 = .ok (.iload_n 2, 1) := by decide +kernel
theorem dX8_fewestTries_46 : decode cX8_fewestTries 46 = .ok (.invokevirtual 51, 3) := by decide +kernel
theorem dX8_fewestTries_49 : decode cX8_fewestTries 49 = .ok (.goto 4, 3) := by decide +kernel
theorem dX8_fewestTries_52 : decode cX8_fewestTries 52 = .ok (.iconst 0, 1) := by decide +kernel
theorem dX8_fewestTries_53 : decode cX8_fewestTries 53 = .ok (.iastore, 1) := by decide +kernel
theorem dX8_fewestTries_54 : decode cX8_fewestTries 54 = .ok (.iinc 2 1, 3) := by decide +kernel
theorem dX8_fewestTries_57 : decode cX8_fewestTries 57 = .ok (.goto (-32), 3) := by decide +kernel
theorem dX8_fewestTries_60 : decode cX8_fewestTries 60 = .ok (.aload_n 0, 1) := by decide +kernel
theorem dX8_fewestTries_61 : decode cX8_fewestTries 61 = .ok (.getfield 18, 3) := by decide +kernel
theorem dX8_fewestTries_64 : decode cX8_fewestTries 64 = .ok (.iconst (-1), 1) := by decide +kernel
theorem dX8_fewestTries_65 : decode cX8_fewestTries 65 = .ok (.invokestatic 55, 3) := by decide +kernel
theorem dX8_fewestTries_68 : decode cX8_fewestTries 68 = .ok (.aload_n 0, 1) := by decide +kernel
theorem dX8_fewestTries_69 : decode cX8_fewestTries 69 = .ok (.aload_n 0, 1) := by decide +kernel
theorem dX8_fewestTries_70 : decode cX8_fewestTries 70 = .ok (.invokevirtual 61, 3) := by decide +kernel
theorem dX8_fewestTries_73 : decode cX8_fewestTries 73 = .ok (.iconst 0, 1) := by decide +kernel
theorem dX8_fewestTries_74 : decode cX8_fewestTries 74 = .ok (.invokevirtual 64, 3) := by decide +kernel
theorem dX8_fewestTries_77 : decode cX8_fewestTries 77 = .ok (.ireturn, 1) := by decide +kernel
theorem dX8_firstWay_0 : decode cX8_firstWay 0 = .ok (.iconst 0, 1) := by decide +kernel
theorem dX8_firstWay_1 : decode cX8_firstWay 1 = .ok (.istore_n 2, 1) := by decide +kernel
theorem dX8_firstWay_2 : decode cX8_firstWay 2 = .ok (.iload_n 2, 1) := by decide +kernel
theorem dX8_firstWay_3 : decode cX8_firstWay 3 = .ok (.bipush 12, 2) := by decide +kernel
theorem dX8_firstWay_5 : decode cX8_firstWay 5 = .ok (.if_icmp .ge 25, 3) := by decide +kernel
theorem dX8_firstWay_8 : decode cX8_firstWay 8 = .ok (.aload_n 0, 1) := by decide +kernel
theorem dX8_firstWay_9 : decode cX8_firstWay 9 = .ok (.iload_n 2, 1) := by decide +kernel
theorem dX8_firstWay_10 : decode cX8_firstWay 10 = .ok (.aload_n 0, 1) := by decide +kernel
theorem dX8_firstWay_11 : decode cX8_firstWay 11 = .ok (.invokevirtual 61, 3) := by decide +kernel
theorem dX8_firstWay_14 : decode cX8_firstWay 14 = .ok (.iconst 0, 1) := by decide +kernel
theorem dX8_firstWay_15 : decode cX8_firstWay 15 = .ok (.invokevirtual 68, 3) := by decide +kernel
theorem dX8_firstWay_18 : decode cX8_firstWay 18 = .ok (.iload_n 1, 1) := by decide +kernel
theorem dX8_firstWay_19 : decode cX8_firstWay 19 = .ok (.if_icmp .ne 5, 3) := by decide +kernel
theorem dX8_firstWay_22 : decode cX8_firstWay 22 = .ok (.iload_n 2, 1) := by decide +kernel
theorem dX8_firstWay_23 : decode cX8_firstWay 23 = .ok (.ireturn, 1) := by decide +kernel
theorem dX8_firstWay_24 : decode cX8_firstWay 24 = .ok (.iinc 2 1, 3) := by decide +kernel
theorem dX8_firstWay_27 : decode cX8_firstWay 27 = .ok (.goto (-25), 3) := by decide +kernel
theorem dX8_firstWay_30 : decode cX8_firstWay 30 = .ok (.bipush (-2), 2) := by decide +kernel
theorem dX8_firstWay_32 : decode cX8_firstWay 32 = .ok (.ireturn, 1) := by decide +kernel
theorem dX8_allKinds_0 : decode cX8_allKinds 0 = .ok (.iconst 1, 1) := by decide +kernel
theorem dX8_allKinds_1 : decode cX8_allKinds 1 = .ok (.aload_n 0, 1) := by decide +kernel
theorem dX8_allKinds_2 : decode cX8_allKinds 2 = .ok (.getfield 22, 3) := by decide +kernel
theorem dX8_allKinds_5 : decode cX8_allKinds 5 = .ok (.ishl, 1) := by decide +kernel
theorem dX8_allKinds_6 : decode cX8_allKinds 6 = .ok (.iconst 1, 1) := by decide +kernel
theorem dX8_allKinds_7 : decode cX8_allKinds 7 = .ok (.isub, 1) := by decide +kernel
theorem dX8_allKinds_8 : decode cX8_allKinds 8 = .ok (.ireturn, 1) := by decide +kernel
theorem dX8_gatherKinds_0 : decode cX8_gatherKinds 0 = .ok (.aload_n 0, 1) := by decide +kernel
theorem dX8_gatherKinds_1 : decode cX8_gatherKinds 1 = .ok (.getfield 30, 3) := by decide +kernel
theorem dX8_gatherKinds_4 : decode cX8_gatherKinds 4 = .ok (.invokevirtual 44, 3) := by decide +kernel
theorem dX8_gatherKinds_7 : decode cX8_gatherKinds 7 = .ok (.istore_n 2, 1) := by decide +kernel
theorem dX8_gatherKinds_8 : decode cX8_gatherKinds 8 = .ok (.aload_n 0, 1) := by decide +kernel
theorem dX8_gatherKinds_9 : decode cX8_gatherKinds 9 = .ok (.getfield 30, 3) := by decide +kernel
theorem dX8_gatherKinds_12 : decode cX8_gatherKinds 12 = .ok (.invokevirtual 72, 3) := by decide +kernel
theorem dX8_gatherKinds_15 : decode cX8_gatherKinds 15 = .ok (.istore_n 3, 1) := by decide +kernel
theorem dX8_gatherKinds_16 : decode cX8_gatherKinds 16 = .ok (.aload_n 0, 1) := by decide +kernel
theorem dX8_gatherKinds_17 : decode cX8_gatherKinds 17 = .ok (.iconst 0, 1) := by decide +kernel
theorem dX8_gatherKinds_18 : decode cX8_gatherKinds 18 = .ok (.putfield 22, 3) := by decide +kernel
theorem dX8_gatherKinds_21 : decode cX8_gatherKinds 21 = .ok (.aload_n 0, 1) := by decide +kernel
theorem dX8_gatherKinds_22 : decode cX8_gatherKinds 22 = .ok (.getfield 34, 3) := by decide +kernel
theorem dX8_gatherKinds_25 : decode cX8_gatherKinds 25 = .ok (.iconst 0, 1) := by decide +kernel
theorem dX8_gatherKinds_26 : decode cX8_gatherKinds 26 = .ok (.iload_n 2, 1) := by decide +kernel
theorem dX8_gatherKinds_27 : decode cX8_gatherKinds 27 = .ok (.iload_n 3, 1) := by decide +kernel
theorem dX8_gatherKinds_28 : decode cX8_gatherKinds 28 = .ok (.invokevirtual 75, 3) := by decide +kernel
theorem dX8_gatherKinds_31 : decode cX8_gatherKinds 31 = .ok (.ifCond .eq 8, 3) := by decide +kernel
theorem dX8_gatherKinds_34 : decode cX8_gatherKinds 34 = .ok (.aload_n 0, 1) := by decide +kernel
theorem dX8_gatherKinds_35 : decode cX8_gatherKinds 35 = .ok (.iconst 0, 1) := by decide +kernel
theorem dX8_gatherKinds_36 : decode cX8_gatherKinds 36 = .ok (.invokevirtual 81, 3) := by decide +kernel
theorem dX8_gatherKinds_39 : decode cX8_gatherKinds 39 = .ok (.iconst 0, 1) := by decide +kernel
theorem dX8_gatherKinds_40 : decode cX8_gatherKinds 40 = .ok (.istore 4, 2) := by decide +kernel
theorem dX8_gatherKinds_42 : decode cX8_gatherKinds 42 = .ok (.iload 4, 2) := by decide +kernel
theorem dX8_gatherKinds_44 : decode cX8_gatherKinds 44 = .ok (.aload_n 0, 1) := by decide +kernel
theorem dX8_gatherKinds_45 : decode cX8_gatherKinds 45 = .ok (.getfield 26, 3) := by decide +kernel
theorem dX8_gatherKinds_48 : decode cX8_gatherKinds 48 = .ok (.getfield 84, 3) := by decide +kernel
theorem dX8_gatherKinds_51 : decode cX8_gatherKinds 51 = .ok (.if_icmp .ge 42, 3) := by decide +kernel
theorem dX8_gatherKinds_54 : decode cX8_gatherKinds 54 = .ok (.aload_n 0, 1) := by decide +kernel
theorem dX8_gatherKinds_55 : decode cX8_gatherKinds 55 = .ok (.getfield 34, 3) := by decide +kernel
theorem dX8_gatherKinds_58 : decode cX8_gatherKinds 58 = .ok (.iconst 1, 1) := by decide +kernel
theorem dX8_gatherKinds_59 : decode cX8_gatherKinds 59 = .ok (.iload 4, 2) := by decide +kernel
theorem dX8_gatherKinds_61 : decode cX8_gatherKinds 61 = .ok (.ishl, 1) := by decide +kernel
theorem dX8_gatherKinds_62 : decode cX8_gatherKinds 62 = .ok (.iload_n 2, 1) := by decide +kernel
theorem dX8_gatherKinds_63 : decode cX8_gatherKinds 63 = .ok (.iload_n 3, 1) := by decide +kernel
theorem dX8_gatherKinds_64 : decode cX8_gatherKinds 64 = .ok (.invokevirtual 75, 3) := by decide +kernel
theorem dX8_gatherKinds_67 : decode cX8_gatherKinds 67 = .ok (.ifCond .eq 20, 3) := by decide +kernel
theorem dX8_gatherKinds_70 : decode cX8_gatherKinds 70 = .ok (.aload_n 0, 1) := by decide +kernel
theorem dX8_gatherKinds_71 : decode cX8_gatherKinds 71 = .ok (.aload_n 0, 1) := by decide +kernel
theorem dX8_gatherKinds_72 : decode cX8_gatherKinds 72 = .ok (.getfield 34, 3) := by decide +kernel
theorem dX8_gatherKinds_75 : decode cX8_gatherKinds 75 = .ok (.iconst 1, 1) := by decide +kernel
theorem dX8_gatherKinds_76 : decode cX8_gatherKinds 76 = .ok (.iload 4, 2) := by decide +kernel
theorem dX8_gatherKinds_78 : decode cX8_gatherKinds 78 = .ok (.ishl, 1) := by decide +kernel
theorem dX8_gatherKinds_79 : decode cX8_gatherKinds 79 = .ok (.invokevirtual 89, 3) := by decide +kernel
theorem dX8_gatherKinds_82 : decode cX8_gatherKinds 82 = .ok (.iload_n 1, 1) := by decide +kernel
theorem dX8_gatherKinds_83 : decode cX8_gatherKinds 83 = .ok (.iand, 1) := by decide +kernel
theorem dX8_gatherKinds_84 : decode cX8_gatherKinds 84 = .ok (.invokevirtual 81, 3) := by decide +kernel
theorem dX8_gatherKinds_87 : decode cX8_gatherKinds 87 = .ok (.iinc 4 1, 3) := by decide +kernel
theorem dX8_gatherKinds_90 : decode cX8_gatherKinds 90 = .ok (.goto (-48), 3) := by decide +kernel
theorem dX8_gatherKinds_93 : decode cX8_gatherKinds 93 = .ok (.return_, 1) := by decide +kernel
theorem dX8_addKind_0 : decode cX8_addKind 0 = .ok (.iconst 0, 1) := by decide +kernel
theorem dX8_addKind_1 : decode cX8_addKind 1 = .ok (.istore_n 2, 1) := by decide +kernel
theorem dX8_addKind_2 : decode cX8_addKind 2 = .ok (.iload_n 2, 1) := by decide +kernel
theorem dX8_addKind_3 : decode cX8_addKind 3 = .ok (.aload_n 0, 1) := by decide +kernel
theorem dX8_addKind_4 : decode cX8_addKind 4 = .ok (.getfield 22, 3) := by decide +kernel
theorem dX8_addKind_7 : decode cX8_addKind 7 = .ok (.if_icmp .ge 26, 3) := by decide +kernel
theorem dX8_addKind_10 : decode cX8_addKind 10 = .ok (.iload_n 2, 1) := by decide +kernel
theorem dX8_addKind_11 : decode cX8_addKind 11 = .ok (.bipush 13, 2) := by decide +kernel
theorem dX8_addKind_13 : decode cX8_addKind 13 = .ok (.if_icmp .ge 20, 3) := by decide +kernel
theorem dX8_addKind_16 : decode cX8_addKind 16 = .ok (.aload_n 0, 1) := by decide +kernel
theorem dX8_addKind_17 : decode cX8_addKind 17 = .ok (.getfield 11, 3) := by decide +kernel
theorem dX8_addKind_20 : decode cX8_addKind 20 = .ok (.iload_n 2, 1) := by decide +kernel
theorem dX8_addKind_21 : decode cX8_addKind 21 = .ok (.iaload, 1) := by decide +kernel
theorem dX8_addKind_22 : decode cX8_addKind 22 = .ok (.iload_n 1, 1) := by decide +kernel
theorem dX8_addKind_23 : decode cX8_addKind 23 = .ok (.if_icmp .ne 4, 3) := by decide +kernel
theorem dX8_addKind_26 : decode cX8_addKind 26 = .ok (.return_, 1) := by decide +kernel
theorem dX8_addKind_27 : decode cX8_addKind 27 = .ok (.iinc 2 1, 3) := by decide +kernel
theorem dX8_addKind_30 : decode cX8_addKind 30 = .ok (.goto (-28), 3) := by decide +kernel
theorem dX8_addKind_33 : decode cX8_addKind 33 = .ok (.aload_n 0, 1) := by decide +kernel
theorem dX8_addKind_34 : decode cX8_addKind 34 = .ok (.getfield 22, 3) := by decide +kernel
theorem dX8_addKind_37 : decode cX8_addKind 37 = .ok (.ifCond .lt 32, 3) := by decide +kernel
theorem dX8_addKind_40 : decode cX8_addKind 40 = .ok (.aload_n 0, 1) := by decide +kernel
theorem dX8_addKind_41 : decode cX8_addKind 41 = .ok (.getfield 22, 3) := by decide +kernel
theorem dX8_addKind_44 : decode cX8_addKind 44 = .ok (.bipush 13, 2) := by decide +kernel
theorem dX8_addKind_46 : decode cX8_addKind 46 = .ok (.if_icmp .ge 23, 3) := by decide +kernel
theorem dX8_addKind_49 : decode cX8_addKind 49 = .ok (.aload_n 0, 1) := by decide +kernel
theorem dX8_addKind_50 : decode cX8_addKind 50 = .ok (.getfield 11, 3) := by decide +kernel
theorem dX8_addKind_53 : decode cX8_addKind 53 = .ok (.aload_n 0, 1) := by decide +kernel
theorem dX8_addKind_54 : decode cX8_addKind 54 = .ok (.getfield 22, 3) := by decide +kernel
theorem dX8_addKind_57 : decode cX8_addKind 57 = .ok (.iload_n 1, 1) := by decide +kernel
theorem dX8_addKind_58 : decode cX8_addKind 58 = .ok (.iastore, 1) := by decide +kernel
theorem dX8_addKind_59 : decode cX8_addKind 59 = .ok (.aload_n 0, 1) := by decide +kernel
theorem dX8_addKind_60 : decode cX8_addKind 60 = .ok (.dup, 1) := by decide +kernel
theorem dX8_addKind_61 : decode cX8_addKind 61 = .ok (.getfield 22, 3) := by decide +kernel
theorem dX8_addKind_64 : decode cX8_addKind 64 = .ok (.iconst 1, 1) := by decide +kernel
theorem dX8_addKind_65 : decode cX8_addKind 65 = .ok (.iadd, 1) := by decide +kernel
theorem dX8_addKind_66 : decode cX8_addKind 66 = .ok (.putfield 22, 3) := by decide +kernel
theorem dX8_addKind_69 : decode cX8_addKind 69 = .ok (.return_, 1) := by decide +kernel
theorem dX8_kindsWith_0 : decode cX8_kindsWith 0 = .ok (.iconst 0, 1) := by decide +kernel
theorem dX8_kindsWith_1 : decode cX8_kindsWith 1 = .ok (.istore_n 2, 1) := by decide +kernel
theorem dX8_kindsWith_2 : decode cX8_kindsWith 2 = .ok (.iconst 0, 1) := by decide +kernel
theorem dX8_kindsWith_3 : decode cX8_kindsWith 3 = .ok (.istore_n 3, 1) := by decide +kernel
theorem dX8_kindsWith_4 : decode cX8_kindsWith 4 = .ok (.iload_n 3, 1) := by decide +kernel
theorem dX8_kindsWith_5 : decode cX8_kindsWith 5 = .ok (.aload_n 0, 1) := by decide +kernel
theorem dX8_kindsWith_6 : decode cX8_kindsWith 6 = .ok (.getfield 22, 3) := by decide +kernel
theorem dX8_kindsWith_9 : decode cX8_kindsWith 9 = .ok (.if_icmp .ge 30, 3) := by decide +kernel
theorem dX8_kindsWith_12 : decode cX8_kindsWith 12 = .ok (.iload_n 3, 1) := by decide +kernel
theorem dX8_kindsWith_13 : decode cX8_kindsWith 13 = .ok (.bipush 13, 2) := by decide +kernel
theorem dX8_kindsWith_15 : decode cX8_kindsWith 15 = .ok (.if_icmp .ge 24, 3) := by decide +kernel
theorem dX8_kindsWith_18 : decode cX8_kindsWith 18 = .ok (.iload_n 2, 1) := by decide +kernel
theorem dX8_kindsWith_19 : decode cX8_kindsWith 19 = .ok (.aload_n 0, 1) := by decide +kernel
theorem dX8_kindsWith_20 : decode cX8_kindsWith 20 = .ok (.getfield 11, 3) := by decide +kernel
theorem dX8_kindsWith_23 : decode cX8_kindsWith 23 = .ok (.iload_n 3, 1) := by decide +kernel
theorem dX8_kindsWith_24 : decode cX8_kindsWith 24 = .ok (.iaload, 1) := by decide +kernel
theorem dX8_kindsWith_25 : decode cX8_kindsWith 25 = .ok (.iload_n 1, 1) := by decide +kernel
theorem dX8_kindsWith_26 : decode cX8_kindsWith 26 = .ok (.ishr, 1) := by decide +kernel
theorem dX8_kindsWith_27 : decode cX8_kindsWith 27 = .ok (.iconst 1, 1) := by decide +kernel
theorem dX8_kindsWith_28 : decode cX8_kindsWith 28 = .ok (.iand, 1) := by decide +kernel
theorem dX8_kindsWith_29 : decode cX8_kindsWith 29 = .ok (.iload_n 3, 1) := by decide +kernel
theorem dX8_kindsWith_30 : decode cX8_kindsWith 30 = .ok (.ishl, 1) := by decide +kernel
theorem dX8_kindsWith_31 : decode cX8_kindsWith 31 = .ok (.ior, 1) := by decide +kernel
theorem dX8_kindsWith_32 : decode cX8_kindsWith 32 = .ok (.istore_n 2, 1) := by decide +kernel
theorem dX8_kindsWith_33 : decode cX8_kindsWith 33 = .ok (.iinc 3 1, 3) := by decide +kernel
theorem dX8_kindsWith_36 : decode cX8_kindsWith 36 = .ok (.goto (-32), 3) := by decide +kernel
theorem dX8_kindsWith_39 : decode cX8_kindsWith 39 = .ok (.iload_n 2, 1) := by decide +kernel
theorem dX8_kindsWith_40 : decode cX8_kindsWith 40 = .ok (.ireturn, 1) := by decide +kernel
theorem dX8_triesAmong_0 : decode cX8_triesAmong 0 = .ok (.iload_n 1, 1) := by decide +kernel
theorem dX8_triesAmong_1 : decode cX8_triesAmong 1 = .ok (.invokestatic 92, 3) := by decide +kernel
theorem dX8_triesAmong_4 : decode cX8_triesAmong 4 = .ok (.iconst 1, 1) := by decide +kernel
theorem dX8_triesAmong_5 : decode cX8_triesAmong 5 = .ok (.if_icmp .le 22, 3) := by decide +kernel
theorem dX8_triesAmong_8 : decode cX8_triesAmong 8 = .ok (.iload_n 2, 1) := by decide +kernel
theorem dX8_triesAmong_9 : decode cX8_triesAmong 9 = .ok (.bipush 13, 2) := by decide +kernel
theorem dX8_triesAmong_11 : decode cX8_triesAmong 11 = .ok (.if_icmp .gt 16, 3) := by decide +kernel
theorem dX8_triesAmong_14 : decode cX8_triesAmong 14 = .ok (.iload_n 1, 1) := by decide +kernel
theorem dX8_triesAmong_15 : decode cX8_triesAmong 15 = .ok (.ifCond .lt 12, 3) := by decide +kernel
theorem dX8_triesAmong_18 : decode cX8_triesAmong 18 = .ok (.iload_n 1, 1) := by decide +kernel
theorem dX8_triesAmong_19 : decode cX8_triesAmong 19 = .ok (.aload_n 0, 1) := by decide +kernel
theorem dX8_triesAmong_20 : decode cX8_triesAmong 20 = .ok (.getfield 18, 3) := by decide +kernel
theorem dX8_triesAmong_23 : decode cX8_triesAmong 23 = .ok (.arraylength, 1) := by decide +kernel
theorem dX8_triesAmong_24 : decode cX8_triesAmong 24 = .ok (.if_icmp .lt 5, 3) := by decide +kernel
theorem dX8_triesAmong_27 : decode cX8_triesAmong 27 = .ok (.iconst 0, 1) := by decide +kernel
theorem dX8_triesAmong_28 : decode cX8_triesAmong 28 = .ok (.ireturn, 1) := by decide +kernel
theorem dX8_triesAmong_29 : decode cX8_triesAmong 29 = .ok (.aload_n 0, 1) := by decide +kernel
theorem dX8_triesAmong_30 : decode cX8_triesAmong 30 = .ok (.getfield 18, 3) := by decide +kernel
theorem dX8_triesAmong_33 : decode cX8_triesAmong 33 = .ok (.iload_n 1, 1) := by decide +kernel
theorem dX8_triesAmong_34 : decode cX8_triesAmong 34 = .ok (.baload, 1) := by decide +kernel
theorem dX8_triesAmong_35 : decode cX8_triesAmong 35 = .ok (.iconst (-1), 1) := by decide +kernel
theorem dX8_triesAmong_36 : decode cX8_triesAmong 36 = .ok (.if_icmp .eq 10, 3) := by decide +kernel
theorem dX8_triesAmong_39 : decode cX8_triesAmong 39 = .ok (.aload_n 0, 1) := by decide +kernel
theorem dX8_triesAmong_40 : decode cX8_triesAmong 40 = .ok (.getfield 18, 3) := by decide +kernel
theorem dX8_triesAmong_43 : decode cX8_triesAmong 43 = .ok (.iload_n 1, 1) := by decide +kernel
theorem dX8_triesAmong_44 : decode cX8_triesAmong 44 = .ok (.baload, 1) := by decide +kernel
theorem dX8_triesAmong_45 : decode cX8_triesAmong 45 = .ok (.ireturn, 1) := by decide +kernel
theorem dX8_triesAmong_46 : decode cX8_triesAmong 46 = .ok (.bipush 99, 2) := by decide +kernel
theorem dX8_triesAmong_48 : decode cX8_triesAmong 48 = .ok (.istore_n 3, 1) := by decide +kernel
theorem dX8_triesAmong_49 : decode cX8_triesAmong 49 = .ok (.iload_n 1, 1) := by decide +kernel
theorem dX8_triesAmong_50 : decode cX8_triesAmong 50 = .ok (.invokestatic 92, 3) := by decide +kernel
theorem dX8_triesAmong_53 : decode cX8_triesAmong 53 = .ok (.invokestatic 97, 3) := by decide +kernel
theorem dX8_triesAmong_56 : decode cX8_triesAmong 56 = .ok (.istore 4, 2) := by decide +kernel
theorem dX8_triesAmong_58 : decode cX8_triesAmong 58 = .ok (.iconst 0, 1) := by decide +kernel
theorem dX8_triesAmong_59 : decode cX8_triesAmong 59 = .ok (.istore 5, 2) := by decide +kernel
theorem dX8_triesAmong_61 : decode cX8_triesAmong 61 = .ok (.iload 5, 2) := by decide +kernel
theorem dX8_triesAmong_63 : decode cX8_triesAmong 63 = .ok (.bipush 12, 2) := by decide +kernel
theorem dX8_triesAmong_65 : decode cX8_triesAmong 65 = .ok (.if_icmp .ge 28, 3) := by decide +kernel
theorem dX8_triesAmong_68 : decode cX8_triesAmong 68 = .ok (.iload_n 3, 1) := by decide +kernel
theorem dX8_triesAmong_69 : decode cX8_triesAmong 69 = .ok (.iload 4, 2) := by decide +kernel
theorem dX8_triesAmong_71 : decode cX8_triesAmong 71 = .ok (.if_icmp .le 22, 3) := by decide +kernel
theorem dX8_triesAmong_74 : decode cX8_triesAmong 74 = .ok (.iload_n 3, 1) := by decide +kernel
theorem dX8_triesAmong_75 : decode cX8_triesAmong 75 = .ok (.aload_n 0, 1) := by decide +kernel
theorem dX8_triesAmong_76 : decode cX8_triesAmong 76 = .ok (.iload 5, 2) := by decide +kernel
theorem dX8_triesAmong_78 : decode cX8_triesAmong 78 = .ok (.iload_n 1, 1) := by decide +kernel
theorem dX8_triesAmong_79 : decode cX8_triesAmong 79 = .ok (.iload_n 2, 1) := by decide +kernel
theorem dX8_triesAmong_80 : decode cX8_triesAmong 80 = .ok (.invokevirtual 68, 3) := by decide +kernel
theorem dX8_triesAmong_83 : decode cX8_triesAmong 83 = .ok (.invokestatic 100, 3) := by decide +kernel
theorem dX8_triesAmong_86 : decode cX8_triesAmong 86 = .ok (.istore_n 3, 1) := by decide +kernel
theorem dX8_triesAmong_87 : decode cX8_triesAmong 87 = .ok (.iinc 5 1, 3) := by decide +kernel
theorem dX8_triesAmong_90 : decode cX8_triesAmong 90 = .ok (.goto (-29), 3) := by decide +kernel
theorem dX8_triesAmong_93 : decode cX8_triesAmong 93 = .ok (.aload_n 0, 1) := by decide +kernel
theorem dX8_triesAmong_94 : decode cX8_triesAmong 94 = .ok (.getfield 18, 3) := by decide +kernel
theorem dX8_triesAmong_97 : decode cX8_triesAmong 97 = .ok (.iload_n 1, 1) := by decide +kernel
theorem dX8_triesAmong_98 : decode cX8_triesAmong 98 = .ok (.iload_n 3, 1) := by decide +kernel
theorem dX8_triesAmong_99 : decode cX8_triesAmong 99 = .ok (.i2b, 1) := by decide +kernel
theorem dX8_triesAmong_100 : decode cX8_triesAmong 100 = .ok (.bastore, 1) := by decide +kernel
theorem dX8_triesAmong_101 : decode cX8_triesAmong 101 = .ok (.iload_n 3, 1) := by decide +kernel
theorem dX8_triesAmong_102 : decode cX8_triesAmong 102 = .ok (.ireturn, 1) := by decide +kernel
theorem dX8_triesFrom_0 : decode cX8_triesFrom 0 = .ok (.iload_n 1, 1) := by decide +kernel
theorem dX8_triesFrom_1 : decode cX8_triesFrom 1 = .ok (.ifCond .lt 9, 3) := by decide +kernel
theorem dX8_triesFrom_4 : decode cX8_triesFrom 4 = .ok (.iload_n 1, 1) := by decide +kernel
theorem dX8_triesFrom_5 : decode cX8_triesFrom 5 = .ok (.bipush 12, 2) := by decide +kernel
theorem dX8_triesFrom_7 : decode cX8_triesFrom 7 = .ok (.if_icmp .lt 6, 3) := by decide +kernel
theorem dX8_triesFrom_10 : decode cX8_triesFrom 10 = .ok (.bipush 99, 2) := by decide +kernel
theorem dX8_triesFrom_12 : decode cX8_triesFrom 12 = .ok (.ireturn, 1) := by decide +kernel
theorem dX8_triesFrom_13 : decode cX8_triesFrom 13 = .ok (.iload_n 2, 1) := by decide +kernel
theorem dX8_triesFrom_14 : decode cX8_triesFrom 14 = .ok (.aload_n 0, 1) := by decide +kernel
theorem dX8_triesFrom_15 : decode cX8_triesFrom 15 = .ok (.getfield 15, 3) := by decide +kernel
theorem dX8_triesFrom_18 : decode cX8_triesFrom 18 = .ok (.iload_n 1, 1) := by decide +kernel
theorem dX8_triesFrom_19 : decode cX8_triesFrom 19 = .ok (.iaload, 1) := by decide +kernel
theorem dX8_triesFrom_20 : decode cX8_triesFrom 20 = .ok (.iand, 1) := by decide +kernel
theorem dX8_triesFrom_21 : decode cX8_triesFrom 21 = .ok (.istore 4, 2) := by decide +kernel
theorem dX8_triesFrom_23 : decode cX8_triesFrom 23 = .ok (.iload_n 2, 1) := by decide +kernel
theorem dX8_triesFrom_24 : decode cX8_triesFrom 24 = .ok (.aload_n 0, 1) := by decide +kernel
theorem dX8_triesFrom_25 : decode cX8_triesFrom 25 = .ok (.getfield 15, 3) := by decide +kernel
theorem dX8_triesFrom_28 : decode cX8_triesFrom 28 = .ok (.iload_n 1, 1) := by decide +kernel
theorem dX8_triesFrom_29 : decode cX8_triesFrom 29 = .ok (.iaload, 1) := by decide +kernel
theorem dX8_triesFrom_30 : decode cX8_triesFrom 30 = .ok (.iconst (-1), 1) := by decide +kernel
theorem dX8_triesFrom_31 : decode cX8_triesFrom 31 = .ok (.ixor, 1) := by decide +kernel
theorem dX8_triesFrom_32 : decode cX8_triesFrom 32 = .ok (.iand, 1) := by decide +kernel
theorem dX8_triesFrom_33 : decode cX8_triesFrom 33 = .ok (.istore 5, 2) := by decide +kernel
theorem dX8_triesFrom_35 : decode cX8_triesFrom 35 = .ok (.iload 4, 2) := by decide +kernel
theorem dX8_triesFrom_37 : decode cX8_triesFrom 37 = .ok (.ifCond .eq 8, 3) := by decide +kernel
theorem dX8_triesFrom_40 : decode cX8_triesFrom 40 = .ok (.iload 5, 2) := by decide +kernel
theorem dX8_triesFrom_42 : decode cX8_triesFrom 42 = .ok (.ifCond .ne 6, 3) := by decide +kernel
theorem dX8_triesFrom_45 : decode cX8_triesFrom 45 = .ok (.bipush 99, 2) := by decide +kernel
theorem dX8_triesFrom_47 : decode cX8_triesFrom 47 = .ok (.ireturn, 1) := by decide +kernel
theorem dX8_triesFrom_48 : decode cX8_triesFrom 48 = .ok (.iconst 1, 1) := by decide +kernel
theorem dX8_triesFrom_49 : decode cX8_triesFrom 49 = .ok (.aload_n 0, 1) := by decide +kernel
theorem dX8_triesFrom_50 : decode cX8_triesFrom 50 = .ok (.iload 4, 2) := by decide +kernel
theorem dX8_triesFrom_52 : decode cX8_triesFrom 52 = .ok (.iload_n 3, 1) := by decide +kernel
theorem dX8_triesFrom_53 : decode cX8_triesFrom 53 = .ok (.iconst 1, 1) := by decide +kernel
theorem dX8_triesFrom_54 : decode cX8_triesFrom 54 = .ok (.iadd, 1) := by decide +kernel
theorem dX8_triesFrom_55 : decode cX8_triesFrom 55 = .ok (.invokevirtual 64, 3) := by decide +kernel
theorem dX8_triesFrom_58 : decode cX8_triesFrom 58 = .ok (.aload_n 0, 1) := by decide +kernel
theorem dX8_triesFrom_59 : decode cX8_triesFrom 59 = .ok (.iload 5, 2) := by decide +kernel
theorem dX8_triesFrom_61 : decode cX8_triesFrom 61 = .ok (.iload_n 3, 1) := by decide +kernel
theorem dX8_triesFrom_62 : decode cX8_triesFrom 62 = .ok (.iconst 1, 1) := by decide +kernel
theorem dX8_triesFrom_63 : decode cX8_triesFrom 63 = .ok (.iadd, 1) := by decide +kernel
theorem dX8_triesFrom_64 : decode cX8_triesFrom 64 = .ok (.invokevirtual 64, 3) := by decide +kernel
theorem dX8_triesFrom_67 : decode cX8_triesFrom 67 = .ok (.invokestatic 105, 3) := by decide +kernel
theorem dX8_triesFrom_70 : decode cX8_triesFrom 70 = .ok (.iadd, 1) := by decide +kernel
theorem dX8_triesFrom_71 : decode cX8_triesFrom 71 = .ok (.ireturn, 1) := by decide +kernel
theorem dX8_fewestFor_0 : decode cX8_fewestFor 0 = .ok (.iconst 0, 1) := by decide +kernel
theorem dX8_fewestFor_1 : decode cX8_fewestFor 1 = .ok (.istore_n 1, 1) := by decide +kernel
theorem dX8_fewestFor_2 : decode cX8_fewestFor 2 = .ok (.iconst 1, 1) := by decide +kernel
theorem dX8_fewestFor_3 : decode cX8_fewestFor 3 = .ok (.istore_n 2, 1) := by decide +kernel
theorem dX8_fewestFor_4 : decode cX8_fewestFor 4 = .ok (.iload_n 2, 1) := by decide +kernel
theorem dX8_fewestFor_5 : decode cX8_fewestFor 5 = .ok (.iload_n 0, 1) := by decide +kernel
theorem dX8_fewestFor_6 : decode cX8_fewestFor 6 = .ok (.if_icmp .ge 19, 3) := by decide +kernel
theorem dX8_fewestFor_9 : decode cX8_fewestFor 9 = .ok (.iload_n 1, 1) := by decide +kernel
theorem dX8_fewestFor_10 : decode cX8_fewestFor 10 = .ok (.bipush 13, 2) := by decide +kernel
theorem dX8_fewestFor_12 : decode cX8_fewestFor 12 = .ok (.if_icmp .ge 13, 3) := by decide +kernel
theorem dX8_fewestFor_15 : decode cX8_fewestFor 15 = .ok (.iinc 1 1, 3) := by decide +kernel
theorem dX8_fewestFor_18 : decode cX8_fewestFor 18 = .ok (.iload_n 2, 1) := by decide +kernel
theorem dX8_fewestFor_19 : decode cX8_fewestFor 19 = .ok (.iconst 2, 1) := by decide +kernel
theorem dX8_fewestFor_20 : decode cX8_fewestFor 20 = .ok (.imul, 1) := by decide +kernel
theorem dX8_fewestFor_21 : decode cX8_fewestFor 21 = .ok (.istore_n 2, 1) := by decide +kernel
theorem dX8_fewestFor_22 : decode cX8_fewestFor 22 = .ok (.goto (-18), 3) := by decide +kernel
theorem dX8_fewestFor_25 : decode cX8_fewestFor 25 = .ok (.iload_n 1, 1) := by decide +kernel
theorem dX8_fewestFor_26 : decode cX8_fewestFor 26 = .ok (.ireturn, 1) := by decide +kernel
theorem dX9_init_0 : decode cX9_init 0 = .ok (.aload_n 0, 1) := by decide +kernel
theorem dX9_init_1 : decode cX9_init 1 = .ok (.invokespecial 3, 3) := by decide +kernel
theorem dX9_init_4 : decode cX9_init 4 = .ok (.aload_n 0, 1) := by decide +kernel
theorem dX9_init_5 : decode cX9_init 5 = .ok (.sipush 4096, 3) := by decide +kernel
theorem dX9_init_8 : decode cX9_init 8 = .ok (.newarray .byte, 2) := by decide +kernel
theorem dX9_init_10 : decode cX9_init 10 = .ok (.putfield 9, 3) := by decide +kernel
theorem dX9_init_13 : decode cX9_init 13 = .ok (.aload_n 0, 1) := by decide +kernel
theorem dX9_init_14 : decode cX9_init 14 = .ok (.iconst 0, 1) := by decide +kernel
theorem dX9_init_15 : decode cX9_init 15 = .ok (.putfield 15, 3) := by decide +kernel
theorem dX9_init_18 : decode cX9_init 18 = .ok (.aload_n 0, 1) := by decide +kernel
theorem dX9_init_19 : decode cX9_init 19 = .ok (.iconst 0, 1) := by decide +kernel
theorem dX9_init_20 : decode cX9_init 20 = .ok (.putfield 19, 3) := by decide +kernel
theorem dX9_init_23 : decode cX9_init 23 = .ok (.aload_n 0, 1) := by decide +kernel
theorem dX9_init_24 : decode cX9_init 24 = .ok (.iconst 0, 1) := by decide +kernel
theorem dX9_init_25 : decode cX9_init 25 = .ok (.putfield 22, 3) := by decide +kernel
theorem dX9_init_28 : decode cX9_init 28 = .ok (.aload_n 0, 1) := by decide +kernel
theorem dX9_init_29 : decode cX9_init 29 = .ok (.aload_n 1, 1) := by decide +kernel
theorem dX9_init_30 : decode cX9_init 30 = .ok (.putfield 25, 3) := by decide +kernel
theorem dX9_init_33 : decode cX9_init 33 = .ok (.aload_n 0, 1) := by decide +kernel
theorem dX9_init_34 : decode cX9_init 34 = .ok (.aload_n 2, 1) := by decide +kernel
theorem dX9_init_35 : decode cX9_init 35 = .ok (.putfield 29, 3) := by decide +kernel
theorem dX9_init_38 : decode cX9_init 38 = .ok (.aload_n 0, 1) := by decide +kernel
theorem dX9_init_39 : decode cX9_init 39 = .ok (.aload_n 3, 1) := by decide +kernel
theorem dX9_init_40 : decode cX9_init 40 = .ok (.putfield 33, 3) := by decide +kernel
theorem dX9_init_43 : decode cX9_init 43 = .ok (.return_, 1) := by decide +kernel
theorem dX9_contradicted_0 : decode cX9_contradicted 0 = .ok (.aload_n 0, 1) := by decide +kernel
theorem dX9_contradicted_1 : decode cX9_contradicted 1 = .ok (.getfield 33, 3) := by decide +kernel
theorem dX9_contradicted_4 : decode cX9_contradicted 4 = .ok (.iload_n 1, 1) := by decide +kernel
theorem dX9_contradicted_5 : decode cX9_contradicted 5 = .ok (.invokevirtual 37, 3) := by decide +kernel
theorem dX9_contradicted_8 : decode cX9_contradicted 8 = .ok (.iload_n 3, 1) := by decide +kernel
theorem dX9_contradicted_9 : decode cX9_contradicted 9 = .ok (.ixor, 1) := by decide +kernel
theorem dX9_contradicted_10 : decode cX9_contradicted 10 = .ok (.iload_n 2, 1) := by decide +kernel
theorem dX9_contradicted_11 : decode cX9_contradicted 11 = .ok (.iand, 1) := by decide +kernel
theorem dX9_contradicted_12 : decode cX9_contradicted 12 = .ok (.ireturn, 1) := by decide +kernel
theorem dX9_findCheapest_0 : decode cX9_findCheapest 0 = .ok (.aload_n 0, 1) := by decide +kernel
theorem dX9_findCheapest_1 : decode cX9_findCheapest 1 = .ok (.getfield 29, 3) := by decide +kernel
theorem dX9_findCheapest_4 : decode cX9_findCheapest 4 = .ok (.invokevirtual 43, 3) := by decide +kernel
theorem dX9_findCheapest_7 : decode cX9_findCheapest 7 = .ok (.istore_n 1, 1) := by decide +kernel
theorem dX9_findCheapest_8 : decode cX9_findCheapest 8 = .ok (.aload_n 0, 1) := by decide +kernel
theorem dX9_findCheapest_9 : decode cX9_findCheapest 9 = .ok (.getfield 29, 3) := by decide +kernel
theorem dX9_findCheapest_12 : decode cX9_findCheapest 12 = .ok (.invokevirtual 49, 3) := by decide +kernel
theorem dX9_findCheapest_15 : decode cX9_findCheapest 15 = .ok (.istore_n 2, 1) := by decide +kernel
theorem dX9_findCheapest_16 : decode cX9_findCheapest 16 = .ok (.aload_n 0, 1) := by decide +kernel
theorem dX9_findCheapest_17 : decode cX9_findCheapest 17 = .ok (.iconst 0, 1) := by decide +kernel
theorem dX9_findCheapest_18 : decode cX9_findCheapest 18 = .ok (.putfield 15, 3) := by decide +kernel
theorem dX9_findCheapest_21 : decode cX9_findCheapest 21 = .ok (.aload_n 0, 1) := by decide +kernel
theorem dX9_findCheapest_22 : decode cX9_findCheapest 22 = .ok (.ldc 52, 2) := by decide +kernel
theorem dX9_findCheapest_24 : decode cX9_findCheapest 24 = .ok (.putfield 19, 3) := by decide +kernel
theorem dX9_findCheapest_27 : decode cX9_findCheapest 27 = .ok (.aload_n 0, 1) := by decide +kernel
theorem dX9_findCheapest_28 : decode cX9_findCheapest 28 = .ok (.iconst 0, 1) := by decide +kernel
theorem dX9_findCheapest_29 : decode cX9_findCheapest 29 = .ok (.putfield 22, 3) := by decide +kernel
theorem dX9_findCheapest_32 : decode cX9_findCheapest 32 = .ok (.iconst 0, 1) := by decide +kernel
theorem dX9_findCheapest_33 : decode cX9_findCheapest 33 = .ok (.istore_n 3, 1) := by decide +kernel
theorem dX9_findCheapest_34 : decode cX9_findCheapest 34 = .ok (.aload_n 0, 1) := by decide +kernel
theorem dX9_findCheapest_35 : decode cX9_findCheapest 35 = .ok (.getfield 33, 3) := by decide +kernel
theorem dX9_findCheapest_38 : decode cX9_findCheapest 38 = .ok (.invokevirtual 53, 3) := by decide +kernel
theorem dX9_findCheapest_41 : decode cX9_findCheapest 41 = .ok (.istore 4, 2) := by decide +kernel
theorem dX9_findCheapest_43 : decode cX9_findCheapest 43 = .ok (.iload_n 3, 1) := by decide +kernel
theorem dX9_findCheapest_44 : decode cX9_findCheapest 44 = .ok (.iload 4, 2) := by decide +kernel
theorem dX9_findCheapest_46 : decode cX9_findCheapest 46 = .ok (.if_icmp .ge 108, 3) := by decide +kernel
theorem dX9_findCheapest_49 : decode cX9_findCheapest 49 = .ok (.aload_n 0, 1) := by decide +kernel
theorem dX9_findCheapest_50 : decode cX9_findCheapest 50 = .ok (.iload_n 3, 1) := by decide +kernel
theorem dX9_findCheapest_51 : decode cX9_findCheapest 51 = .ok (.iload_n 1, 1) := by decide +kernel
theorem dX9_findCheapest_52 : decode cX9_findCheapest 52 = .ok (.iload_n 2, 1) := by decide +kernel
theorem dX9_findCheapest_53 : decode cX9_findCheapest 53 = .ok (.invokevirtual 56, 3) := by decide +kernel
theorem dX9_findCheapest_56 : decode cX9_findCheapest 56 = .ok (.invokestatic 60, 3) := by decide +kernel
theorem dX9_findCheapest_59 : decode cX9_findCheapest 59 = .ok (.istore 5, 2) := by decide +kernel
theorem dX9_findCheapest_61 : decode cX9_findCheapest 61 = .ok (.aload_n 0, 1) := by decide +kernel
theorem dX9_findCheapest_62 : decode cX9_findCheapest 62 = .ok (.getfield 33, 3) := by decide +kernel
theorem dX9_findCheapest_65 : decode cX9_findCheapest 65 = .ok (.iload_n 3, 1) := by decide +kernel
theorem dX9_findCheapest_66 : decode cX9_findCheapest 66 = .ok (.invokevirtual 65, 3) := by decide +kernel
theorem dX9_findCheapest_69 : decode cX9_findCheapest 69 = .ok (.aload_n 0, 1) := by decide +kernel
theorem dX9_findCheapest_70 : decode cX9_findCheapest 70 = .ok (.getfield 25, 3) := by decide +kernel
theorem dX9_findCheapest_73 : decode cX9_findCheapest 73 = .ok (.getfield 68, 3) := by decide +kernel
theorem dX9_findCheapest_76 : decode cX9_findCheapest 76 = .ok (.iload 5, 2) := by decide +kernel
theorem dX9_findCheapest_78 : decode cX9_findCheapest 78 = .ok (.imul, 1) := by decide +kernel
theorem dX9_findCheapest_79 : decode cX9_findCheapest 79 = .ok (.iadd, 1) := by decide +kernel
theorem dX9_findCheapest_80 : decode cX9_findCheapest 80 = .ok (.istore 6, 2) := by decide +kernel
theorem dX9_findCheapest_82 : decode cX9_findCheapest 82 = .ok (.iload 6, 2) := by decide +kernel
theorem dX9_findCheapest_84 : decode cX9_findCheapest 84 = .ok (.aload_n 0, 1) := by decide +kernel
theorem dX9_findCheapest_85 : decode cX9_findCheapest 85 = .ok (.getfield 19, 3) := by decide +kernel
theorem dX9_findCheapest_88 : decode cX9_findCheapest 88 = .ok (.if_icmp .ge 22, 3) := by decide +kernel
theorem dX9_findCheapest_91 : decode cX9_findCheapest 91 = .ok (.aload_n 0, 1) := by decide +kernel
theorem dX9_findCheapest_92 : decode cX9_findCheapest 92 = .ok (.iload 6, 2) := by decide +kernel
theorem dX9_findCheapest_94 : decode cX9_findCheapest 94 = .ok (.putfield 19, 3) := by decide +kernel
theorem dX9_findCheapest_97 : decode cX9_findCheapest 97 = .ok (.aload_n 0, 1) := by decide +kernel
theorem dX9_findCheapest_98 : decode cX9_findCheapest 98 = .ok (.iload_n 3, 1) := by decide +kernel
theorem dX9_findCheapest_99 : decode cX9_findCheapest 99 = .ok (.putfield 15, 3) := by decide +kernel
theorem dX9_findCheapest_102 : decode cX9_findCheapest 102 = .ok (.aload_n 0, 1) := by decide +kernel
theorem dX9_findCheapest_103 : decode cX9_findCheapest 103 = .ok (.iconst 1, 1) := by decide +kernel
theorem dX9_findCheapest_104 : decode cX9_findCheapest 104 = .ok (.putfield 22, 3) := by decide +kernel
theorem dX9_findCheapest_107 : decode cX9_findCheapest 107 = .ok (.goto 41, 3) := by decide +kernel
theorem dX9_findCheapest_110 : decode cX9_findCheapest 110 = .ok (.iload 6, 2) := by decide +kernel
theorem dX9_findCheapest_112 : decode cX9_findCheapest 112 = .ok (.aload_n 0, 1) := by decide +kernel
theorem dX9_findCheapest_113 : decode cX9_findCheapest 113 = .ok (.getfield 19, 3) := by decide +kernel
theorem dX9_findCheapest_116 : decode cX9_findCheapest 116 = .ok (.if_icmp .ne 32, 3) := by decide +kernel
theorem dX9_findCheapest_119 : decode cX9_findCheapest 119 = .ok (.aload_n 0, 1) := by decide +kernel
theorem dX9_findCheapest_120 : decode cX9_findCheapest 120 = .ok (.dup, 1) := by decide +kernel
theorem dX9_findCheapest_121 : decode cX9_findCheapest 121 = .ok (.getfield 22, 3) := by decide +kernel
theorem dX9_findCheapest_124 : decode cX9_findCheapest 124 = .ok (.iconst 1, 1) := by decide +kernel
theorem dX9_findCheapest_125 : decode cX9_findCheapest 125 = .ok (.iadd, 1) := by decide +kernel
theorem dX9_findCheapest_126 : decode cX9_findCheapest 126 = .ok (.putfield 22, 3) := by decide +kernel
theorem dX9_findCheapest_129 : decode cX9_findCheapest 129 = .ok (.iload_n 3, 1) := by decide +kernel
theorem dX9_findCheapest_130 : decode cX9_findCheapest 130 = .ok (.invokestatic 60, 3) := by decide +kernel
theorem dX9_findCheapest_133 : decode cX9_findCheapest 133 = .ok (.aload_n 0, 1) := by decide +kernel
theorem dX9_findCheapest_134 : decode cX9_findCheapest 134 = .ok (.getfield 15, 3) := by decide +kernel
theorem dX9_findCheapest_137 : decode cX9_findCheapest 137 = .ok (.invokestatic 60, 3) := by decide +kernel
theorem dX9_findCheapest_140 : decode cX9_findCheapest 140 = .ok (.if_icmp .ge 8, 3) := by decide +kernel
theorem dX9_findCheapest_143 : decode cX9_findCheapest 143 = .ok (.aload_n 0, 1) := by decide +kernel
theorem dX9_findCheapest_144 : decode cX9_findCheapest 144 = .ok (.iload_n 3, 1) := by decide +kernel
theorem dX9_findCheapest_145 : decode cX9_findCheapest 145 = .ok (.putfield 15, 3) := by decide +kernel
theorem dX9_findCheapest_148 : decode cX9_findCheapest 148 = .ok (.iinc 3 1, 3) := by decide +kernel
theorem dX9_findCheapest_151 : decode cX9_findCheapest 151 = .ok (.goto (-108), 3) := by decide +kernel
theorem dX9_findCheapest_154 : decode cX9_findCheapest 154 = .ok (.return_, 1) := by decide +kernel
theorem dX9_fewestWrong_0 : decode cX9_fewestWrong 0 = .ok (.aload_n 0, 1) := by decide +kernel
theorem dX9_fewestWrong_1 : decode cX9_fewestWrong 1 = .ok (.getfield 29, 3) := by decide +kernel
theorem dX9_fewestWrong_4 : decode cX9_fewestWrong 4 = .ok (.invokevirtual 43, 3) := by decide +kernel
theorem dX9_fewestWrong_7 : decode cX9_fewestWrong 7 = .ok (.istore_n 1, 1) := by decide +kernel
theorem dX9_fewestWrong_8 : decode cX9_fewestWrong 8 = .ok (.aload_n 0, 1) := by decide +kernel
theorem dX9_fewestWrong_9 : decode cX9_fewestWrong 9 = .ok (.getfield 29, 3) := by decide +kernel
theorem dX9_fewestWrong_12 : decode cX9_fewestWrong 12 = .ok (.invokevirtual 49, 3) := by decide +kernel
theorem dX9_fewestWrong_15 : decode cX9_fewestWrong 15 = .ok (.istore_n 2, 1) := by decide +kernel
theorem dX9_fewestWrong_16 : decode cX9_fewestWrong 16 = .ok (.iload_n 1, 1) := by decide +kernel
theorem dX9_fewestWrong_17 : decode cX9_fewestWrong 17 = .ok (.istore_n 3, 1) := by decide +kernel
theorem dX9_fewestWrong_18 : decode cX9_fewestWrong 18 = .ok (.iconst 0, 1) := by decide +kernel
theorem dX9_fewestWrong_19 : decode cX9_fewestWrong 19 = .ok (.istore 4, 2) := by decide +kernel
theorem dX9_fewestWrong_21 : decode cX9_fewestWrong 21 = .ok (.aload_n 0, 1) := by decide +kernel
theorem dX9_fewestWrong_22 : decode cX9_fewestWrong 22 = .ok (.getfield 33, 3) := by decide +kernel
theorem dX9_fewestWrong_25 : decode cX9_fewestWrong 25 = .ok (.invokevirtual 53, 3) := by decide +kernel
theorem dX9_fewestWrong_28 : decode cX9_fewestWrong 28 = .ok (.istore 5, 2) := by decide +kernel
theorem dX9_fewestWrong_30 : decode cX9_fewestWrong 30 = .ok (.iload 4, 2) := by decide +kernel
theorem dX9_fewestWrong_32 : decode cX9_fewestWrong 32 = .ok (.iload 5, 2) := by decide +kernel
theorem dX9_fewestWrong_34 : decode cX9_fewestWrong 34 = .ok (.if_icmp .ge 31, 3) := by decide +kernel
theorem dX9_fewestWrong_37 : decode cX9_fewestWrong 37 = .ok (.aload_n 0, 1) := by decide +kernel
theorem dX9_fewestWrong_38 : decode cX9_fewestWrong 38 = .ok (.iload 4, 2) := by decide +kernel
theorem dX9_fewestWrong_40 : decode cX9_fewestWrong 40 = .ok (.iload_n 1, 1) := by decide +kernel
theorem dX9_fewestWrong_41 : decode cX9_fewestWrong 41 = .ok (.iload_n 2, 1) := by decide +kernel
theorem dX9_fewestWrong_42 : decode cX9_fewestWrong 42 = .ok (.invokevirtual 56, 3) := by decide +kernel
theorem dX9_fewestWrong_45 : decode cX9_fewestWrong 45 = .ok (.istore 6, 2) := by decide +kernel
theorem dX9_fewestWrong_47 : decode cX9_fewestWrong 47 = .ok (.iload 6, 2) := by decide +kernel
theorem dX9_fewestWrong_49 : decode cX9_fewestWrong 49 = .ok (.iload_n 3, 1) := by decide +kernel
theorem dX9_fewestWrong_50 : decode cX9_fewestWrong 50 = .ok (.invokestatic 73, 3) := by decide +kernel
theorem dX9_fewestWrong_53 : decode cX9_fewestWrong 53 = .ok (.ifCond .eq 6, 3) := by decide +kernel
theorem dX9_fewestWrong_56 : decode cX9_fewestWrong 56 = .ok (.iload 6, 2) := by decide +kernel
theorem dX9_fewestWrong_58 : decode cX9_fewestWrong 58 = .ok (.istore_n 3, 1) := by decide +kernel
theorem dX9_fewestWrong_59 : decode cX9_fewestWrong 59 = .ok (.iinc 4 1, 3) := by decide +kernel
theorem dX9_fewestWrong_62 : decode cX9_fewestWrong 62 = .ok (.goto (-32), 3) := by decide +kernel
theorem dX9_fewestWrong_65 : decode cX9_fewestWrong 65 = .ok (.iload_n 3, 1) := by decide +kernel
theorem dX9_fewestWrong_66 : decode cX9_fewestWrong 66 = .ok (.ireturn, 1) := by decide +kernel
theorem dX9_countFewestWrong_0 : decode cX9_countFewestWrong 0 = .ok (.aload_n 0, 1) := by decide +kernel
theorem dX9_countFewestWrong_1 : decode cX9_countFewestWrong 1 = .ok (.invokevirtual 77, 3) := by decide +kernel
theorem dX9_countFewestWrong_4 : decode cX9_countFewestWrong 4 = .ok (.invokestatic 60, 3) := by decide +kernel
theorem dX9_countFewestWrong_7 : decode cX9_countFewestWrong 7 = .ok (.istore_n 2, 1) := by decide +kernel
theorem dX9_countFewestWrong_8 : decode cX9_countFewestWrong 8 = .ok (.aload_n 0, 1) := by decide +kernel
theorem dX9_countFewestWrong_9 : decode cX9_countFewestWrong 9 = .ok (.getfield 29, 3) := by decide +kernel
theorem dX9_countFewestWrong_12 : decode cX9_countFewestWrong 12 = .ok (.invokevirtual 43, 3) := by decide +kernel
theorem dX9_countFewestWrong_15 : decode cX9_countFewestWrong 15 = .ok (.istore_n 3, 1) := by decide +kernel
theorem dX9_countFewestWrong_16 : decode cX9_countFewestWrong 16 = .ok (.aload_n 0, 1) := by decide +kernel
theorem dX9_countFewestWrong_17 : decode cX9_countFewestWrong 17 = .ok (.getfield 29, 3) := by decide +kernel
theorem dX9_countFewestWrong_20 : decode cX9_countFewestWrong 20 = .ok (.invokevirtual 49, 3) := by decide +kernel
theorem dX9_countFewestWrong_23 : decode cX9_countFewestWrong 23 = .ok (.istore 4, 2) := by decide +kernel
theorem dX9_countFewestWrong_25 : decode cX9_countFewestWrong 25 = .ok (.iconst 0, 1) := by decide +kernel
theorem dX9_countFewestWrong_26 : decode cX9_countFewestWrong 26 = .ok (.istore 5, 2) := by decide +kernel
theorem dX9_countFewestWrong_28 : decode cX9_countFewestWrong 28 = .ok (.aload_n 0, 1) := by decide +kernel
theorem dX9_countFewestWrong_29 : decode cX9_countFewestWrong 29 = .ok (.getfield 9, 3) := by decide +kernel
theorem dX9_countFewestWrong_32 : decode cX9_countFewestWrong 32 = .ok (.iconst 0, 1) := by decide +kernel
theorem dX9_countFewestWrong_33 : decode cX9_countFewestWrong 33 = .ok (.invokestatic 80, 3) := by decide +kernel
theorem dX9_countFewestWrong_36 : decode cX9_countFewestWrong 36 = .ok (.iconst 0, 1) := by decide +kernel
theorem dX9_countFewestWrong_37 : decode cX9_countFewestWrong 37 = .ok (.istore 6, 2) := by decide +kernel
theorem dX9_countFewestWrong_39 : decode cX9_countFewestWrong 39 = .ok (.aload_n 0, 1) := by decide +kernel
theorem dX9_countFewestWrong_40 : decode cX9_countFewestWrong 40 = .ok (.getfield 33, 3) := by decide +kernel
theorem dX9_countFewestWrong_43 : decode cX9_countFewestWrong 43 = .ok (.invokevirtual 53, 3) := by decide +kernel
theorem dX9_countFewestWrong_46 : decode cX9_countFewestWrong 46 = .ok (.istore 7, 2) := by decide +kernel
theorem dX9_countFewestWrong_48 : decode cX9_countFewestWrong 48 = .ok (.iload 6, 2) := by decide +kernel
theorem dX9_countFewestWrong_50 : decode cX9_countFewestWrong 50 = .ok (.iload 7, 2) := by decide +kernel
theorem dX9_countFewestWrong_52 : decode cX9_countFewestWrong 52 = .ok (.if_icmp .ge 74, 3) := by decide +kernel
theorem dX9_countFewestWrong_55 : decode cX9_countFewestWrong 55 = .ok (.aload_n 0, 1) := by decide +kernel
theorem dX9_countFewestWrong_56 : decode cX9_countFewestWrong 56 = .ok (.iload 6, 2) := by decide +kernel
theorem dX9_countFewestWrong_58 : decode cX9_countFewestWrong 58 = .ok (.iload_n 3, 1) := by decide +kernel
theorem dX9_countFewestWrong_59 : decode cX9_countFewestWrong 59 = .ok (.iload 4, 2) := by decide +kernel
theorem dX9_countFewestWrong_61 : decode cX9_countFewestWrong 61 = .ok (.invokevirtual 56, 3) := by decide +kernel
theorem dX9_countFewestWrong_64 : decode cX9_countFewestWrong 64 = .ok (.istore 8, 2) := by decide +kernel
theorem dX9_countFewestWrong_66 : decode cX9_countFewestWrong 66 = .ok (.iload 8, 2) := by decide +kernel
theorem dX9_countFewestWrong_68 : decode cX9_countFewestWrong 68 = .ok (.ifCond .lt 52, 3) := by decide +kernel
theorem dX9_countFewestWrong_71 : decode cX9_countFewestWrong 71 = .ok (.iload 8, 2) := by decide +kernel
theorem dX9_countFewestWrong_73 : decode cX9_countFewestWrong 73 = .ok (.sipush 4096, 3) := by decide +kernel
theorem dX9_countFewestWrong_76 : decode cX9_countFewestWrong 76 = .ok (.if_icmp .ge 44, 3) := by decide +kernel
theorem dX9_countFewestWrong_79 : decode cX9_countFewestWrong 79 = .ok (.aload_n 0, 1) := by decide +kernel
theorem dX9_countFewestWrong_80 : decode cX9_countFewestWrong 80 = .ok (.getfield 9, 3) := by decide +kernel
theorem dX9_countFewestWrong_83 : decode cX9_countFewestWrong 83 = .ok (.iload 8, 2) := by decide +kernel
theorem dX9_countFewestWrong_85 : decode cX9_countFewestWrong 85 = .ok (.baload, 1) := by decide +kernel
theorem dX9_countFewestWrong_86 : decode cX9_countFewestWrong 86 = .ok (.ifCond .eq 6, 3) := by decide +kernel
theorem dX9_countFewestWrong_89 : decode cX9_countFewestWrong 89 = .ok (.goto 31, 3) := by decide +kernel
theorem dX9_countFewestWrong_92 : decode cX9_countFewestWrong 92 = .ok (.aload_n 0, 1) := by decide +kernel
theorem dX9_countFewestWrong_93 : decode cX9_countFewestWrong 93 = .ok (.getfield 9, 3) := by decide +kernel
theorem dX9_countFewestWrong_96 : decode cX9_countFewestWrong 96 = .ok (.iload 8, 2) := by decide +kernel
theorem dX9_countFewestWrong_98 : decode cX9_countFewestWrong 98 = .ok (.iconst 1, 1) := by decide +kernel
theorem dX9_countFewestWrong_99 : decode cX9_countFewestWrong 99 = .ok (.bastore, 1) := by decide +kernel
theorem dX9_countFewestWrong_100 : decode cX9_countFewestWrong 100 = .ok (.iload 8, 2) := by decide +kernel
theorem dX9_countFewestWrong_102 : decode cX9_countFewestWrong 102 = .ok (.invokestatic 60, 3) := by decide +kernel
theorem dX9_countFewestWrong_105 : decode cX9_countFewestWrong 105 = .ok (.iload_n 2, 1) := by decide +kernel
theorem dX9_countFewestWrong_106 : decode cX9_countFewestWrong 106 = .ok (.if_icmp .ne 14, 3) := by decide +kernel
theorem dX9_countFewestWrong_109 : decode cX9_countFewestWrong 109 = .ok (.iload 8, 2) := by decide +kernel
theorem dX9_countFewestWrong_111 : decode cX9_countFewestWrong 111 = .ok (.iload_n 1, 1) := by decide +kernel
theorem dX9_countFewestWrong_112 : decode cX9_countFewestWrong 112 = .ok (.iand, 1) := by decide +kernel
theorem dX9_countFewestWrong_113 : decode cX9_countFewestWrong 113 = .ok (.iload_n 1, 1) := by decide +kernel
theorem dX9_countFewestWrong_114 : decode cX9_countFewestWrong 114 = .ok (.if_icmp .ne 6, 3) := by decide +kernel
theorem dX9_countFewestWrong_117 : decode cX9_countFewestWrong 117 = .ok (.iinc 5 1, 3) := by decide +kernel
theorem dX9_countFewestWrong_120 : decode cX9_countFewestWrong 120 = .ok (.iinc 6 1, 3) := by decide +kernel
theorem dX9_countFewestWrong_123 : decode cX9_countFewestWrong 123 = .ok (.goto (-75), 3) := by decide +kernel
theorem dX9_countFewestWrong_126 : decode cX9_countFewestWrong 126 = .ok (.iload 5, 2) := by decide +kernel
theorem dX9_countFewestWrong_128 : decode cX9_countFewestWrong 128 = .ok (.ireturn, 1) := by decide +kernel
theorem dX10_init_0 : decode cX10_init 0 = .ok (.aload_n 0, 1) := by decide +kernel
theorem dX10_init_1 : decode cX10_init 1 = .ok (.invokespecial 3, 3) := by decide +kernel
theorem dX10_init_4 : decode cX10_init 4 = .ok (.aload_n 0, 1) := by decide +kernel
theorem dX10_init_5 : decode cX10_init 5 = .ok (.bipush 12, 2) := by decide +kernel
theorem dX10_init_7 : decode cX10_init 7 = .ok (.newarray .int, 2) := by decide +kernel
theorem dX10_init_9 : decode cX10_init 9 = .ok (.putfield 9, 3) := by decide +kernel
theorem dX10_init_12 : decode cX10_init 12 = .ok (.aload_n 0, 1) := by decide +kernel
theorem dX10_init_13 : decode cX10_init 13 = .ok (.bipush 12, 2) := by decide +kernel
theorem dX10_init_15 : decode cX10_init 15 = .ok (.newarray .int, 2) := by decide +kernel
theorem dX10_init_17 : decode cX10_init 17 = .ok (.putfield 15, 3) := by decide +kernel
theorem dX10_init_20 : decode cX10_init 20 = .ok (.aload_n 0, 1) := by decide +kernel
theorem dX10_init_21 : decode cX10_init 21 = .ok (.bipush 12, 2) := by decide +kernel
theorem dX10_init_23 : decode cX10_init 23 = .ok (.newarray .int, 2) := by decide +kernel
theorem dX10_init_25 : decode cX10_init 25 = .ok (.putfield 18, 3) := by decide +kernel
theorem dX10_init_28 : decode cX10_init 28 = .ok (.aload_n 0, 1) := by decide +kernel
theorem dX10_init_29 : decode cX10_init 29 = .ok (.iconst 0, 1) := by decide +kernel
theorem dX10_init_30 : decode cX10_init 30 = .ok (.putfield 21, 3) := by decide +kernel
theorem dX10_init_33 : decode cX10_init 33 = .ok (.return_, 1) := by decide +kernel
theorem dX10_clear_0 : decode cX10_clear 0 = .ok (.aload_n 0, 1) := by decide +kernel
theorem dX10_clear_1 : decode cX10_clear 1 = .ok (.iconst 0, 1) := by decide +kernel
theorem dX10_clear_2 : decode cX10_clear 2 = .ok (.putfield 21, 3) := by decide +kernel
theorem dX10_clear_5 : decode cX10_clear 5 = .ok (.return_, 1) := by decide +kernel
theorem dX10_copyFrom_0 : decode cX10_copyFrom 0 = .ok (.iconst 0, 1) := by decide +kernel
theorem dX10_copyFrom_1 : decode cX10_copyFrom 1 = .ok (.istore_n 2, 1) := by decide +kernel
theorem dX10_copyFrom_2 : decode cX10_copyFrom 2 = .ok (.iload_n 2, 1) := by decide +kernel
theorem dX10_copyFrom_3 : decode cX10_copyFrom 3 = .ok (.bipush 12, 2) := by decide +kernel
theorem dX10_copyFrom_5 : decode cX10_copyFrom 5 = .ok (.if_icmp .ge 45, 3) := by decide +kernel
theorem dX10_copyFrom_8 : decode cX10_copyFrom 8 = .ok (.aload_n 0, 1) := by decide +kernel
theorem dX10_copyFrom_9 : decode cX10_copyFrom 9 = .ok (.getfield 9, 3) := by decide +kernel
theorem dX10_copyFrom_12 : decode cX10_copyFrom 12 = .ok (.iload_n 2, 1) := by decide +kernel
theorem dX10_copyFrom_13 : decode cX10_copyFrom 13 = .ok (.aload_n 1, 1) := by decide +kernel
theorem dX10_copyFrom_14 : decode cX10_copyFrom 14 = .ok (.getfield 9, 3) := by decide +kernel
theorem dX10_copyFrom_17 : decode cX10_copyFrom 17 = .ok (.iload_n 2, 1) := by decide +kernel
theorem dX10_copyFrom_18 : decode cX10_copyFrom 18 = .ok (.iaload, 1) := by decide +kernel
theorem dX10_copyFrom_19 : decode cX10_copyFrom 19 = .ok (.iastore, 1) := by decide +kernel
theorem dX10_copyFrom_20 : decode cX10_copyFrom 20 = .ok (.aload_n 0, 1) := by decide +kernel
theorem dX10_copyFrom_21 : decode cX10_copyFrom 21 = .ok (.getfield 15, 3) := by decide +kernel
theorem dX10_copyFrom_24 : decode cX10_copyFrom 24 = .ok (.iload_n 2, 1) := by decide +kernel
theorem dX10_copyFrom_25 : decode cX10_copyFrom 25 = .ok (.aload_n 1, 1) := by decide +kernel
theorem dX10_copyFrom_26 : decode cX10_copyFrom 26 = .ok (.getfield 15, 3) := by decide +kernel
theorem dX10_copyFrom_29 : decode cX10_copyFrom 29 = .ok (.iload_n 2, 1) := by decide +kernel
theorem dX10_copyFrom_30 : decode cX10_copyFrom 30 = .ok (.iaload, 1) := by decide +kernel
theorem dX10_copyFrom_31 : decode cX10_copyFrom 31 = .ok (.iastore, 1) := by decide +kernel
theorem dX10_copyFrom_32 : decode cX10_copyFrom 32 = .ok (.aload_n 0, 1) := by decide +kernel
theorem dX10_copyFrom_33 : decode cX10_copyFrom 33 = .ok (.getfield 18, 3) := by decide +kernel
theorem dX10_copyFrom_36 : decode cX10_copyFrom 36 = .ok (.iload_n 2, 1) := by decide +kernel
theorem dX10_copyFrom_37 : decode cX10_copyFrom 37 = .ok (.aload_n 1, 1) := by decide +kernel
theorem dX10_copyFrom_38 : decode cX10_copyFrom 38 = .ok (.getfield 18, 3) := by decide +kernel
theorem dX10_copyFrom_41 : decode cX10_copyFrom 41 = .ok (.iload_n 2, 1) := by decide +kernel
theorem dX10_copyFrom_42 : decode cX10_copyFrom 42 = .ok (.iaload, 1) := by decide +kernel
theorem dX10_copyFrom_43 : decode cX10_copyFrom 43 = .ok (.iastore, 1) := by decide +kernel
theorem dX10_copyFrom_44 : decode cX10_copyFrom 44 = .ok (.iinc 2 1, 3) := by decide +kernel
theorem dX10_copyFrom_47 : decode cX10_copyFrom 47 = .ok (.goto (-45), 3) := by decide +kernel
theorem dX10_copyFrom_50 : decode cX10_copyFrom 50 = .ok (.aload_n 0, 1) := by decide +kernel
theorem dX10_copyFrom_51 : decode cX10_copyFrom 51 = .ok (.aload_n 1, 1) := by decide +kernel
theorem dX10_copyFrom_52 : decode cX10_copyFrom 52 = .ok (.getfield 21, 3) := by decide +kernel
theorem dX10_copyFrom_55 : decode cX10_copyFrom 55 = .ok (.putfield 21, 3) := by decide +kernel
theorem dX10_copyFrom_58 : decode cX10_copyFrom 58 = .ok (.return_, 1) := by decide +kernel
theorem dX10_has_0 : decode cX10_has 0 = .ok (.iload_n 1, 1) := by decide +kernel
theorem dX10_has_1 : decode cX10_has 1 = .ok (.ifCond .lt 21, 3) := by decide +kernel
theorem dX10_has_4 : decode cX10_has 4 = .ok (.iload_n 1, 1) := by decide +kernel
theorem dX10_has_5 : decode cX10_has 5 = .ok (.aload_n 0, 1) := by decide +kernel
theorem dX10_has_6 : decode cX10_has 6 = .ok (.getfield 21, 3) := by decide +kernel
theorem dX10_has_9 : decode cX10_has 9 = .ok (.if_icmp .ge 13, 3) := by decide +kernel
theorem dX10_has_12 : decode cX10_has 12 = .ok (.iload_n 1, 1) := by decide +kernel
theorem dX10_has_13 : decode cX10_has 13 = .ok (.bipush 12, 2) := by decide +kernel
theorem dX10_has_15 : decode cX10_has 15 = .ok (.if_icmp .ge 7, 3) := by decide +kernel
theorem dX10_has_18 : decode cX10_has 18 = .ok (.iconst 1, 1) := by decide +kernel
theorem dX10_has_19 : decode cX10_has 19 = .ok (.goto 4, 3) := by decide +kernel
theorem dX10_has_22 : decode cX10_has 22 = .ok (.iconst 0, 1) := by decide +kernel
theorem dX10_has_23 : decode cX10_has 23 = .ok (.ireturn, 1) := by decide +kernel
theorem dX10_add_0 : decode cX10_add 0 = .ok (.aload_n 0, 1) := by decide +kernel
theorem dX10_add_1 : decode cX10_add 1 = .ok (.getfield 21, 3) := by decide +kernel
theorem dX10_add_4 : decode cX10_add 4 = .ok (.ifCond .lt 52, 3) := by decide +kernel
theorem dX10_add_7 : decode cX10_add 7 = .ok (.aload_n 0, 1) := by decide +kernel
theorem dX10_add_8 : decode cX10_add 8 = .ok (.getfield 21, 3) := by decide +kernel
theorem dX10_add_11 : decode cX10_add 11 = .ok (.bipush 12, 2) := by decide +kernel
theorem dX10_add_13 : decode cX10_add 13 = .ok (.if_icmp .ge 43, 3) := by decide +kernel
theorem dX10_add_16 : decode cX10_add 16 = .ok (.aload_n 0, 1) := by decide +kernel
theorem dX10_add_17 : decode cX10_add 17 = .ok (.getfield 9, 3) := by decide +kernel
theorem dX10_add_20 : decode cX10_add 20 = .ok (.aload_n 0, 1) := by decide +kernel
theorem dX10_add_21 : decode cX10_add 21 = .ok (.getfield 21, 3) := by decide +kernel
theorem dX10_add_24 : decode cX10_add 24 = .ok (.iload_n 1, 1) := by decide +kernel
theorem dX10_add_25 : decode cX10_add 25 = .ok (.iastore, 1) := by decide +kernel
theorem dX10_add_26 : decode cX10_add 26 = .ok (.aload_n 0, 1) := by decide +kernel
theorem dX10_add_27 : decode cX10_add 27 = .ok (.getfield 15, 3) := by decide +kernel
theorem dX10_add_30 : decode cX10_add 30 = .ok (.aload_n 0, 1) := by decide +kernel
theorem dX10_add_31 : decode cX10_add 31 = .ok (.getfield 21, 3) := by decide +kernel
theorem dX10_add_34 : decode cX10_add 34 = .ok (.iload_n 2, 1) := by decide +kernel
theorem dX10_add_35 : decode cX10_add 35 = .ok (.iastore, 1) := by decide +kernel
theorem dX10_add_36 : decode cX10_add 36 = .ok (.aload_n 0, 1) := by decide +kernel
theorem dX10_add_37 : decode cX10_add 37 = .ok (.getfield 18, 3) := by decide +kernel
theorem dX10_add_40 : decode cX10_add 40 = .ok (.aload_n 0, 1) := by decide +kernel
theorem dX10_add_41 : decode cX10_add 41 = .ok (.getfield 21, 3) := by decide +kernel
theorem dX10_add_44 : decode cX10_add 44 = .ok (.iconst 0, 1) := by decide +kernel
theorem dX10_add_45 : decode cX10_add 45 = .ok (.iastore, 1) := by decide +kernel
theorem dX10_add_46 : decode cX10_add 46 = .ok (.aload_n 0, 1) := by decide +kernel
theorem dX10_add_47 : decode cX10_add 47 = .ok (.dup, 1) := by decide +kernel
theorem dX10_add_48 : decode cX10_add 48 = .ok (.getfield 21, 3) := by decide +kernel
theorem dX10_add_51 : decode cX10_add 51 = .ok (.iconst 1, 1) := by decide +kernel
theorem dX10_add_52 : decode cX10_add 52 = .ok (.iadd, 1) := by decide +kernel
theorem dX10_add_53 : decode cX10_add 53 = .ok (.putfield 21, 3) := by decide +kernel
theorem dX10_add_56 : decode cX10_add 56 = .ok (.return_, 1) := by decide +kernel
theorem dX10_dropLast_0 : decode cX10_dropLast 0 = .ok (.aload_n 0, 1) := by decide +kernel
theorem dX10_dropLast_1 : decode cX10_dropLast 1 = .ok (.getfield 21, 3) := by decide +kernel
theorem dX10_dropLast_4 : decode cX10_dropLast 4 = .ok (.ifCond .le 13, 3) := by decide +kernel
theorem dX10_dropLast_7 : decode cX10_dropLast 7 = .ok (.aload_n 0, 1) := by decide +kernel
theorem dX10_dropLast_8 : decode cX10_dropLast 8 = .ok (.dup, 1) := by decide +kernel
theorem dX10_dropLast_9 : decode cX10_dropLast 9 = .ok (.getfield 21, 3) := by decide +kernel
theorem dX10_dropLast_12 : decode cX10_dropLast 12 = .ok (.iconst 1, 1) := by decide +kernel
theorem dX10_dropLast_13 : decode cX10_dropLast 13 = .ok (.isub, 1) := by decide +kernel
theorem dX10_dropLast_14 : decode cX10_dropLast 14 = .ok (.putfield 21, 3) := by decide +kernel
theorem dX10_dropLast_17 : decode cX10_dropLast 17 = .ok (.return_, 1) := by decide +kernel
theorem dX10_setOutcome_0 : decode cX10_setOutcome 0 = .ok (.aload_n 0, 1) := by decide +kernel
theorem dX10_setOutcome_1 : decode cX10_setOutcome 1 = .ok (.iload_n 1, 1) := by decide +kernel
theorem dX10_setOutcome_2 : decode cX10_setOutcome 2 = .ok (.invokevirtual 25, 3) := by decide +kernel
theorem dX10_setOutcome_5 : decode cX10_setOutcome 5 = .ok (.ifCond .eq 10, 3) := by decide +kernel
theorem dX10_setOutcome_8 : decode cX10_setOutcome 8 = .ok (.aload_n 0, 1) := by decide +kernel
theorem dX10_setOutcome_9 : decode cX10_setOutcome 9 = .ok (.getfield 18, 3) := by decide +kernel
theorem dX10_setOutcome_12 : decode cX10_setOutcome 12 = .ok (.iload_n 1, 1) := by decide +kernel
theorem dX10_setOutcome_13 : decode cX10_setOutcome 13 = .ok (.iload_n 2, 1) := by decide +kernel
theorem dX10_setOutcome_14 : decode cX10_setOutcome 14 = .ok (.iastore, 1) := by decide +kernel
theorem dX10_setOutcome_15 : decode cX10_setOutcome 15 = .ok (.return_, 1) := by decide +kernel
theorem dX10_outcomeOf_0 : decode cX10_outcomeOf 0 = .ok (.aload_n 0, 1) := by decide +kernel
theorem dX10_outcomeOf_1 : decode cX10_outcomeOf 1 = .ok (.iload_n 1, 1) := by decide +kernel
theorem dX10_outcomeOf_2 : decode cX10_outcomeOf 2 = .ok (.invokevirtual 25, 3) := by decide +kernel
theorem dX10_outcomeOf_5 : decode cX10_outcomeOf 5 = .ok (.ifCond .eq 12, 3) := by decide +kernel
theorem dX10_outcomeOf_8 : decode cX10_outcomeOf 8 = .ok (.aload_n 0, 1) := by decide +kernel
theorem dX10_outcomeOf_9 : decode cX10_outcomeOf 9 = .ok (.getfield 18, 3) := by decide +kernel
theorem dX10_outcomeOf_12 : decode cX10_outcomeOf 12 = .ok (.iload_n 1, 1) := by decide +kernel
theorem dX10_outcomeOf_13 : decode cX10_outcomeOf 13 = .ok (.iaload, 1) := by decide +kernel
theorem dX10_outcomeOf_14 : decode cX10_outcomeOf 14 = .ok (.goto 4, 3) := by decide +kernel
theorem dX10_outcomeOf_17 : decode cX10_outcomeOf 17 = .ok (.iconst 0, 1) := by decide +kernel
theorem dX10_outcomeOf_18 : decode cX10_outcomeOf 18 = .ok (.ireturn, 1) := by decide +kernel
theorem dX10_rowOf_0 : decode cX10_rowOf 0 = .ok (.aload_n 0, 1) := by decide +kernel
theorem dX10_rowOf_1 : decode cX10_rowOf 1 = .ok (.iload_n 1, 1) := by decide +kernel
theorem dX10_rowOf_2 : decode cX10_rowOf 2 = .ok (.invokevirtual 25, 3) := by decide +kernel
theorem dX10_rowOf_5 : decode cX10_rowOf 5 = .ok (.ifCond .eq 12, 3) := by decide +kernel
theorem dX10_rowOf_8 : decode cX10_rowOf 8 = .ok (.aload_n 0, 1) := by decide +kernel
theorem dX10_rowOf_9 : decode cX10_rowOf 9 = .ok (.getfield 9, 3) := by decide +kernel
theorem dX10_rowOf_12 : decode cX10_rowOf 12 = .ok (.iload_n 1, 1) := by decide +kernel
theorem dX10_rowOf_13 : decode cX10_rowOf 13 = .ok (.iaload, 1) := by decide +kernel
theorem dX10_rowOf_14 : decode cX10_rowOf 14 = .ok (.goto 4, 3) := by decide +kernel
theorem dX10_rowOf_17 : decode cX10_rowOf 17 = .ok (.iconst 0, 1) := by decide +kernel
theorem dX10_rowOf_18 : decode cX10_rowOf 18 = .ok (.ireturn, 1) := by decide +kernel
theorem dX10_linksOf_0 : decode cX10_linksOf 0 = .ok (.aload_n 0, 1) := by decide +kernel
theorem dX10_linksOf_1 : decode cX10_linksOf 1 = .ok (.iload_n 1, 1) := by decide +kernel
theorem dX10_linksOf_2 : decode cX10_linksOf 2 = .ok (.invokevirtual 25, 3) := by decide +kernel
theorem dX10_linksOf_5 : decode cX10_linksOf 5 = .ok (.ifCond .eq 12, 3) := by decide +kernel
theorem dX10_linksOf_8 : decode cX10_linksOf 8 = .ok (.aload_n 0, 1) := by decide +kernel
theorem dX10_linksOf_9 : decode cX10_linksOf 9 = .ok (.getfield 15, 3) := by decide +kernel
theorem dX10_linksOf_12 : decode cX10_linksOf 12 = .ok (.iload_n 1, 1) := by decide +kernel
theorem dX10_linksOf_13 : decode cX10_linksOf 13 = .ok (.iaload, 1) := by decide +kernel
theorem dX10_linksOf_14 : decode cX10_linksOf 14 = .ok (.goto 4, 3) := by decide +kernel
theorem dX10_linksOf_17 : decode cX10_linksOf 17 = .ok (.iconst 0, 1) := by decide +kernel
theorem dX10_linksOf_18 : decode cX10_linksOf 18 = .ok (.ireturn, 1) := by decide +kernel
theorem dX10_all_0 : decode cX10_all 0 = .ok (.iconst 1, 1) := by decide +kernel
theorem dX10_all_1 : decode cX10_all 1 = .ok (.aload_n 0, 1) := by decide +kernel
theorem dX10_all_2 : decode cX10_all 2 = .ok (.getfield 21, 3) := by decide +kernel
theorem dX10_all_5 : decode cX10_all 5 = .ok (.ishl, 1) := by decide +kernel
theorem dX10_all_6 : decode cX10_all 6 = .ok (.iconst 1, 1) := by decide +kernel
theorem dX10_all_7 : decode cX10_all 7 = .ok (.isub, 1) := by decide +kernel
theorem dX10_all_8 : decode cX10_all 8 = .ok (.ireturn, 1) := by decide +kernel
theorem dX10_good_0 : decode cX10_good 0 = .ok (.aload_n 0, 1) := by decide +kernel
theorem dX10_good_1 : decode cX10_good 1 = .ok (.iconst 1, 1) := by decide +kernel
theorem dX10_good_2 : decode cX10_good 2 = .ok (.invokevirtual 29, 3) := by decide +kernel
theorem dX10_good_5 : decode cX10_good 5 = .ok (.ireturn, 1) := by decide +kernel
theorem dX10_bad_0 : decode cX10_bad 0 = .ok (.aload_n 0, 1) := by decide +kernel
theorem dX10_bad_1 : decode cX10_bad 1 = .ok (.iconst 2, 1) := by decide +kernel
theorem dX10_bad_2 : decode cX10_bad 2 = .ok (.invokevirtual 29, 3) := by decide +kernel
theorem dX10_bad_5 : decode cX10_bad 5 = .ok (.ireturn, 1) := by decide +kernel
theorem dX10_known_0 : decode cX10_known 0 = .ok (.aload_n 0, 1) := by decide +kernel
theorem dX10_known_1 : decode cX10_known 1 = .ok (.invokevirtual 33, 3) := by decide +kernel
theorem dX10_known_4 : decode cX10_known 4 = .ok (.aload_n 0, 1) := by decide +kernel
theorem dX10_known_5 : decode cX10_known 5 = .ok (.invokevirtual 37, 3) := by decide +kernel
theorem dX10_known_8 : decode cX10_known 8 = .ok (.ior, 1) := by decide +kernel
theorem dX10_known_9 : decode cX10_known 9 = .ok (.ireturn, 1) := by decide +kernel
theorem dX10_withLink_0 : decode cX10_withLink 0 = .ok (.iconst 0, 1) := by decide +kernel
theorem dX10_withLink_1 : decode cX10_withLink 1 = .ok (.istore_n 2, 1) := by decide +kernel
theorem dX10_withLink_2 : decode cX10_withLink 2 = .ok (.iconst 0, 1) := by decide +kernel
theorem dX10_withLink_3 : decode cX10_withLink 3 = .ok (.istore_n 3, 1) := by decide +kernel
theorem dX10_withLink_4 : decode cX10_withLink 4 = .ok (.iload_n 3, 1) := by decide +kernel
theorem dX10_withLink_5 : decode cX10_withLink 5 = .ok (.aload_n 0, 1) := by decide +kernel
theorem dX10_withLink_6 : decode cX10_withLink 6 = .ok (.getfield 21, 3) := by decide +kernel
theorem dX10_withLink_9 : decode cX10_withLink 9 = .ok (.if_icmp .ge 30, 3) := by decide +kernel
theorem dX10_withLink_12 : decode cX10_withLink 12 = .ok (.iload_n 3, 1) := by decide +kernel
theorem dX10_withLink_13 : decode cX10_withLink 13 = .ok (.bipush 12, 2) := by decide +kernel
theorem dX10_withLink_15 : decode cX10_withLink 15 = .ok (.if_icmp .ge 24, 3) := by decide +kernel
theorem dX10_withLink_18 : decode cX10_withLink 18 = .ok (.iload_n 2, 1) := by decide +kernel
theorem dX10_withLink_19 : decode cX10_withLink 19 = .ok (.aload_n 0, 1) := by decide +kernel
theorem dX10_withLink_20 : decode cX10_withLink 20 = .ok (.getfield 15, 3) := by decide +kernel
theorem dX10_withLink_23 : decode cX10_withLink 23 = .ok (.iload_n 3, 1) := by decide +kernel
theorem dX10_withLink_24 : decode cX10_withLink 24 = .ok (.iaload, 1) := by decide +kernel
theorem dX10_withLink_25 : decode cX10_withLink 25 = .ok (.iload_n 1, 1) := by decide +kernel
theorem dX10_withLink_26 : decode cX10_withLink 26 = .ok (.ishr, 1) := by decide +kernel
theorem dX10_withLink_27 : decode cX10_withLink 27 = .ok (.iconst 1, 1) := by decide +kernel
theorem dX10_withLink_28 : decode cX10_withLink 28 = .ok (.iand, 1) := by decide +kernel
theorem dX10_withLink_29 : decode cX10_withLink 29 = .ok (.iload_n 3, 1) := by decide +kernel
theorem dX10_withLink_30 : decode cX10_withLink 30 = .ok (.ishl, 1) := by decide +kernel
theorem dX10_withLink_31 : decode cX10_withLink 31 = .ok (.ior, 1) := by decide +kernel
theorem dX10_withLink_32 : decode cX10_withLink 32 = .ok (.istore_n 2, 1) := by decide +kernel
theorem dX10_withLink_33 : decode cX10_withLink 33 = .ok (.iinc 3 1, 3) := by decide +kernel
theorem dX10_withLink_36 : decode cX10_withLink 36 = .ok (.goto (-32), 3) := by decide +kernel
theorem dX10_withLink_39 : decode cX10_withLink 39 = .ok (.iload_n 2, 1) := by decide +kernel
theorem dX10_withLink_40 : decode cX10_withLink 40 = .ok (.ireturn, 1) := by decide +kernel
theorem dX10_seenLinks_0 : decode cX10_seenLinks 0 = .ok (.iconst 0, 1) := by decide +kernel
theorem dX10_seenLinks_1 : decode cX10_seenLinks 1 = .ok (.istore_n 1, 1) := by decide +kernel
theorem dX10_seenLinks_2 : decode cX10_seenLinks 2 = .ok (.iconst 0, 1) := by decide +kernel
theorem dX10_seenLinks_3 : decode cX10_seenLinks 3 = .ok (.istore_n 2, 1) := by decide +kernel
theorem dX10_seenLinks_4 : decode cX10_seenLinks 4 = .ok (.iload_n 2, 1) := by decide +kernel
theorem dX10_seenLinks_5 : decode cX10_seenLinks 5 = .ok (.aload_n 0, 1) := by decide +kernel
theorem dX10_seenLinks_6 : decode cX10_seenLinks 6 = .ok (.getfield 21, 3) := by decide +kernel
theorem dX10_seenLinks_9 : decode cX10_seenLinks 9 = .ok (.if_icmp .ge 24, 3) := by decide +kernel
theorem dX10_seenLinks_12 : decode cX10_seenLinks 12 = .ok (.iload_n 2, 1) := by decide +kernel
theorem dX10_seenLinks_13 : decode cX10_seenLinks 13 = .ok (.bipush 12, 2) := by decide +kernel
theorem dX10_seenLinks_15 : decode cX10_seenLinks 15 = .ok (.if_icmp .ge 18, 3) := by decide +kernel
theorem dX10_seenLinks_18 : decode cX10_seenLinks 18 = .ok (.iload_n 1, 1) := by decide +kernel
theorem dX10_seenLinks_19 : decode cX10_seenLinks 19 = .ok (.aload_n 0, 1) := by decide +kernel
theorem dX10_seenLinks_20 : decode cX10_seenLinks 20 = .ok (.getfield 15, 3) := by decide +kernel
theorem dX10_seenLinks_23 : decode cX10_seenLinks 23 = .ok (.iload_n 2, 1) := by decide +kernel
theorem dX10_seenLinks_24 : decode cX10_seenLinks 24 = .ok (.iaload, 1) := by decide +kernel
theorem dX10_seenLinks_25 : decode cX10_seenLinks 25 = .ok (.ior, 1) := by decide +kernel
theorem dX10_seenLinks_26 : decode cX10_seenLinks 26 = .ok (.istore_n 1, 1) := by decide +kernel
theorem dX10_seenLinks_27 : decode cX10_seenLinks 27 = .ok (.iinc 2 1, 3) := by decide +kernel
theorem dX10_seenLinks_30 : decode cX10_seenLinks 30 = .ok (.goto (-26), 3) := by decide +kernel
theorem dX10_seenLinks_33 : decode cX10_seenLinks 33 = .ok (.iload_n 1, 1) := by decide +kernel
theorem dX10_seenLinks_34 : decode cX10_seenLinks 34 = .ok (.ireturn, 1) := by decide +kernel
theorem dX10_clearedLinks_0 : decode cX10_clearedLinks 0 = .ok (.iconst 0, 1) := by decide +kernel
theorem dX10_clearedLinks_1 : decode cX10_clearedLinks 1 = .ok (.istore_n 1, 1) := by decide +kernel
theorem dX10_clearedLinks_2 : decode cX10_clearedLinks 2 = .ok (.iconst 0, 1) := by decide +kernel
theorem dX10_clearedLinks_3 : decode cX10_clearedLinks 3 = .ok (.istore_n 2, 1) := by decide +kernel
theorem dX10_clearedLinks_4 : decode cX10_clearedLinks 4 = .ok (.iload_n 2, 1) := by decide +kernel
theorem dX10_clearedLinks_5 : decode cX10_clearedLinks 5 = .ok (.aload_n 0, 1) := by decide +kernel
theorem dX10_clearedLinks_6 : decode cX10_clearedLinks 6 = .ok (.getfield 21, 3) := by decide +kernel
theorem dX10_clearedLinks_9 : decode cX10_clearedLinks 9 = .ok (.if_icmp .ge 34, 3) := by decide +kernel
theorem dX10_clearedLinks_12 : decode cX10_clearedLinks 12 = .ok (.iload_n 2, 1) := by decide +kernel
theorem dX10_clearedLinks_13 : decode cX10_clearedLinks 13 = .ok (.bipush 12, 2) := by decide +kernel
theorem dX10_clearedLinks_15 : decode cX10_clearedLinks 15 = .ok (.if_icmp .ge 28, 3) := by decide +kernel
theorem dX10_clearedLinks_18 : decode cX10_clearedLinks 18 = .ok (.aload_n 0, 1) := by decide +kernel
theorem dX10_clearedLinks_19 : decode cX10_clearedLinks 19 = .ok (.getfield 18, 3) := by decide +kernel
theorem dX10_clearedLinks_22 : decode cX10_clearedLinks 22 = .ok (.iload_n 2, 1) := by decide +kernel
theorem dX10_clearedLinks_23 : decode cX10_clearedLinks 23 = .ok (.iaload, 1) := by decide +kernel
theorem dX10_clearedLinks_24 : decode cX10_clearedLinks 24 = .ok (.iconst 1, 1) := by decide +kernel
theorem dX10_clearedLinks_25 : decode cX10_clearedLinks 25 = .ok (.if_icmp .ne 12, 3) := by decide +kernel
theorem dX10_clearedLinks_28 : decode cX10_clearedLinks 28 = .ok (.iload_n 1, 1) := by decide +kernel
theorem dX10_clearedLinks_29 : decode cX10_clearedLinks 29 = .ok (.aload_n 0, 1) := by decide +kernel
theorem dX10_clearedLinks_30 : decode cX10_clearedLinks 30 = .ok (.getfield 15, 3) := by decide +kernel
theorem dX10_clearedLinks_33 : decode cX10_clearedLinks 33 = .ok (.iload_n 2, 1) := by decide +kernel
theorem dX10_clearedLinks_34 : decode cX10_clearedLinks 34 = .ok (.iaload, 1) := by decide +kernel
theorem dX10_clearedLinks_35 : decode cX10_clearedLinks 35 = .ok (.ior, 1) := by decide +kernel
theorem dX10_clearedLinks_36 : decode cX10_clearedLinks 36 = .ok (.istore_n 1, 1) := by decide +kernel
theorem dX10_clearedLinks_37 : decode cX10_clearedLinks 37 = .ok (.iinc 2 1, 3) := by decide +kernel
theorem dX10_clearedLinks_40 : decode cX10_clearedLinks 40 = .ok (.goto (-36), 3) := by decide +kernel
theorem dX10_clearedLinks_43 : decode cX10_clearedLinks 43 = .ok (.iload_n 1, 1) := by decide +kernel
theorem dX10_clearedLinks_44 : decode cX10_clearedLinks 44 = .ok (.ireturn, 1) := by decide +kernel
theorem dX10_withOutcome_0 : decode cX10_withOutcome 0 = .ok (.iconst 0, 1) := by decide +kernel
theorem dX10_withOutcome_1 : decode cX10_withOutcome 1 = .ok (.istore_n 2, 1) := by decide +kernel
theorem dX10_withOutcome_2 : decode cX10_withOutcome 2 = .ok (.iconst 0, 1) := by decide +kernel
theorem dX10_withOutcome_3 : decode cX10_withOutcome 3 = .ok (.istore_n 3, 1) := by decide +kernel
theorem dX10_withOutcome_4 : decode cX10_withOutcome 4 = .ok (.iload_n 3, 1) := by decide +kernel
theorem dX10_withOutcome_5 : decode cX10_withOutcome 5 = .ok (.aload_n 0, 1) := by decide +kernel
theorem dX10_withOutcome_6 : decode cX10_withOutcome 6 = .ok (.getfield 21, 3) := by decide +kernel
theorem dX10_withOutcome_9 : decode cX10_withOutcome 9 = .ok (.if_icmp .ge 31, 3) := by decide +kernel
theorem dX10_withOutcome_12 : decode cX10_withOutcome 12 = .ok (.iload_n 3, 1) := by decide +kernel
theorem dX10_withOutcome_13 : decode cX10_withOutcome 13 = .ok (.bipush 12, 2) := by decide +kernel
theorem dX10_withOutcome_15 : decode cX10_withOutcome 15 = .ok (.if_icmp .ge 25, 3) := by decide +kernel
theorem dX10_withOutcome_18 : decode cX10_withOutcome 18 = .ok (.aload_n 0, 1) := by decide +kernel
theorem dX10_withOutcome_19 : decode cX10_withOutcome 19 = .ok (.getfield 18, 3) := by decide +kernel
theorem dX10_withOutcome_22 : decode cX10_withOutcome 22 = .ok (.iload_n 3, 1) := by decide +kernel
theorem dX10_withOutcome_23 : decode cX10_withOutcome 23 = .ok (.iaload, 1) := by decide +kernel
theorem dX10_withOutcome_24 : decode cX10_withOutcome 24 = .ok (.iload_n 1, 1) := by decide +kernel
theorem dX10_withOutcome_25 : decode cX10_withOutcome 25 = .ok (.if_icmp .ne 9, 3) := by decide +kernel
theorem dX10_withOutcome_28 : decode cX10_withOutcome 28 = .ok (.iload_n 2, 1) := by decide +kernel
theorem dX10_withOutcome_29 : decode cX10_withOutcome 29 = .ok (.iconst 1, 1) := by decide +kernel
theorem dX10_withOutcome_30 : decode cX10_withOutcome 30 = .ok (.iload_n 3, 1) := by decide +kernel
theorem dX10_withOutcome_31 : decode cX10_withOutcome 31 = .ok (.ishl, 1) := by decide +kernel
theorem dX10_withOutcome_32 : decode cX10_withOutcome 32 = .ok (.ior, 1) := by decide +kernel
theorem dX10_withOutcome_33 : decode cX10_withOutcome 33 = .ok (.istore_n 2, 1) := by decide +kernel
theorem dX10_withOutcome_34 : decode cX10_withOutcome 34 = .ok (.iinc 3 1, 3) := by decide +kernel
theorem dX10_withOutcome_37 : decode cX10_withOutcome 37 = .ok (.goto (-33), 3) := by decide +kernel
theorem dX10_withOutcome_40 : decode cX10_withOutcome 40 = .ok (.iload_n 2, 1) := by decide +kernel
theorem dX10_withOutcome_41 : decode cX10_withOutcome 41 = .ok (.ireturn, 1) := by decide +kernel
theorem dX11_init_0 : decode cX11_init 0 = .ok (.aload_n 0, 1) := by decide +kernel
theorem dX11_init_1 : decode cX11_init 1 = .ok (.invokespecial 1, 3) := by decide +kernel
theorem dX11_init_4 : decode cX11_init 4 = .ok (.aload_n 0, 1) := by decide +kernel
theorem dX11_init_5 : decode cX11_init 5 = .ok (.new 7, 3) := by decide +kernel
theorem dX11_init_8 : decode cX11_init 8 = .ok (.dup, 1) := by decide +kernel
theorem dX11_init_9 : decode cX11_init 9 = .ok (.invokespecial 9, 3) := by decide +kernel
theorem dX11_init_12 : decode cX11_init 12 = .ok (.putfield 10, 3) := by decide +kernel
theorem dX11_init_15 : decode cX11_init 15 = .ok (.aload_n 0, 1) := by decide +kernel
theorem dX11_init_16 : decode cX11_init 16 = .ok (.new 16, 3) := by decide +kernel
theorem dX11_init_19 : decode cX11_init 19 = .ok (.dup, 1) := by decide +kernel
theorem dX11_init_20 : decode cX11_init 20 = .ok (.aload_n 0, 1) := by decide +kernel
theorem dX11_init_21 : decode cX11_init 21 = .ok (.getfield 10, 3) := by decide +kernel
theorem dX11_init_24 : decode cX11_init 24 = .ok (.invokespecial 18, 3) := by decide +kernel
theorem dX11_init_27 : decode cX11_init 27 = .ok (.putfield 21, 3) := by decide +kernel
theorem dX11_init_30 : decode cX11_init 30 = .ok (.aload_n 0, 1) := by decide +kernel
theorem dX11_init_31 : decode cX11_init 31 = .ok (.new 25, 3) := by decide +kernel
theorem dX11_init_34 : decode cX11_init 34 = .ok (.dup, 1) := by decide +kernel
theorem dX11_init_35 : decode cX11_init 35 = .ok (.invokespecial 27, 3) := by decide +kernel
theorem dX11_init_38 : decode cX11_init 38 = .ok (.putfield 28, 3) := by decide +kernel
theorem dX11_init_41 : decode cX11_init 41 = .ok (.aload_n 0, 1) := by decide +kernel
theorem dX11_init_42 : decode cX11_init 42 = .ok (.new 32, 3) := by decide +kernel
theorem dX11_init_45 : decode cX11_init 45 = .ok (.dup, 1) := by decide +kernel
theorem dX11_init_46 : decode cX11_init 46 = .ok (.invokespecial 34, 3) := by decide +kernel
theorem dX11_init_49 : decode cX11_init 49 = .ok (.putfield 35, 3) := by decide +kernel
theorem dX11_init_52 : decode cX11_init 52 = .ok (.aload_n 0, 1) := by decide +kernel
theorem dX11_init_53 : decode cX11_init 53 = .ok (.new 39, 3) := by decide +kernel
theorem dX11_init_56 : decode cX11_init 56 = .ok (.dup, 1) := by decide +kernel
theorem dX11_init_57 : decode cX11_init 57 = .ok (.invokespecial 41, 3) := by decide +kernel
theorem dX11_init_60 : decode cX11_init 60 = .ok (.putfield 42, 3) := by decide +kernel
theorem dX11_init_63 : decode cX11_init 63 = .ok (.aload_n 0, 1) := by decide +kernel
theorem dX11_init_64 : decode cX11_init 64 = .ok (.new 46, 3) := by decide +kernel
theorem dX11_init_67 : decode cX11_init 67 = .ok (.dup, 1) := by decide +kernel
theorem dX11_init_68 : decode cX11_init 68 = .ok (.aload_n 0, 1) := by decide +kernel
theorem dX11_init_69 : decode cX11_init 69 = .ok (.getfield 28, 3) := by decide +kernel
theorem dX11_init_72 : decode cX11_init 72 = .ok (.invokespecial 48, 3) := by decide +kernel
theorem dX11_init_75 : decode cX11_init 75 = .ok (.putfield 51, 3) := by decide +kernel
theorem dX11_init_78 : decode cX11_init 78 = .ok (.aload_n 0, 1) := by decide +kernel
theorem dX11_init_79 : decode cX11_init 79 = .ok (.new 55, 3) := by decide +kernel
theorem dX11_init_82 : decode cX11_init 82 = .ok (.dup, 1) := by decide +kernel
theorem dX11_init_83 : decode cX11_init 83 = .ok (.aload_n 0, 1) := by decide +kernel
theorem dX11_init_84 : decode cX11_init 84 = .ok (.getfield 28, 3) := by decide +kernel
theorem dX11_init_87 : decode cX11_init 87 = .ok (.aload_n 0, 1) := by decide +kernel
theorem dX11_init_88 : decode cX11_init 88 = .ok (.getfield 35, 3) := by decide +kernel
theorem dX11_init_91 : decode cX11_init 91 = .ok (.invokespecial 57, 3) := by decide +kernel
theorem dX11_init_94 : decode cX11_init 94 = .ok (.putfield 60, 3) := by decide +kernel
theorem dX11_init_97 : decode cX11_init 97 = .ok (.aload_n 0, 1) := by decide +kernel
theorem dX11_init_98 : decode cX11_init 98 = .ok (.new 64, 3) := by decide +kernel
theorem dX11_init_101 : decode cX11_init 101 = .ok (.dup, 1) := by decide +kernel
theorem dX11_init_102 : decode cX11_init 102 = .ok (.aload_n 0, 1) := by decide +kernel
theorem dX11_init_103 : decode cX11_init 103 = .ok (.getfield 28, 3) := by decide +kernel
theorem dX11_init_106 : decode cX11_init 106 = .ok (.aload_n 0, 1) := by decide +kernel
theorem dX11_init_107 : decode cX11_init 107 = .ok (.getfield 35, 3) := by decide +kernel
theorem dX11_init_110 : decode cX11_init 110 = .ok (.aload_n 0, 1) := by decide +kernel
theorem dX11_init_111 : decode cX11_init 111 = .ok (.getfield 60, 3) := by decide +kernel
theorem dX11_init_114 : decode cX11_init 114 = .ok (.invokespecial 66, 3) := by decide +kernel
theorem dX11_init_117 : decode cX11_init 117 = .ok (.putfield 69, 3) := by decide +kernel
theorem dX11_init_120 : decode cX11_init 120 = .ok (.aload_n 0, 1) := by decide +kernel
theorem dX11_init_121 : decode cX11_init 121 = .ok (.new 73, 3) := by decide +kernel
theorem dX11_init_124 : decode cX11_init 124 = .ok (.dup, 1) := by decide +kernel
theorem dX11_init_125 : decode cX11_init 125 = .ok (.aload_n 0, 1) := by decide +kernel
theorem dX11_init_126 : decode cX11_init 126 = .ok (.getfield 28, 3) := by decide +kernel
theorem dX11_init_129 : decode cX11_init 129 = .ok (.aload_n 0, 1) := by decide +kernel
theorem dX11_init_130 : decode cX11_init 130 = .ok (.getfield 35, 3) := by decide +kernel
theorem dX11_init_133 : decode cX11_init 133 = .ok (.aload_n 0, 1) := by decide +kernel
theorem dX11_init_134 : decode cX11_init 134 = .ok (.getfield 60, 3) := by decide +kernel
theorem dX11_init_137 : decode cX11_init 137 = .ok (.invokespecial 75, 3) := by decide +kernel
theorem dX11_init_140 : decode cX11_init 140 = .ok (.putfield 76, 3) := by decide +kernel
theorem dX11_init_143 : decode cX11_init 143 = .ok (.aload_n 0, 1) := by decide +kernel
theorem dX11_init_144 : decode cX11_init 144 = .ok (.new 80, 3) := by decide +kernel
theorem dX11_init_147 : decode cX11_init 147 = .ok (.dup, 1) := by decide +kernel
theorem dX11_init_148 : decode cX11_init 148 = .ok (.aload_n 0, 1) := by decide +kernel
theorem dX11_init_149 : decode cX11_init 149 = .ok (.getfield 28, 3) := by decide +kernel
theorem dX11_init_152 : decode cX11_init 152 = .ok (.aload_n 0, 1) := by decide +kernel
theorem dX11_init_153 : decode cX11_init 153 = .ok (.getfield 35, 3) := by decide +kernel
theorem dX11_init_156 : decode cX11_init 156 = .ok (.aload_n 0, 1) := by decide +kernel
theorem dX11_init_157 : decode cX11_init 157 = .ok (.getfield 60, 3) := by decide +kernel
theorem dX11_init_160 : decode cX11_init 160 = .ok (.invokespecial 82, 3) := by decide +kernel
theorem dX11_init_163 : decode cX11_init 163 = .ok (.putfield 83, 3) := by decide +kernel
theorem dX11_init_166 : decode cX11_init 166 = .ok (.aload_n 0, 1) := by decide +kernel
theorem dX11_init_167 : decode cX11_init 167 = .ok (.new 87, 3) := by decide +kernel
theorem dX11_init_170 : decode cX11_init 170 = .ok (.dup, 1) := by decide +kernel
theorem dX11_init_171 : decode cX11_init 171 = .ok (.aload_n 0, 1) := by decide +kernel
theorem dX11_init_172 : decode cX11_init 172 = .ok (.getfield 28, 3) := by decide +kernel
theorem dX11_init_175 : decode cX11_init 175 = .ok (.aload_n 0, 1) := by decide +kernel
theorem dX11_init_176 : decode cX11_init 176 = .ok (.getfield 51, 3) := by decide +kernel
theorem dX11_init_179 : decode cX11_init 179 = .ok (.invokespecial 89, 3) := by decide +kernel
theorem dX11_init_182 : decode cX11_init 182 = .ok (.putfield 92, 3) := by decide +kernel
theorem dX11_init_185 : decode cX11_init 185 = .ok (.return_, 1) := by decide +kernel
theorem dX11_feed_0 : decode cX11_feed 0 = .ok (.aload_n 0, 1) := by decide +kernel
theorem dX11_feed_1 : decode cX11_feed 1 = .ok (.getfield 10, 3) := by decide +kernel
theorem dX11_feed_4 : decode cX11_feed 4 = .ok (.bipush 20, 2) := by decide +kernel
theorem dX11_feed_6 : decode cX11_feed 6 = .ok (.invokevirtual 96, 3) := by decide +kernel
theorem dX11_feed_9 : decode cX11_feed 9 = .ok (.ifCond .ne 5, 3) := by decide +kernel
theorem dX11_feed_12 : decode cX11_feed 12 = .ok (.iconst (-1), 1) := by decide +kernel
theorem dX11_feed_13 : decode cX11_feed 13 = .ok (.ireturn, 1) := by decide +kernel
theorem dX11_feed_14 : decode cX11_feed 14 = .ok (.aload_n 0, 1) := by decide +kernel
theorem dX11_feed_15 : decode cX11_feed 15 = .ok (.getfield 10, 3) := by decide +kernel
theorem dX11_feed_18 : decode cX11_feed 18 = .ok (.iload_n 1, 1) := by decide +kernel
theorem dX11_feed_19 : decode cX11_feed 19 = .ok (.invokevirtual 100, 3) := by decide +kernel
theorem dX11_feed_22 : decode cX11_feed 22 = .ok (.aload_n 0, 1) := by decide +kernel
theorem dX11_feed_23 : decode cX11_feed 23 = .ok (.getfield 10, 3) := by decide +kernel
theorem dX11_feed_26 : decode cX11_feed 26 = .ok (.iload_n 2, 1) := by decide +kernel
theorem dX11_feed_27 : decode cX11_feed 27 = .ok (.invokevirtual 100, 3) := by decide +kernel
theorem dX11_feed_30 : decode cX11_feed 30 = .ok (.aload_n 0, 1) := by decide +kernel
theorem dX11_feed_31 : decode cX11_feed 31 = .ok (.getfield 10, 3) := by decide +kernel
theorem dX11_feed_34 : decode cX11_feed 34 = .ok (.iload_n 3, 1) := by decide +kernel
theorem dX11_feed_35 : decode cX11_feed 35 = .ok (.invokevirtual 100, 3) := by decide +kernel
theorem dX11_feed_38 : decode cX11_feed 38 = .ok (.aload_n 0, 1) := by decide +kernel
theorem dX11_feed_39 : decode cX11_feed 39 = .ok (.getfield 10, 3) := by decide +kernel
theorem dX11_feed_42 : decode cX11_feed 42 = .ok (.iload 4, 2) := by decide +kernel
theorem dX11_feed_44 : decode cX11_feed 44 = .ok (.invokevirtual 100, 3) := by decide +kernel
theorem dX11_feed_47 : decode cX11_feed 47 = .ok (.aload_n 0, 1) := by decide +kernel
theorem dX11_feed_48 : decode cX11_feed 48 = .ok (.getfield 10, 3) := by decide +kernel
theorem dX11_feed_51 : decode cX11_feed 51 = .ok (.iload 5, 2) := by decide +kernel
theorem dX11_feed_53 : decode cX11_feed 53 = .ok (.invokevirtual 100, 3) := by decide +kernel
theorem dX11_feed_56 : decode cX11_feed 56 = .ok (.aload_n 0, 1) := by decide +kernel
theorem dX11_feed_57 : decode cX11_feed 57 = .ok (.getfield 10, 3) := by decide +kernel
theorem dX11_feed_60 : decode cX11_feed 60 = .ok (.getfield 104, 3) := by decide +kernel
theorem dX11_feed_63 : decode cX11_feed 63 = .ok (.ireturn, 1) := by decide +kernel
theorem dX11_back_0 : decode cX11_back 0 = .ok (.iload_n 1, 1) := by decide +kernel
theorem dX11_back_1 : decode cX11_back 1 = .ok (.ifCond .lt 14, 3) := by decide +kernel
theorem dX11_back_4 : decode cX11_back 4 = .ok (.iload_n 1, 1) := by decide +kernel
theorem dX11_back_5 : decode cX11_back 5 = .ok (.aload_n 0, 1) := by decide +kernel
theorem dX11_back_6 : decode cX11_back 6 = .ok (.getfield 10, 3) := by decide +kernel
theorem dX11_back_9 : decode cX11_back 9 = .ok (.getfield 104, 3) := by decide +kernel
theorem dX11_back_12 : decode cX11_back 12 = .ok (.if_icmp .le 5, 3) := by decide +kernel
theorem dX11_back_15 : decode cX11_back 15 = .ok (.iconst (-1), 1) := by decide +kernel
theorem dX11_back_16 : decode cX11_back 16 = .ok (.ireturn, 1) := by decide +kernel
theorem dX11_back_17 : decode cX11_back 17 = .ok (.aload_n 0, 1) := by decide +kernel
theorem dX11_back_18 : decode cX11_back 18 = .ok (.getfield 10, 3) := by decide +kernel
theorem dX11_back_21 : decode cX11_back 21 = .ok (.dup, 1) := by decide +kernel
theorem dX11_back_22 : decode cX11_back 22 = .ok (.getfield 104, 3) := by decide +kernel
theorem dX11_back_25 : decode cX11_back 25 = .ok (.iload_n 1, 1) := by decide +kernel
theorem dX11_back_26 : decode cX11_back 26 = .ok (.isub, 1) := by decide +kernel
theorem dX11_back_27 : decode cX11_back 27 = .ok (.putfield 104, 3) := by decide +kernel
theorem dX11_back_30 : decode cX11_back 30 = .ok (.aload_n 0, 1) := by decide +kernel
theorem dX11_back_31 : decode cX11_back 31 = .ok (.getfield 10, 3) := by decide +kernel
theorem dX11_back_34 : decode cX11_back 34 = .ok (.getfield 104, 3) := by decide +kernel
theorem dX11_back_37 : decode cX11_back 37 = .ok (.ireturn, 1) := by decide +kernel
theorem dX11_read_0 : decode cX11_read 0 = .ok (.aload_n 0, 1) := by decide +kernel
theorem dX11_read_1 : decode cX11_read 1 = .ok (.getfield 10, 3) := by decide +kernel
theorem dX11_read_4 : decode cX11_read 4 = .ok (.invokevirtual 108, 3) := by decide +kernel
theorem dX11_read_7 : decode cX11_read 7 = .ok (.aload_n 0, 1) := by decide +kernel
theorem dX11_read_8 : decode cX11_read 8 = .ok (.getfield 10, 3) := by decide +kernel
theorem dX11_read_11 : decode cX11_read 11 = .ok (.getfield 111, 3) := by decide +kernel
theorem dX11_read_14 : decode cX11_read 14 = .ok (.ifCond .ne 10, 3) := by decide +kernel
theorem dX11_read_17 : decode cX11_read 17 = .ok (.aload_n 0, 1) := by decide +kernel
theorem dX11_read_18 : decode cX11_read 18 = .ok (.getfield 21, 3) := by decide +kernel
theorem dX11_read_21 : decode cX11_read 21 = .ok (.invokevirtual 114, 3) := by decide +kernel
theorem dX11_read_24 : decode cX11_read 24 = .ok (.aload_n 0, 1) := by decide +kernel
theorem dX11_read_25 : decode cX11_read 25 = .ok (.getfield 10, 3) := by decide +kernel
theorem dX11_read_28 : decode cX11_read 28 = .ok (.iconst 0, 1) := by decide +kernel
theorem dX11_read_29 : decode cX11_read 29 = .ok (.putfield 104, 3) := by decide +kernel
theorem dX11_read_32 : decode cX11_read 32 = .ok (.aload_n 0, 1) := by decide +kernel
theorem dX11_read_33 : decode cX11_read 33 = .ok (.getfield 10, 3) := by decide +kernel
theorem dX11_read_36 : decode cX11_read 36 = .ok (.getfield 111, 3) := by decide +kernel
theorem dX11_read_39 : decode cX11_read 39 = .ok (.ifCond .ne 53, 3) := by decide +kernel
theorem dX11_read_42 : decode cX11_read 42 = .ok (.aload_n 0, 1) := by decide +kernel
theorem dX11_read_43 : decode cX11_read 43 = .ok (.getfield 21, 3) := by decide +kernel
theorem dX11_read_46 : decode cX11_read 46 = .ok (.aload_n 0, 1) := by decide +kernel
theorem dX11_read_47 : decode cX11_read 47 = .ok (.getfield 28, 3) := by decide +kernel
theorem dX11_read_50 : decode cX11_read 50 = .ok (.aload_n 0, 1) := by decide +kernel
theorem dX11_read_51 : decode cX11_read 51 = .ok (.getfield 35, 3) := by decide +kernel
theorem dX11_read_54 : decode cX11_read 54 = .ok (.invokevirtual 117, 3) := by decide +kernel
theorem dX11_read_57 : decode cX11_read 57 = .ok (.aload_n 0, 1) := by decide +kernel
theorem dX11_read_58 : decode cX11_read 58 = .ok (.getfield 42, 3) := by decide +kernel
theorem dX11_read_61 : decode cX11_read 61 = .ok (.invokevirtual 120, 3) := by decide +kernel
theorem dX11_read_64 : decode cX11_read 64 = .ok (.aload_n 0, 1) := by decide +kernel
theorem dX11_read_65 : decode cX11_read 65 = .ok (.getfield 51, 3) := by decide +kernel
theorem dX11_read_68 : decode cX11_read 68 = .ok (.invokevirtual 123, 3) := by decide +kernel
theorem dX11_read_71 : decode cX11_read 71 = .ok (.aload_n 0, 1) := by decide +kernel
theorem dX11_read_72 : decode cX11_read 72 = .ok (.getfield 92, 3) := by decide +kernel
theorem dX11_read_75 : decode cX11_read 75 = .ok (.invokevirtual 126, 3) := by decide +kernel
theorem dX11_read_78 : decode cX11_read 78 = .ok (.aload_n 0, 1) := by decide +kernel
theorem dX11_read_79 : decode cX11_read 79 = .ok (.getfield 60, 3) := by decide +kernel
theorem dX11_read_82 : decode cX11_read 82 = .ok (.invokevirtual 127, 3) := by decide +kernel
theorem dX11_read_85 : decode cX11_read 85 = .ok (.aload_n 0, 1) := by decide +kernel
theorem dX11_read_86 : decode cX11_read 86 = .ok (.getfield 60, 3) := by decide +kernel
theorem dX11_read_89 : decode cX11_read 89 = .ok (.invokevirtual 130, 3) := by decide +kernel
theorem dX11_read_92 : decode cX11_read 92 = .ok (.aload_n 0, 1) := by decide +kernel
theorem dX11_read_93 : decode cX11_read 93 = .ok (.getfield 10, 3) := by decide +kernel
theorem dX11_read_96 : decode cX11_read 96 = .ok (.getfield 111, 3) := by decide +kernel
theorem dX11_read_99 : decode cX11_read 99 = .ok (.ireturn, 1) := by decide +kernel
theorem dX11_place_0 : decode cX11_place 0 = .ok (.aload_n 0, 1) := by decide +kernel
theorem dX11_place_1 : decode cX11_place 1 = .ok (.getfield 10, 3) := by decide +kernel
theorem dX11_place_4 : decode cX11_place 4 = .ok (.getfield 133, 3) := by decide +kernel
theorem dX11_place_7 : decode cX11_place 7 = .ok (.ireturn, 1) := by decide +kernel
theorem dX11_tell_0 : decode cX11_tell 0 = .ok (.aload_n 0, 1) := by decide +kernel
theorem dX11_tell_1 : decode cX11_tell 1 = .ok (.getfield 35, 3) := by decide +kernel
theorem dX11_tell_4 : decode cX11_tell 4 = .ok (.iload_n 1, 1) := by decide +kernel
theorem dX11_tell_5 : decode cX11_tell 5 = .ok (.invokevirtual 136, 3) := by decide +kernel
theorem dX11_tell_8 : decode cX11_tell 8 = .ok (.ifCond .eq 24, 3) := by decide +kernel
theorem dX11_tell_11 : decode cX11_tell 11 = .ok (.iload_n 2, 1) := by decide +kernel
theorem dX11_tell_12 : decode cX11_tell 12 = .ok (.ifCond .lt 20, 3) := by decide +kernel
theorem dX11_tell_15 : decode cX11_tell 15 = .ok (.iload_n 2, 1) := by decide +kernel
theorem dX11_tell_16 : decode cX11_tell 16 = .ok (.iconst 2, 1) := by decide +kernel
theorem dX11_tell_17 : decode cX11_tell 17 = .ok (.if_icmp .gt 15, 3) := by decide +kernel
theorem dX11_tell_20 : decode cX11_tell 20 = .ok (.aload_n 0, 1) := by decide +kernel
theorem dX11_tell_21 : decode cX11_tell 21 = .ok (.getfield 35, 3) := by decide +kernel
theorem dX11_tell_24 : decode cX11_tell 24 = .ok (.iload_n 1, 1) := by decide +kernel
theorem dX11_tell_25 : decode cX11_tell 25 = .ok (.invokevirtual 139, 3) := by decide +kernel
theorem dX11_tell_28 : decode cX11_tell 28 = .ok (.iload_n 2, 1) := by decide +kernel
theorem dX11_tell_29 : decode cX11_tell 29 = .ok (.if_icmp .ne 5, 3) := by decide +kernel
theorem dX11_tell_32 : decode cX11_tell 32 = .ok (.iconst 0, 1) := by decide +kernel
theorem dX11_tell_33 : decode cX11_tell 33 = .ok (.ireturn, 1) := by decide +kernel
theorem dX11_tell_34 : decode cX11_tell 34 = .ok (.aload_n 0, 1) := by decide +kernel
theorem dX11_tell_35 : decode cX11_tell 35 = .ok (.getfield 42, 3) := by decide +kernel
theorem dX11_tell_38 : decode cX11_tell 38 = .ok (.iload_n 1, 1) := by decide +kernel
theorem dX11_tell_39 : decode cX11_tell 39 = .ok (.aload_n 0, 1) := by decide +kernel
theorem dX11_tell_40 : decode cX11_tell 40 = .ok (.getfield 35, 3) := by decide +kernel
theorem dX11_tell_43 : decode cX11_tell 43 = .ok (.iload_n 1, 1) := by decide +kernel
theorem dX11_tell_44 : decode cX11_tell 44 = .ok (.invokevirtual 139, 3) := by decide +kernel
theorem dX11_tell_47 : decode cX11_tell 47 = .ok (.invokevirtual 143, 3) := by decide +kernel
theorem dX11_tell_50 : decode cX11_tell 50 = .ok (.aload_n 0, 1) := by decide +kernel
theorem dX11_tell_51 : decode cX11_tell 51 = .ok (.getfield 35, 3) := by decide +kernel
theorem dX11_tell_54 : decode cX11_tell 54 = .ok (.iload_n 1, 1) := by decide +kernel
theorem dX11_tell_55 : decode cX11_tell 55 = .ok (.iload_n 2, 1) := by decide +kernel
theorem dX11_tell_56 : decode cX11_tell 56 = .ok (.invokevirtual 147, 3) := by decide +kernel
theorem dX11_tell_59 : decode cX11_tell 59 = .ok (.aload_n 0, 1) := by decide +kernel
theorem dX11_tell_60 : decode cX11_tell 60 = .ok (.getfield 60, 3) := by decide +kernel
theorem dX11_tell_63 : decode cX11_tell 63 = .ok (.invokevirtual 150, 3) := by decide +kernel
theorem dX11_tell_66 : decode cX11_tell 66 = .ok (.iconst 1, 1) := by decide +kernel
theorem dX11_tell_67 : decode cX11_tell 67 = .ok (.ireturn, 1) := by decide +kernel
theorem dX11_lay_0 : decode cX11_lay 0 = .ok (.aload_n 0, 1) := by decide +kernel
theorem dX11_lay_1 : decode cX11_lay 1 = .ok (.iload_n 1, 1) := by decide +kernel
theorem dX11_lay_2 : decode cX11_lay 2 = .ok (.iload_n 2, 1) := by decide +kernel
theorem dX11_lay_3 : decode cX11_lay 3 = .ok (.invokevirtual 153, 3) := by decide +kernel
theorem dX11_lay_6 : decode cX11_lay 6 = .ok (.ifCond .eq 15, 3) := by decide +kernel
theorem dX11_lay_9 : decode cX11_lay 9 = .ok (.aload_n 0, 1) := by decide +kernel
theorem dX11_lay_10 : decode cX11_lay 10 = .ok (.getfield 35, 3) := by decide +kernel
theorem dX11_lay_13 : decode cX11_lay 13 = .ok (.getfield 157, 3) := by decide +kernel
theorem dX11_lay_16 : decode cX11_lay 16 = .ok (.bipush 12, 2) := by decide +kernel
theorem dX11_lay_18 : decode cX11_lay 18 = .ok (.if_icmp .lt 5, 3) := by decide +kernel
theorem dX11_lay_21 : decode cX11_lay 21 = .ok (.iconst (-1), 1) := by decide +kernel
theorem dX11_lay_22 : decode cX11_lay 22 = .ok (.ireturn, 1) := by decide +kernel
theorem dX11_lay_23 : decode cX11_lay 23 = .ok (.aload_n 0, 1) := by decide +kernel
theorem dX11_lay_24 : decode cX11_lay 24 = .ok (.getfield 51, 3) := by decide +kernel
theorem dX11_lay_27 : decode cX11_lay 27 = .ok (.iload_n 1, 1) := by decide +kernel
theorem dX11_lay_28 : decode cX11_lay 28 = .ok (.iload_n 2, 1) := by decide +kernel
theorem dX11_lay_29 : decode cX11_lay 29 = .ok (.invokevirtual 160, 3) := by decide +kernel
theorem dX11_lay_32 : decode cX11_lay 32 = .ok (.aload_n 0, 1) := by decide +kernel
theorem dX11_lay_33 : decode cX11_lay 33 = .ok (.getfield 51, 3) := by decide +kernel
theorem dX11_lay_36 : decode cX11_lay 36 = .ok (.iload_n 3, 1) := by decide +kernel
theorem dX11_lay_37 : decode cX11_lay 37 = .ok (.invokevirtual 163, 3) := by decide +kernel
theorem dX11_lay_40 : decode cX11_lay 40 = .ok (.ifCond .ne 5, 3) := by decide +kernel
theorem dX11_lay_43 : decode cX11_lay 43 = .ok (.iconst (-1), 1) := by decide +kernel
theorem dX11_lay_44 : decode cX11_lay 44 = .ok (.ireturn, 1) := by decide +kernel
theorem dX11_lay_45 : decode cX11_lay 45 = .ok (.aload_n 0, 1) := by decide +kernel
theorem dX11_lay_46 : decode cX11_lay 46 = .ok (.getfield 42, 3) := by decide +kernel
theorem dX11_lay_49 : decode cX11_lay 49 = .ok (.invokevirtual 164, 3) := by decide +kernel
theorem dX11_lay_52 : decode cX11_lay 52 = .ok (.aload_n 0, 1) := by decide +kernel
theorem dX11_lay_53 : decode cX11_lay 53 = .ok (.getfield 35, 3) := by decide +kernel
theorem dX11_lay_56 : decode cX11_lay 56 = .ok (.aload_n 0, 1) := by decide +kernel
theorem dX11_lay_57 : decode cX11_lay 57 = .ok (.getfield 51, 3) := by decide +kernel
theorem dX11_lay_60 : decode cX11_lay 60 = .ok (.iload_n 3, 1) := by decide +kernel
theorem dX11_lay_61 : decode cX11_lay 61 = .ok (.invokevirtual 167, 3) := by decide +kernel
theorem dX11_lay_64 : decode cX11_lay 64 = .ok (.aload_n 0, 1) := by decide +kernel
theorem dX11_lay_65 : decode cX11_lay 65 = .ok (.getfield 51, 3) := by decide +kernel
theorem dX11_lay_68 : decode cX11_lay 68 = .ok (.iload_n 3, 1) := by decide +kernel
theorem dX11_lay_69 : decode cX11_lay 69 = .ok (.invokevirtual 170, 3) := by decide +kernel
theorem dX11_lay_72 : decode cX11_lay 72 = .ok (.invokevirtual 173, 3) := by decide +kernel
theorem dX11_lay_75 : decode cX11_lay 75 = .ok (.aload_n 0, 1) := by decide +kernel
theorem dX11_lay_76 : decode cX11_lay 76 = .ok (.getfield 60, 3) := by decide +kernel
theorem dX11_lay_79 : decode cX11_lay 79 = .ok (.invokevirtual 130, 3) := by decide +kernel
theorem dX11_lay_82 : decode cX11_lay 82 = .ok (.aload_n 0, 1) := by decide +kernel
theorem dX11_lay_83 : decode cX11_lay 83 = .ok (.getfield 35, 3) := by decide +kernel
theorem dX11_lay_86 : decode cX11_lay 86 = .ok (.getfield 157, 3) := by decide +kernel
theorem dX11_lay_89 : decode cX11_lay 89 = .ok (.iconst 1, 1) := by decide +kernel
theorem dX11_lay_90 : decode cX11_lay 90 = .ok (.isub, 1) := by decide +kernel
theorem dX11_lay_91 : decode cX11_lay 91 = .ok (.ireturn, 1) := by decide +kernel
theorem dX11_undo_0 : decode cX11_undo 0 = .ok (.aload_n 0, 1) := by decide +kernel
theorem dX11_undo_1 : decode cX11_undo 1 = .ok (.getfield 42, 3) := by decide +kernel
theorem dX11_undo_4 : decode cX11_undo 4 = .ok (.getfield 176, 3) := by decide +kernel
theorem dX11_undo_7 : decode cX11_undo 7 = .ok (.ifCond .ne 5, 3) := by decide +kernel
theorem dX11_undo_10 : decode cX11_undo 10 = .ok (.iconst 0, 1) := by decide +kernel
theorem dX11_undo_11 : decode cX11_undo 11 = .ok (.ireturn, 1) := by decide +kernel
theorem dX11_undo_12 : decode cX11_undo 12 = .ok (.aload_n 0, 1) := by decide +kernel
theorem dX11_undo_13 : decode cX11_undo 13 = .ok (.getfield 42, 3) := by decide +kernel
theorem dX11_undo_16 : decode cX11_undo 16 = .ok (.invokevirtual 179, 3) := by decide +kernel
theorem dX11_undo_19 : decode cX11_undo 19 = .ok (.istore_n 1, 1) := by decide +kernel
theorem dX11_undo_20 : decode cX11_undo 20 = .ok (.iload_n 1, 1) := by decide +kernel
theorem dX11_undo_21 : decode cX11_undo 21 = .ok (.iconst (-1), 1) := by decide +kernel
theorem dX11_undo_22 : decode cX11_undo 22 = .ok (.if_icmp .ne 20, 3) := by decide +kernel
theorem dX11_undo_25 : decode cX11_undo 25 = .ok (.aload_n 0, 1) := by decide +kernel
theorem dX11_undo_26 : decode cX11_undo 26 = .ok (.getfield 35, 3) := by decide +kernel
theorem dX11_undo_29 : decode cX11_undo 29 = .ok (.invokevirtual 183, 3) := by decide +kernel
theorem dX11_undo_32 : decode cX11_undo 32 = .ok (.aload_n 0, 1) := by decide +kernel
theorem dX11_undo_33 : decode cX11_undo 33 = .ok (.getfield 60, 3) := by decide +kernel
theorem dX11_undo_36 : decode cX11_undo 36 = .ok (.invokevirtual 130, 3) := by decide +kernel
theorem dX11_undo_39 : decode cX11_undo 39 = .ok (.goto 25, 3) := by decide +kernel
theorem dX11_undo_42 : decode cX11_undo 42 = .ok (.aload_n 0, 1) := by decide +kernel
theorem dX11_undo_43 : decode cX11_undo 43 = .ok (.getfield 35, 3) := by decide +kernel
theorem dX11_undo_46 : decode cX11_undo 46 = .ok (.iload_n 1, 1) := by decide +kernel
theorem dX11_undo_47 : decode cX11_undo 47 = .ok (.invokestatic 186, 3) := by decide +kernel
theorem dX11_undo_50 : decode cX11_undo 50 = .ok (.iload_n 1, 1) := by decide +kernel
theorem dX11_undo_51 : decode cX11_undo 51 = .ok (.invokestatic 189, 3) := by decide +kernel
theorem dX11_undo_54 : decode cX11_undo 54 = .ok (.invokevirtual 147, 3) := by decide +kernel
theorem dX11_undo_57 : decode cX11_undo 57 = .ok (.aload_n 0, 1) := by decide +kernel
theorem dX11_undo_58 : decode cX11_undo 58 = .ok (.getfield 60, 3) := by decide +kernel
theorem dX11_undo_61 : decode cX11_undo 61 = .ok (.invokevirtual 150, 3) := by decide +kernel
theorem dX11_undo_64 : decode cX11_undo 64 = .ok (.iconst 1, 1) := by decide +kernel
theorem dX11_undo_65 : decode cX11_undo 65 = .ok (.ireturn, 1) := by decide +kernel
theorem dX11_link_0 : decode cX11_link 0 = .ok (.aload_n 0, 1) := by decide +kernel
theorem dX11_link_1 : decode cX11_link 1 = .ok (.getfield 28, 3) := by decide +kernel
theorem dX11_link_4 : decode cX11_link 4 = .ok (.iload_n 1, 1) := by decide +kernel
theorem dX11_link_5 : decode cX11_link 5 = .ok (.invokevirtual 190, 3) := by decide +kernel
theorem dX11_link_8 : decode cX11_link 8 = .ok (.ifCond .ne 5, 3) := by decide +kernel
theorem dX11_link_11 : decode cX11_link 11 = .ok (.iconst (-1), 1) := by decide +kernel
theorem dX11_link_12 : decode cX11_link 12 = .ok (.ireturn, 1) := by decide +kernel
theorem dX11_link_13 : decode cX11_link 13 = .ok (.iload_n 2, 1) := by decide +kernel
theorem dX11_link_14 : decode cX11_link 14 = .ok (.tableswitch 79 0 4 #[34, 43, 52, 61, 70], 34) := by decide +kernel
theorem dX11_link_48 : decode cX11_link 48 = .ok (.aload_n 0, 1) := by decide +kernel
theorem dX11_link_49 : decode cX11_link 49 = .ok (.getfield 28, 3) := by decide +kernel
theorem dX11_link_52 : decode cX11_link 52 = .ok (.iload_n 1, 1) := by decide +kernel
theorem dX11_link_53 : decode cX11_link 53 = .ok (.invokevirtual 193, 3) := by decide +kernel
theorem dX11_link_56 : decode cX11_link 56 = .ok (.ireturn, 1) := by decide +kernel
theorem dX11_link_57 : decode cX11_link 57 = .ok (.aload_n 0, 1) := by decide +kernel
theorem dX11_link_58 : decode cX11_link 58 = .ok (.getfield 28, 3) := by decide +kernel
theorem dX11_link_61 : decode cX11_link 61 = .ok (.iload_n 1, 1) := by decide +kernel
theorem dX11_link_62 : decode cX11_link 62 = .ok (.invokevirtual 196, 3) := by decide +kernel
theorem dX11_link_65 : decode cX11_link 65 = .ok (.ireturn, 1) := by decide +kernel
theorem dX11_link_66 : decode cX11_link 66 = .ok (.aload_n 0, 1) := by decide +kernel
theorem dX11_link_67 : decode cX11_link 67 = .ok (.getfield 28, 3) := by decide +kernel
theorem dX11_link_70 : decode cX11_link 70 = .ok (.iload_n 1, 1) := by decide +kernel
theorem dX11_link_71 : decode cX11_link 71 = .ok (.invokevirtual 199, 3) := by decide +kernel
theorem dX11_link_74 : decode cX11_link 74 = .ok (.ireturn, 1) := by decide +kernel
theorem dX11_link_75 : decode cX11_link 75 = .ok (.aload_n 0, 1) := by decide +kernel
theorem dX11_link_76 : decode cX11_link 76 = .ok (.getfield 35, 3) := by decide +kernel
theorem dX11_link_79 : decode cX11_link 79 = .ok (.iload_n 1, 1) := by decide +kernel
theorem dX11_link_80 : decode cX11_link 80 = .ok (.invokevirtual 202, 3) := by decide +kernel
theorem dX11_link_83 : decode cX11_link 83 = .ok (.ireturn, 1) := by decide +kernel
theorem dX11_link_84 : decode cX11_link 84 = .ok (.aload_n 0, 1) := by decide +kernel
theorem dX11_link_85 : decode cX11_link 85 = .ok (.getfield 60, 3) := by decide +kernel
theorem dX11_link_88 : decode cX11_link 88 = .ok (.iload_n 1, 1) := by decide +kernel
theorem dX11_link_89 : decode cX11_link 89 = .ok (.invokevirtual 205, 3) := by decide +kernel
theorem dX11_link_92 : decode cX11_link 92 = .ok (.ireturn, 1) := by decide +kernel
theorem dX11_link_93 : decode cX11_link 93 = .ok (.iconst (-1), 1) := by decide +kernel
theorem dX11_link_94 : decode cX11_link 94 = .ok (.ireturn, 1) := by decide +kernel
theorem dX11_way_0 : decode cX11_way 0 = .ok (.aload_n 0, 1) := by decide +kernel
theorem dX11_way_1 : decode cX11_way 1 = .ok (.getfield 35, 3) := by decide +kernel
theorem dX11_way_4 : decode cX11_way 4 = .ok (.iload_n 1, 1) := by decide +kernel
theorem dX11_way_5 : decode cX11_way 5 = .ok (.invokevirtual 136, 3) := by decide +kernel
theorem dX11_way_8 : decode cX11_way 8 = .ok (.ifCond .ne 5, 3) := by decide +kernel
theorem dX11_way_11 : decode cX11_way 11 = .ok (.iconst (-1), 1) := by decide +kernel
theorem dX11_way_12 : decode cX11_way 12 = .ok (.ireturn, 1) := by decide +kernel
theorem dX11_way_13 : decode cX11_way 13 = .ok (.iload_n 2, 1) := by decide +kernel
theorem dX11_way_14 : decode cX11_way 14 = .ok (.tableswitch 56 0 2 #[26, 35, 44], 26) := by decide +kernel
theorem dX11_way_40 : decode cX11_way 40 = .ok (.aload_n 0, 1) := by decide +kernel
theorem dX11_way_41 : decode cX11_way 41 = .ok (.getfield 35, 3) := by decide +kernel
theorem dX11_way_44 : decode cX11_way 44 = .ok (.iload_n 1, 1) := by decide +kernel
theorem dX11_way_45 : decode cX11_way 45 = .ok (.invokevirtual 139, 3) := by decide +kernel
theorem dX11_way_48 : decode cX11_way 48 = .ok (.ireturn, 1) := by decide +kernel
theorem dX11_way_49 : decode cX11_way 49 = .ok (.aload_n 0, 1) := by decide +kernel
theorem dX11_way_50 : decode cX11_way 50 = .ok (.getfield 35, 3) := by decide +kernel
theorem dX11_way_53 : decode cX11_way 53 = .ok (.iload_n 1, 1) := by decide +kernel
theorem dX11_way_54 : decode cX11_way 54 = .ok (.invokevirtual 208, 3) := by decide +kernel
theorem dX11_way_57 : decode cX11_way 57 = .ok (.ireturn, 1) := by decide +kernel
theorem dX11_way_58 : decode cX11_way 58 = .ok (.aload_n 0, 1) := by decide +kernel
theorem dX11_way_59 : decode cX11_way 59 = .ok (.getfield 35, 3) := by decide +kernel
theorem dX11_way_62 : decode cX11_way 62 = .ok (.iload_n 1, 1) := by decide +kernel
theorem dX11_way_63 : decode cX11_way 63 = .ok (.invokevirtual 209, 3) := by decide +kernel
theorem dX11_way_66 : decode cX11_way 66 = .ok (.invokestatic 210, 3) := by decide +kernel
theorem dX11_way_69 : decode cX11_way 69 = .ok (.ireturn, 1) := by decide +kernel
theorem dX11_way_70 : decode cX11_way 70 = .ok (.iconst (-1), 1) := by decide +kernel
theorem dX11_way_71 : decode cX11_way 71 = .ok (.ireturn, 1) := by decide +kernel
theorem dX11_post_0 : decode cX11_post 0 = .ok (.aload_n 0, 1) := by decide +kernel
theorem dX11_post_1 : decode cX11_post 1 = .ok (.getfield 35, 3) := by decide +kernel
theorem dX11_post_4 : decode cX11_post 4 = .ok (.iload_n 1, 1) := by decide +kernel
theorem dX11_post_5 : decode cX11_post 5 = .ok (.invokevirtual 136, 3) := by decide +kernel
theorem dX11_post_8 : decode cX11_post 8 = .ok (.ifCond .eq 18, 3) := by decide +kernel
theorem dX11_post_11 : decode cX11_post 11 = .ok (.aload_n 0, 1) := by decide +kernel
theorem dX11_post_12 : decode cX11_post 12 = .ok (.getfield 35, 3) := by decide +kernel
theorem dX11_post_15 : decode cX11_post 15 = .ok (.iload_n 1, 1) := by decide +kernel
theorem dX11_post_16 : decode cX11_post 16 = .ok (.invokevirtual 209, 3) := by decide +kernel
theorem dX11_post_19 : decode cX11_post 19 = .ok (.iload_n 2, 1) := by decide +kernel
theorem dX11_post_20 : decode cX11_post 20 = .ok (.invokestatic 213, 3) := by decide +kernel
theorem dX11_post_23 : decode cX11_post 23 = .ok (.goto 4, 3) := by decide +kernel
theorem dX11_post_26 : decode cX11_post 26 = .ok (.iconst (-1), 1) := by decide +kernel
theorem dX11_post_27 : decode cX11_post 27 = .ok (.ireturn, 1) := by decide +kernel
theorem dX11_sets_0 : decode cX11_sets 0 = .ok (.iload_n 1, 1) := by decide +kernel
theorem dX11_sets_1 : decode cX11_sets 1 = .ok (.ifCond .lt 9, 3) := by decide +kernel
theorem dX11_sets_4 : decode cX11_sets 4 = .ok (.iload_n 1, 1) := by decide +kernel
theorem dX11_sets_5 : decode cX11_sets 5 = .ok (.bipush 12, 2) := by decide +kernel
theorem dX11_sets_7 : decode cX11_sets 7 = .ok (.if_icmp .le 5, 3) := by decide +kernel
theorem dX11_sets_10 : decode cX11_sets 10 = .ok (.iconst (-1), 1) := by decide +kernel
theorem dX11_sets_11 : decode cX11_sets 11 = .ok (.ireturn, 1) := by decide +kernel
theorem dX11_sets_12 : decode cX11_sets 12 = .ok (.aload_n 0, 1) := by decide +kernel
theorem dX11_sets_13 : decode cX11_sets 13 = .ok (.getfield 60, 3) := by decide +kernel
theorem dX11_sets_16 : decode cX11_sets 16 = .ok (.iload_n 1, 1) := by decide +kernel
theorem dX11_sets_17 : decode cX11_sets 17 = .ok (.aload_n 0, 1) := by decide +kernel
theorem dX11_sets_18 : decode cX11_sets 18 = .ok (.getfield 35, 3) := by decide +kernel
theorem dX11_sets_21 : decode cX11_sets 21 = .ok (.invokevirtual 217, 3) := by decide +kernel
theorem dX11_sets_24 : decode cX11_sets 24 = .ok (.aload_n 0, 1) := by decide +kernel
theorem dX11_sets_25 : decode cX11_sets 25 = .ok (.getfield 35, 3) := by decide +kernel
theorem dX11_sets_28 : decode cX11_sets 28 = .ok (.invokevirtual 220, 3) := by decide +kernel
theorem dX11_sets_31 : decode cX11_sets 31 = .ok (.invokevirtual 223, 3) := by decide +kernel
theorem dX11_sets_34 : decode cX11_sets 34 = .ok (.ireturn, 1) := by decide +kernel
theorem dX11_lean_0 : decode cX11_lean 0 = .ok (.aload_n 0, 1) := by decide +kernel
theorem dX11_lean_1 : decode cX11_lean 1 = .ok (.getfield 60, 3) := by decide +kernel
theorem dX11_lean_4 : decode cX11_lean 4 = .ok (.invokevirtual 227, 3) := by decide +kernel
theorem dX11_lean_7 : decode cX11_lean 7 = .ok (.iload_n 1, 1) := by decide +kernel
theorem dX11_lean_8 : decode cX11_lean 8 = .ok (.iconst (-1), 1) := by decide +kernel
theorem dX11_lean_9 : decode cX11_lean 9 = .ok (.if_icmp .ne 13, 3) := by decide +kernel
theorem dX11_lean_12 : decode cX11_lean 12 = .ok (.aload_n 0, 1) := by decide +kernel
theorem dX11_lean_13 : decode cX11_lean 13 = .ok (.getfield 60, 3) := by decide +kernel
theorem dX11_lean_16 : decode cX11_lean 16 = .ok (.getfield 230, 3) := by decide +kernel
theorem dX11_lean_19 : decode cX11_lean 19 = .ok (.goto 11, 3) := by decide +kernel
theorem dX11_lean_22 : decode cX11_lean 22 = .ok (.aload_n 0, 1) := by decide +kernel
theorem dX11_lean_23 : decode cX11_lean 23 = .ok (.getfield 60, 3) := by decide +kernel
theorem dX11_lean_26 : decode cX11_lean 26 = .ok (.iload_n 1, 1) := by decide +kernel
theorem dX11_lean_27 : decode cX11_lean 27 = .ok (.invokevirtual 233, 3) := by decide +kernel
theorem dX11_lean_30 : decode cX11_lean 30 = .ok (.ireturn, 1) := by decide +kernel
theorem dX11_explains_0 : decode cX11_explains 0 = .ok (.aload_n 0, 1) := by decide +kernel
theorem dX11_explains_1 : decode cX11_explains 1 = .ok (.getfield 28, 3) := by decide +kernel
theorem dX11_explains_4 : decode cX11_explains 4 = .ok (.iload_n 1, 1) := by decide +kernel
theorem dX11_explains_5 : decode cX11_explains 5 = .ok (.invokevirtual 236, 3) := by decide +kernel
theorem dX11_explains_8 : decode cX11_explains 8 = .ok (.ifCond .ne 5, 3) := by decide +kernel
theorem dX11_explains_11 : decode cX11_explains 11 = .ok (.iconst (-1), 1) := by decide +kernel
theorem dX11_explains_12 : decode cX11_explains 12 = .ok (.ireturn, 1) := by decide +kernel
theorem dX11_explains_13 : decode cX11_explains 13 = .ok (.aload_n 0, 1) := by decide +kernel
theorem dX11_explains_14 : decode cX11_explains 14 = .ok (.getfield 35, 3) := by decide +kernel
theorem dX11_explains_17 : decode cX11_explains 17 = .ok (.invokevirtual 217, 3) := by decide +kernel
theorem dX11_explains_20 : decode cX11_explains 20 = .ok (.istore_n 2, 1) := by decide +kernel
theorem dX11_explains_21 : decode cX11_explains 21 = .ok (.aload_n 0, 1) := by decide +kernel
theorem dX11_explains_22 : decode cX11_explains 22 = .ok (.getfield 35, 3) := by decide +kernel
theorem dX11_explains_25 : decode cX11_explains 25 = .ok (.invokevirtual 220, 3) := by decide +kernel
theorem dX11_explains_28 : decode cX11_explains 28 = .ok (.istore_n 3, 1) := by decide +kernel
theorem dX11_explains_29 : decode cX11_explains 29 = .ok (.aload_n 0, 1) := by decide +kernel
theorem dX11_explains_30 : decode cX11_explains 30 = .ok (.getfield 60, 3) := by decide +kernel
theorem dX11_explains_33 : decode cX11_explains 33 = .ok (.iload_n 1, 1) := by decide +kernel
theorem dX11_explains_34 : decode cX11_explains 34 = .ok (.iload_n 2, 1) := by decide +kernel
theorem dX11_explains_35 : decode cX11_explains 35 = .ok (.iload_n 3, 1) := by decide +kernel
theorem dX11_explains_36 : decode cX11_explains 36 = .ok (.invokevirtual 239, 3) := by decide +kernel
theorem dX11_explains_39 : decode cX11_explains 39 = .ok (.ifCond .ne 5, 3) := by decide +kernel
theorem dX11_explains_42 : decode cX11_explains 42 = .ok (.iconst 0, 1) := by decide +kernel
theorem dX11_explains_43 : decode cX11_explains 43 = .ok (.ireturn, 1) := by decide +kernel
theorem dX11_explains_44 : decode cX11_explains 44 = .ok (.aload_n 0, 1) := by decide +kernel
theorem dX11_explains_45 : decode cX11_explains 45 = .ok (.getfield 60, 3) := by decide +kernel
theorem dX11_explains_48 : decode cX11_explains 48 = .ok (.iload_n 1, 1) := by decide +kernel
theorem dX11_explains_49 : decode cX11_explains 49 = .ok (.iload_n 2, 1) := by decide +kernel
theorem dX11_explains_50 : decode cX11_explains 50 = .ok (.iload_n 3, 1) := by decide +kernel
theorem dX11_explains_51 : decode cX11_explains 51 = .ok (.invokevirtual 243, 3) := by decide +kernel
theorem dX11_explains_54 : decode cX11_explains 54 = .ok (.ifCond .eq 7, 3) := by decide +kernel
theorem dX11_explains_57 : decode cX11_explains 57 = .ok (.iconst 2, 1) := by decide +kernel
theorem dX11_explains_58 : decode cX11_explains 58 = .ok (.goto 4, 3) := by decide +kernel
theorem dX11_explains_61 : decode cX11_explains 61 = .ok (.iconst 1, 1) := by decide +kernel
theorem dX11_explains_62 : decode cX11_explains 62 = .ok (.ireturn, 1) := by decide +kernel
theorem dX11_likeliest_0 : decode cX11_likeliest 0 = .ok (.aload_n 0, 1) := by decide +kernel
theorem dX11_likeliest_1 : decode cX11_likeliest 1 = .ok (.getfield 60, 3) := by decide +kernel
theorem dX11_likeliest_4 : decode cX11_likeliest 4 = .ok (.aload_n 0, 1) := by decide +kernel
theorem dX11_likeliest_5 : decode cX11_likeliest 5 = .ok (.getfield 35, 3) := by decide +kernel
theorem dX11_likeliest_8 : decode cX11_likeliest 8 = .ok (.invokevirtual 217, 3) := by decide +kernel
theorem dX11_likeliest_11 : decode cX11_likeliest 11 = .ok (.aload_n 0, 1) := by decide +kernel
theorem dX11_likeliest_12 : decode cX11_likeliest 12 = .ok (.getfield 35, 3) := by decide +kernel
theorem dX11_likeliest_15 : decode cX11_likeliest 15 = .ok (.invokevirtual 220, 3) := by decide +kernel
theorem dX11_likeliest_18 : decode cX11_likeliest 18 = .ok (.invokevirtual 246, 3) := by decide +kernel
theorem dX11_likeliest_21 : decode cX11_likeliest 21 = .ok (.ireturn, 1) := by decide +kernel
theorem dX11_weight_0 : decode cX11_weight 0 = .ok (.iload_n 1, 1) := by decide +kernel
theorem dX11_weight_1 : decode cX11_weight 1 = .ok (.iconst (-1), 1) := by decide +kernel
theorem dX11_weight_2 : decode cX11_weight 2 = .ok (.if_icmp .eq 18, 3) := by decide +kernel
theorem dX11_weight_5 : decode cX11_weight 5 = .ok (.aload_n 0, 1) := by decide +kernel
theorem dX11_weight_6 : decode cX11_weight 6 = .ok (.getfield 28, 3) := by decide +kernel
theorem dX11_weight_9 : decode cX11_weight 9 = .ok (.iload_n 1, 1) := by decide +kernel
theorem dX11_weight_10 : decode cX11_weight 10 = .ok (.invokevirtual 190, 3) := by decide +kernel
theorem dX11_weight_13 : decode cX11_weight 13 = .ok (.ifCond .ne 7, 3) := by decide +kernel
theorem dX11_weight_16 : decode cX11_weight 16 = .ok (.ldc2_w 249, 3) := by decide +kernel
theorem dX11_weight_19 : decode cX11_weight 19 = .ok (.lreturn, 1) := by decide +kernel
theorem dX11_weight_20 : decode cX11_weight 20 = .ok (.aload_n 0, 1) := by decide +kernel
theorem dX11_weight_21 : decode cX11_weight 21 = .ok (.getfield 60, 3) := by decide +kernel
theorem dX11_weight_24 : decode cX11_weight 24 = .ok (.iload_n 1, 1) := by decide +kernel
theorem dX11_weight_25 : decode cX11_weight 25 = .ok (.iconst (-1), 1) := by decide +kernel
theorem dX11_weight_26 : decode cX11_weight 26 = .ok (.if_icmp .ne 7, 3) := by decide +kernel
theorem dX11_weight_29 : decode cX11_weight 29 = .ok (.iconst 0, 1) := by decide +kernel
theorem dX11_weight_30 : decode cX11_weight 30 = .ok (.goto 6, 3) := by decide +kernel
theorem dX11_weight_33 : decode cX11_weight 33 = .ok (.iconst 1, 1) := by decide +kernel
theorem dX11_weight_34 : decode cX11_weight 34 = .ok (.iload_n 1, 1) := by decide +kernel
theorem dX11_weight_35 : decode cX11_weight 35 = .ok (.ishl, 1) := by decide +kernel
theorem dX11_weight_36 : decode cX11_weight 36 = .ok (.aload_n 0, 1) := by decide +kernel
theorem dX11_weight_37 : decode cX11_weight 37 = .ok (.getfield 35, 3) := by decide +kernel
theorem dX11_weight_40 : decode cX11_weight 40 = .ok (.invokevirtual 217, 3) := by decide +kernel
theorem dX11_weight_43 : decode cX11_weight 43 = .ok (.aload_n 0, 1) := by decide +kernel
theorem dX11_weight_44 : decode cX11_weight 44 = .ok (.getfield 35, 3) := by decide +kernel
theorem dX11_weight_47 : decode cX11_weight 47 = .ok (.invokevirtual 220, 3) := by decide +kernel
theorem dX11_weight_50 : decode cX11_weight 50 = .ok (.invokevirtual 251, 3) := by decide +kernel
theorem dX11_weight_53 : decode cX11_weight 53 = .ok (.lreturn, 1) := by decide +kernel
theorem dX11_cheapest_0 : decode cX11_cheapest 0 = .ok (.iload_n 1, 1) := by decide +kernel
theorem dX11_cheapest_1 : decode cX11_cheapest 1 = .ok (.ifCond .lt 8, 3) := by decide +kernel
theorem dX11_cheapest_4 : decode cX11_cheapest 4 = .ok (.iload_n 1, 1) := by decide +kernel
theorem dX11_cheapest_5 : decode cX11_cheapest 5 = .ok (.iconst 3, 1) := by decide +kernel
theorem dX11_cheapest_6 : decode cX11_cheapest 6 = .ok (.if_icmp .le 5, 3) := by decide +kernel
theorem dX11_cheapest_9 : decode cX11_cheapest 9 = .ok (.iconst (-1), 1) := by decide +kernel
theorem dX11_cheapest_10 : decode cX11_cheapest 10 = .ok (.ireturn, 1) := by decide +kernel
theorem dX11_cheapest_11 : decode cX11_cheapest 11 = .ok (.aload_n 0, 1) := by decide +kernel
theorem dX11_cheapest_12 : decode cX11_cheapest 12 = .ok (.getfield 69, 3) := by decide +kernel
theorem dX11_cheapest_15 : decode cX11_cheapest 15 = .ok (.invokevirtual 255, 3) := by decide +kernel
theorem dX11_cheapest_18 : decode cX11_cheapest 18 = .ok (.iload_n 1, 1) := by decide +kernel
theorem dX11_cheapest_19 : decode cX11_cheapest 19 = .ok (.tableswitch 70 0 2 #[25, 33, 41], 25) := by decide +kernel
theorem dX11_cheapest_44 : decode cX11_cheapest 44 = .ok (.aload_n 0, 1) := by decide +kernel
theorem dX11_cheapest_45 : decode cX11_cheapest 45 = .ok (.getfield 69, 3) := by decide +kernel
theorem dX11_cheapest_48 : decode cX11_cheapest 48 = .ok (.getfield 258, 3) := by decide +kernel
theorem dX11_cheapest_51 : decode cX11_cheapest 51 = .ok (.ireturn, 1) := by decide +kernel
theorem dX11_cheapest_52 : decode cX11_cheapest 52 = .ok (.aload_n 0, 1) := by decide +kernel
theorem dX11_cheapest_53 : decode cX11_cheapest 53 = .ok (.getfield 69, 3) := by decide +kernel
theorem dX11_cheapest_56 : decode cX11_cheapest 56 = .ok (.getfield 261, 3) := by decide +kernel
theorem dX11_cheapest_59 : decode cX11_cheapest 59 = .ok (.ireturn, 1) := by decide +kernel
theorem dX11_cheapest_60 : decode cX11_cheapest 60 = .ok (.aload_n 0, 1) := by decide +kernel
theorem dX11_cheapest_61 : decode cX11_cheapest 61 = .ok (.getfield 69, 3) := by decide +kernel
theorem dX11_cheapest_64 : decode cX11_cheapest 64 = .ok (.aload_n 0, 1) := by decide +kernel
theorem dX11_cheapest_65 : decode cX11_cheapest 65 = .ok (.getfield 69, 3) := by decide +kernel
theorem dX11_cheapest_68 : decode cX11_cheapest 68 = .ok (.getfield 258, 3) := by decide +kernel
theorem dX11_cheapest_71 : decode cX11_cheapest 71 = .ok (.aload_n 0, 1) := by decide +kernel
theorem dX11_cheapest_72 : decode cX11_cheapest 72 = .ok (.getfield 35, 3) := by decide +kernel
theorem dX11_cheapest_75 : decode cX11_cheapest 75 = .ok (.invokevirtual 217, 3) := by decide +kernel
theorem dX11_cheapest_78 : decode cX11_cheapest 78 = .ok (.aload_n 0, 1) := by decide +kernel
theorem dX11_cheapest_79 : decode cX11_cheapest 79 = .ok (.getfield 35, 3) := by decide +kernel
theorem dX11_cheapest_82 : decode cX11_cheapest 82 = .ok (.invokevirtual 220, 3) := by decide +kernel
theorem dX11_cheapest_85 : decode cX11_cheapest 85 = .ok (.invokevirtual 264, 3) := by decide +kernel
theorem dX11_cheapest_88 : decode cX11_cheapest 88 = .ok (.ireturn, 1) := by decide +kernel
theorem dX11_cheapest_89 : decode cX11_cheapest 89 = .ok (.aload_n 0, 1) := by decide +kernel
theorem dX11_cheapest_90 : decode cX11_cheapest 90 = .ok (.getfield 69, 3) := by decide +kernel
theorem dX11_cheapest_93 : decode cX11_cheapest 93 = .ok (.getfield 267, 3) := by decide +kernel
theorem dX11_cheapest_96 : decode cX11_cheapest 96 = .ok (.ireturn, 1) := by decide +kernel
theorem dX11_disbelieved_0 : decode cX11_disbelieved 0 = .ok (.aload_n 0, 1) := by decide +kernel
theorem dX11_disbelieved_1 : decode cX11_disbelieved 1 = .ok (.getfield 69, 3) := by decide +kernel
theorem dX11_disbelieved_4 : decode cX11_disbelieved 4 = .ok (.invokevirtual 270, 3) := by decide +kernel
theorem dX11_disbelieved_7 : decode cX11_disbelieved 7 = .ok (.iload_n 1, 1) := by decide +kernel
theorem dX11_disbelieved_8 : decode cX11_disbelieved 8 = .ok (.invokestatic 273, 3) := by decide +kernel
theorem dX11_disbelieved_11 : decode cX11_disbelieved 11 = .ok (.ireturn, 1) := by decide +kernel
theorem dX11_blamed_0 : decode cX11_blamed 0 = .ok (.iload_n 1, 1) := by decide +kernel
theorem dX11_blamed_1 : decode cX11_blamed 1 = .ok (.iconst (-1), 1) := by decide +kernel
theorem dX11_blamed_2 : decode cX11_blamed 2 = .ok (.if_icmp .eq 16, 3) := by decide +kernel
theorem dX11_blamed_5 : decode cX11_blamed 5 = .ok (.aload_n 0, 1) := by decide +kernel
theorem dX11_blamed_6 : decode cX11_blamed 6 = .ok (.getfield 35, 3) := by decide +kernel
theorem dX11_blamed_9 : decode cX11_blamed 9 = .ok (.iload_n 1, 1) := by decide +kernel
theorem dX11_blamed_10 : decode cX11_blamed 10 = .ok (.invokevirtual 136, 3) := by decide +kernel
theorem dX11_blamed_13 : decode cX11_blamed 13 = .ok (.ifCond .ne 5, 3) := by decide +kernel
theorem dX11_blamed_16 : decode cX11_blamed 16 = .ok (.iconst (-1), 1) := by decide +kernel
theorem dX11_blamed_17 : decode cX11_blamed 17 = .ok (.ireturn, 1) := by decide +kernel
theorem dX11_blamed_18 : decode cX11_blamed 18 = .ok (.aload_n 0, 1) := by decide +kernel
theorem dX11_blamed_19 : decode cX11_blamed 19 = .ok (.getfield 69, 3) := by decide +kernel
theorem dX11_blamed_22 : decode cX11_blamed 22 = .ok (.iload_n 1, 1) := by decide +kernel
theorem dX11_blamed_23 : decode cX11_blamed 23 = .ok (.iconst (-1), 1) := by decide +kernel
theorem dX11_blamed_24 : decode cX11_blamed 24 = .ok (.if_icmp .ne 7, 3) := by decide +kernel
theorem dX11_blamed_27 : decode cX11_blamed 27 = .ok (.iconst 0, 1) := by decide +kernel
theorem dX11_blamed_28 : decode cX11_blamed 28 = .ok (.goto 6, 3) := by decide +kernel
theorem dX11_blamed_31 : decode cX11_blamed 31 = .ok (.iconst 1, 1) := by decide +kernel
theorem dX11_blamed_32 : decode cX11_blamed 32 = .ok (.iload_n 1, 1) := by decide +kernel
theorem dX11_blamed_33 : decode cX11_blamed 33 = .ok (.ishl, 1) := by decide +kernel
theorem dX11_blamed_34 : decode cX11_blamed 34 = .ok (.invokevirtual 276, 3) := by decide +kernel
theorem dX11_blamed_37 : decode cX11_blamed 37 = .ok (.ireturn, 1) := by decide +kernel
theorem dX11_level_0 : decode cX11_level 0 = .ok (.aload_n 0, 1) := by decide +kernel
theorem dX11_level_1 : decode cX11_level 1 = .ok (.getfield 76, 3) := by decide +kernel
theorem dX11_level_4 : decode cX11_level 4 = .ok (.invokevirtual 279, 3) := by decide +kernel
theorem dX11_level_7 : decode cX11_level 7 = .ok (.ireturn, 1) := by decide +kernel
theorem dX11_twin_0 : decode cX11_twin 0 = .ok (.aload_n 0, 1) := by decide +kernel
theorem dX11_twin_1 : decode cX11_twin 1 = .ok (.getfield 28, 3) := by decide +kernel
theorem dX11_twin_4 : decode cX11_twin 4 = .ok (.iload_n 1, 1) := by decide +kernel
theorem dX11_twin_5 : decode cX11_twin 5 = .ok (.invokevirtual 190, 3) := by decide +kernel
theorem dX11_twin_8 : decode cX11_twin 8 = .ok (.ifCond .eq 14, 3) := by decide +kernel
theorem dX11_twin_11 : decode cX11_twin 11 = .ok (.aload_n 0, 1) := by decide +kernel
theorem dX11_twin_12 : decode cX11_twin 12 = .ok (.getfield 76, 3) := by decide +kernel
theorem dX11_twin_15 : decode cX11_twin 15 = .ok (.iload_n 1, 1) := by decide +kernel
theorem dX11_twin_16 : decode cX11_twin 16 = .ok (.invokevirtual 282, 3) := by decide +kernel
theorem dX11_twin_19 : decode cX11_twin 19 = .ok (.goto 4, 3) := by decide +kernel
theorem dX11_twin_22 : decode cX11_twin 22 = .ok (.iconst (-1), 1) := by decide +kernel
theorem dX11_twin_23 : decode cX11_twin 23 = .ok (.ireturn, 1) := by decide +kernel
theorem dX11_trace_0 : decode cX11_trace 0 = .ok (.aload_n 0, 1) := by decide +kernel
theorem dX11_trace_1 : decode cX11_trace 1 = .ok (.getfield 28, 3) := by decide +kernel
theorem dX11_trace_4 : decode cX11_trace 4 = .ok (.iload_n 1, 1) := by decide +kernel
theorem dX11_trace_5 : decode cX11_trace 5 = .ok (.invokevirtual 236, 3) := by decide +kernel
theorem dX11_trace_8 : decode cX11_trace 8 = .ok (.ifCond .eq 14, 3) := by decide +kernel
theorem dX11_trace_11 : decode cX11_trace 11 = .ok (.aload_n 0, 1) := by decide +kernel
theorem dX11_trace_12 : decode cX11_trace 12 = .ok (.getfield 60, 3) := by decide +kernel
theorem dX11_trace_15 : decode cX11_trace 15 = .ok (.iload_n 1, 1) := by decide +kernel
theorem dX11_trace_16 : decode cX11_trace 16 = .ok (.invokevirtual 285, 3) := by decide +kernel
theorem dX11_trace_19 : decode cX11_trace 19 = .ok (.goto 4, 3) := by decide +kernel
theorem dX11_trace_22 : decode cX11_trace 22 = .ok (.iconst (-1), 1) := by decide +kernel
theorem dX11_trace_23 : decode cX11_trace 23 = .ok (.ireturn, 1) := by decide +kernel
theorem dX11_choice_0 : decode cX11_choice 0 = .ok (.iload_n 1, 1) := by decide +kernel
theorem dX11_choice_1 : decode cX11_choice 1 = .ok (.ifCond .eq 10, 3) := by decide +kernel
theorem dX11_choice_4 : decode cX11_choice 4 = .ok (.iload_n 1, 1) := by decide +kernel
theorem dX11_choice_5 : decode cX11_choice 5 = .ok (.iconst 1, 1) := by decide +kernel
theorem dX11_choice_6 : decode cX11_choice 6 = .ok (.if_icmp .eq 5, 3) := by decide +kernel
theorem dX11_choice_9 : decode cX11_choice 9 = .ok (.iconst (-1), 1) := by decide +kernel
theorem dX11_choice_10 : decode cX11_choice 10 = .ok (.ireturn, 1) := by decide +kernel
theorem dX11_choice_11 : decode cX11_choice 11 = .ok (.aload_n 0, 1) := by decide +kernel
theorem dX11_choice_12 : decode cX11_choice 12 = .ok (.getfield 76, 3) := by decide +kernel
theorem dX11_choice_15 : decode cX11_choice 15 = .ok (.iload_n 1, 1) := by decide +kernel
theorem dX11_choice_16 : decode cX11_choice 16 = .ok (.iconst 1, 1) := by decide +kernel
theorem dX11_choice_17 : decode cX11_choice 17 = .ok (.if_icmp .ne 7, 3) := by decide +kernel
theorem dX11_choice_20 : decode cX11_choice 20 = .ok (.iconst 1, 1) := by decide +kernel
theorem dX11_choice_21 : decode cX11_choice 21 = .ok (.goto 4, 3) := by decide +kernel
theorem dX11_choice_24 : decode cX11_choice 24 = .ok (.iconst 0, 1) := by decide +kernel
theorem dX11_choice_25 : decode cX11_choice 25 = .ok (.invokevirtual 288, 3) := by decide +kernel
theorem dX11_choice_28 : decode cX11_choice 28 = .ok (.iload_n 2, 1) := by decide +kernel
theorem dX11_choice_29 : decode cX11_choice 29 = .ok (.invokestatic 273, 3) := by decide +kernel
theorem dX11_choice_32 : decode cX11_choice 32 = .ok (.ireturn, 1) := by decide +kernel
theorem dX11_after_0 : decode cX11_after 0 = .ok (.aload_n 0, 1) := by decide +kernel
theorem dX11_after_1 : decode cX11_after 1 = .ok (.getfield 35, 3) := by decide +kernel
theorem dX11_after_4 : decode cX11_after 4 = .ok (.iload_n 1, 1) := by decide +kernel
theorem dX11_after_5 : decode cX11_after 5 = .ok (.invokevirtual 136, 3) := by decide +kernel
theorem dX11_after_8 : decode cX11_after 8 = .ok (.ifCond .ne 5, 3) := by decide +kernel
theorem dX11_after_11 : decode cX11_after 11 = .ok (.iconst (-1), 1) := by decide +kernel
theorem dX11_after_12 : decode cX11_after 12 = .ok (.ireturn, 1) := by decide +kernel
theorem dX11_after_13 : decode cX11_after 13 = .ok (.iconst 1, 1) := by decide +kernel
theorem dX11_after_14 : decode cX11_after 14 = .ok (.iload_n 1, 1) := by decide +kernel
theorem dX11_after_15 : decode cX11_after 15 = .ok (.ishl, 1) := by decide +kernel
theorem dX11_after_16 : decode cX11_after 16 = .ok (.istore_n 3, 1) := by decide +kernel
theorem dX11_after_17 : decode cX11_after 17 = .ok (.iload_n 2, 1) := by decide +kernel
theorem dX11_after_18 : decode cX11_after 18 = .ok (.ifCond .eq 17, 3) := by decide +kernel
theorem dX11_after_21 : decode cX11_after 21 = .ok (.aload_n 0, 1) := by decide +kernel
theorem dX11_after_22 : decode cX11_after 22 = .ok (.getfield 35, 3) := by decide +kernel
theorem dX11_after_25 : decode cX11_after 25 = .ok (.invokevirtual 220, 3) := by decide +kernel
theorem dX11_after_28 : decode cX11_after 28 = .ok (.iload_n 3, 1) := by decide +kernel
theorem dX11_after_29 : decode cX11_after 29 = .ok (.iconst (-1), 1) := by decide +kernel
theorem dX11_after_30 : decode cX11_after 30 = .ok (.ixor, 1) := by decide +kernel
theorem dX11_after_31 : decode cX11_after 31 = .ok (.iand, 1) := by decide +kernel
theorem dX11_after_32 : decode cX11_after 32 = .ok (.goto 12, 3) := by decide +kernel
theorem dX11_after_35 : decode cX11_after 35 = .ok (.aload_n 0, 1) := by decide +kernel
theorem dX11_after_36 : decode cX11_after 36 = .ok (.getfield 35, 3) := by decide +kernel
theorem dX11_after_39 : decode cX11_after 39 = .ok (.invokevirtual 220, 3) := by decide +kernel
theorem dX11_after_42 : decode cX11_after 42 = .ok (.iload_n 3, 1) := by decide +kernel
theorem dX11_after_43 : decode cX11_after 43 = .ok (.ior, 1) := by decide +kernel
theorem dX11_after_44 : decode cX11_after 44 = .ok (.istore 4, 2) := by decide +kernel
theorem dX11_after_46 : decode cX11_after 46 = .ok (.aload_n 0, 1) := by decide +kernel
theorem dX11_after_47 : decode cX11_after 47 = .ok (.getfield 60, 3) := by decide +kernel
theorem dX11_after_50 : decode cX11_after 50 = .ok (.bipush 12, 2) := by decide +kernel
theorem dX11_after_52 : decode cX11_after 52 = .ok (.aload_n 0, 1) := by decide +kernel
theorem dX11_after_53 : decode cX11_after 53 = .ok (.getfield 35, 3) := by decide +kernel
theorem dX11_after_56 : decode cX11_after 56 = .ok (.invokevirtual 217, 3) := by decide +kernel
theorem dX11_after_59 : decode cX11_after 59 = .ok (.iload_n 3, 1) := by decide +kernel
theorem dX11_after_60 : decode cX11_after 60 = .ok (.ior, 1) := by decide +kernel
theorem dX11_after_61 : decode cX11_after 61 = .ok (.iload 4, 2) := by decide +kernel
theorem dX11_after_63 : decode cX11_after 63 = .ok (.invokevirtual 223, 3) := by decide +kernel
theorem dX11_after_66 : decode cX11_after 66 = .ok (.ireturn, 1) := by decide +kernel
theorem dX11_next_0 : decode cX11_next 0 = .ok (.bipush (-2), 2) := by decide +kernel
theorem dX11_next_2 : decode cX11_next 2 = .ok (.istore_n 1, 1) := by decide +kernel
theorem dX11_next_3 : decode cX11_next 3 = .ok (.sipush 4097, 3) := by decide +kernel
theorem dX11_next_6 : decode cX11_next 6 = .ok (.istore_n 2, 1) := by decide +kernel
theorem dX11_next_7 : decode cX11_next 7 = .ok (.iconst 0, 1) := by decide +kernel
theorem dX11_next_8 : decode cX11_next 8 = .ok (.istore_n 3, 1) := by decide +kernel
theorem dX11_next_9 : decode cX11_next 9 = .ok (.iload_n 3, 1) := by decide +kernel
theorem dX11_next_10 : decode cX11_next 10 = .ok (.aload_n 0, 1) := by decide +kernel
theorem dX11_next_11 : decode cX11_next 11 = .ok (.getfield 35, 3) := by decide +kernel
theorem dX11_next_14 : decode cX11_next 14 = .ok (.getfield 157, 3) := by decide +kernel
theorem dX11_next_17 : decode cX11_next 17 = .ok (.if_icmp .ge 48, 3) := by decide +kernel
theorem dX11_next_20 : decode cX11_next 20 = .ok (.aload_n 0, 1) := by decide +kernel
theorem dX11_next_21 : decode cX11_next 21 = .ok (.getfield 35, 3) := by decide +kernel
theorem dX11_next_24 : decode cX11_next 24 = .ok (.iload_n 3, 1) := by decide +kernel
theorem dX11_next_25 : decode cX11_next 25 = .ok (.invokevirtual 139, 3) := by decide +kernel
theorem dX11_next_28 : decode cX11_next 28 = .ok (.ifCond .ne 31, 3) := by decide +kernel
theorem dX11_next_31 : decode cX11_next 31 = .ok (.aload_n 0, 1) := by decide +kernel
theorem dX11_next_32 : decode cX11_next 32 = .ok (.getfield 60, 3) := by decide +kernel
theorem dX11_next_35 : decode cX11_next 35 = .ok (.aload_n 0, 1) := by decide +kernel
theorem dX11_next_36 : decode cX11_next 36 = .ok (.getfield 35, 3) := by decide +kernel
theorem dX11_next_39 : decode cX11_next 39 = .ok (.iload_n 3, 1) := by decide +kernel
theorem dX11_next_40 : decode cX11_next 40 = .ok (.invokevirtual 208, 3) := by decide +kernel
theorem dX11_next_43 : decode cX11_next 43 = .ok (.invokevirtual 292, 3) := by decide +kernel
theorem dX11_next_46 : decode cX11_next 46 = .ok (.istore 4, 2) := by decide +kernel
theorem dX11_next_48 : decode cX11_next 48 = .ok (.iload 4, 2) := by decide +kernel
theorem dX11_next_50 : decode cX11_next 50 = .ok (.iload_n 2, 1) := by decide +kernel
theorem dX11_next_51 : decode cX11_next 51 = .ok (.if_icmp .ge 8, 3) := by decide +kernel
theorem dX11_next_54 : decode cX11_next 54 = .ok (.iload 4, 2) := by decide +kernel
theorem dX11_next_56 : decode cX11_next 56 = .ok (.istore_n 2, 1) := by decide +kernel
theorem dX11_next_57 : decode cX11_next 57 = .ok (.iload_n 3, 1) := by decide +kernel
theorem dX11_next_58 : decode cX11_next 58 = .ok (.istore_n 1, 1) := by decide +kernel
theorem dX11_next_59 : decode cX11_next 59 = .ok (.iinc 3 1, 3) := by decide +kernel
theorem dX11_next_62 : decode cX11_next 62 = .ok (.goto (-53), 3) := by decide +kernel
theorem dX11_next_65 : decode cX11_next 65 = .ok (.iload_n 1, 1) := by decide +kernel
theorem dX11_next_66 : decode cX11_next 66 = .ok (.ireturn, 1) := by decide +kernel
theorem dX11_tries_0 : decode cX11_tries 0 = .ok (.aload_n 0, 1) := by decide +kernel
theorem dX11_tries_1 : decode cX11_tries 1 = .ok (.getfield 83, 3) := by decide +kernel
theorem dX11_tries_4 : decode cX11_tries 4 = .ok (.invokevirtual 295, 3) := by decide +kernel
theorem dX11_tries_7 : decode cX11_tries 7 = .ok (.istore_n 2, 1) := by decide +kernel
theorem dX11_tries_8 : decode cX11_tries 8 = .ok (.iload_n 1, 1) := by decide +kernel
theorem dX11_tries_9 : decode cX11_tries 9 = .ok (.ifCond .ne 5, 3) := by decide +kernel
theorem dX11_tries_12 : decode cX11_tries 12 = .ok (.iload_n 2, 1) := by decide +kernel
theorem dX11_tries_13 : decode cX11_tries 13 = .ok (.ireturn, 1) := by decide +kernel
theorem dX11_tries_14 : decode cX11_tries 14 = .ok (.iload_n 2, 1) := by decide +kernel
theorem dX11_tries_15 : decode cX11_tries 15 = .ok (.ifCond .ne 8, 3) := by decide +kernel
theorem dX11_tries_18 : decode cX11_tries 18 = .ok (.bipush (-2), 2) := by decide +kernel
theorem dX11_tries_20 : decode cX11_tries 20 = .ok (.goto 11, 3) := by decide +kernel
theorem dX11_tries_23 : decode cX11_tries 23 = .ok (.aload_n 0, 1) := by decide +kernel
theorem dX11_tries_24 : decode cX11_tries 24 = .ok (.getfield 83, 3) := by decide +kernel
theorem dX11_tries_27 : decode cX11_tries 27 = .ok (.iload_n 2, 1) := by decide +kernel
theorem dX11_tries_28 : decode cX11_tries 28 = .ok (.invokevirtual 298, 3) := by decide +kernel
theorem dX11_tries_31 : decode cX11_tries 31 = .ok (.ireturn, 1) := by decide +kernel
theorem dX11_plan_0 : decode cX11_plan 0 = .ok (.iload_n 1, 1) := by decide +kernel
theorem dX11_plan_1 : decode cX11_plan 1 = .ok (.ifCond .eq 10, 3) := by decide +kernel
theorem dX11_plan_4 : decode cX11_plan 4 = .ok (.iload_n 1, 1) := by decide +kernel
theorem dX11_plan_5 : decode cX11_plan 5 = .ok (.iconst 1, 1) := by decide +kernel
theorem dX11_plan_6 : decode cX11_plan 6 = .ok (.if_icmp .eq 5, 3) := by decide +kernel
theorem dX11_plan_9 : decode cX11_plan 9 = .ok (.iconst (-1), 1) := by decide +kernel
theorem dX11_plan_10 : decode cX11_plan 10 = .ok (.ireturn, 1) := by decide +kernel
theorem dX11_plan_11 : decode cX11_plan 11 = .ok (.aload_n 0, 1) := by decide +kernel
theorem dX11_plan_12 : decode cX11_plan 12 = .ok (.getfield 92, 3) := by decide +kernel
theorem dX11_plan_15 : decode cX11_plan 15 = .ok (.invokevirtual 301, 3) := by decide +kernel
theorem dX11_plan_18 : decode cX11_plan 18 = .ok (.aload_n 0, 1) := by decide +kernel
theorem dX11_plan_19 : decode cX11_plan 19 = .ok (.getfield 92, 3) := by decide +kernel
theorem dX11_plan_22 : decode cX11_plan 22 = .ok (.iload_n 1, 1) := by decide +kernel
theorem dX11_plan_23 : decode cX11_plan 23 = .ok (.invokevirtual 304, 3) := by decide +kernel
theorem dX11_plan_26 : decode cX11_plan 26 = .ok (.istore_n 3, 1) := by decide +kernel
theorem dX11_plan_27 : decode cX11_plan 27 = .ok (.iload_n 3, 1) := by decide +kernel
theorem dX11_plan_28 : decode cX11_plan 28 = .ok (.bipush (-2), 2) := by decide +kernel
theorem dX11_plan_30 : decode cX11_plan 30 = .ok (.if_icmp .eq 8, 3) := by decide +kernel
theorem dX11_plan_33 : decode cX11_plan 33 = .ok (.iload_n 2, 1) := by decide +kernel
theorem dX11_plan_34 : decode cX11_plan 34 = .ok (.iconst (-1), 1) := by decide +kernel
theorem dX11_plan_35 : decode cX11_plan 35 = .ok (.if_icmp .ne 5, 3) := by decide +kernel
theorem dX11_plan_38 : decode cX11_plan 38 = .ok (.iload_n 3, 1) := by decide +kernel
theorem dX11_plan_39 : decode cX11_plan 39 = .ok (.ireturn, 1) := by decide +kernel
theorem dX11_plan_40 : decode cX11_plan 40 = .ok (.iload_n 2, 1) := by decide +kernel
theorem dX11_plan_41 : decode cX11_plan 41 = .ok (.ifCond .lt 20, 3) := by decide +kernel
theorem dX11_plan_44 : decode cX11_plan 44 = .ok (.iload_n 2, 1) := by decide +kernel
theorem dX11_plan_45 : decode cX11_plan 45 = .ok (.iload_n 3, 1) := by decide +kernel
theorem dX11_plan_46 : decode cX11_plan 46 = .ok (.if_icmp .ge 15, 3) := by decide +kernel
theorem dX11_plan_49 : decode cX11_plan 49 = .ok (.aload_n 0, 1) := by decide +kernel
theorem dX11_plan_50 : decode cX11_plan 50 = .ok (.getfield 92, 3) := by decide +kernel
theorem dX11_plan_53 : decode cX11_plan 53 = .ok (.iload_n 1, 1) := by decide +kernel
theorem dX11_plan_54 : decode cX11_plan 54 = .ok (.iload_n 2, 1) := by decide +kernel
theorem dX11_plan_55 : decode cX11_plan 55 = .ok (.invokevirtual 307, 3) := by decide +kernel
theorem dX11_plan_58 : decode cX11_plan 58 = .ok (.goto 4, 3) := by decide +kernel
theorem dX11_plan_61 : decode cX11_plan 61 = .ok (.iconst (-1), 1) := by decide +kernel
theorem dX11_plan_62 : decode cX11_plan 62 = .ok (.ireturn, 1) := by decide +kernel
theorem dX11_guess_0 : decode cX11_guess 0 = .ok (.iload_n 1, 1) := by decide +kernel
theorem dX11_guess_1 : decode cX11_guess 1 = .ok (.iconst 1, 1) := by decide +kernel
theorem dX11_guess_2 : decode cX11_guess 2 = .ok (.if_icmp .lt 18, 3) := by decide +kernel
theorem dX11_guess_5 : decode cX11_guess 5 = .ok (.iload_n 1, 1) := by decide +kernel
theorem dX11_guess_6 : decode cX11_guess 6 = .ok (.bipush 10, 2) := by decide +kernel
theorem dX11_guess_8 : decode cX11_guess 8 = .ok (.if_icmp .gt 12, 3) := by decide +kernel
theorem dX11_guess_11 : decode cX11_guess 11 = .ok (.iload_n 2, 1) := by decide +kernel
theorem dX11_guess_12 : decode cX11_guess 12 = .ok (.ifCond .lt 8, 3) := by decide +kernel
theorem dX11_guess_15 : decode cX11_guess 15 = .ok (.iload_n 2, 1) := by decide +kernel
theorem dX11_guess_16 : decode cX11_guess 16 = .ok (.iconst 3, 1) := by decide +kernel
theorem dX11_guess_17 : decode cX11_guess 17 = .ok (.if_icmp .le 5, 3) := by decide +kernel
theorem dX11_guess_20 : decode cX11_guess 20 = .ok (.iconst (-1), 1) := by decide +kernel
theorem dX11_guess_21 : decode cX11_guess 21 = .ok (.ireturn, 1) := by decide +kernel
theorem dX11_guess_22 : decode cX11_guess 22 = .ok (.iconst 0, 1) := by decide +kernel
theorem dX11_guess_23 : decode cX11_guess 23 = .ok (.istore_n 3, 1) := by decide +kernel
theorem dX11_guess_24 : decode cX11_guess 24 = .ok (.aload_n 0, 1) := by decide +kernel
theorem dX11_guess_25 : decode cX11_guess 25 = .ok (.getfield 28, 3) := by decide +kernel
theorem dX11_guess_28 : decode cX11_guess 28 = .ok (.invokevirtual 310, 3) := by decide +kernel
theorem dX11_guess_31 : decode cX11_guess 31 = .ok (.iconst 0, 1) := by decide +kernel
theorem dX11_guess_32 : decode cX11_guess 32 = .ok (.istore 4, 2) := by decide +kernel
theorem dX11_guess_34 : decode cX11_guess 34 = .ok (.iload 4, 2) := by decide +kernel
theorem dX11_guess_36 : decode cX11_guess 36 = .ok (.iload_n 1, 1) := by decide +kernel
theorem dX11_guess_37 : decode cX11_guess 37 = .ok (.if_icmp .ge 24, 3) := by decide +kernel
theorem dX11_guess_40 : decode cX11_guess 40 = .ok (.iload_n 3, 1) := by decide +kernel
theorem dX11_guess_41 : decode cX11_guess 41 = .ok (.aload_n 0, 1) := by decide +kernel
theorem dX11_guess_42 : decode cX11_guess 42 = .ok (.aload_n 0, 1) := by decide +kernel
theorem dX11_guess_43 : decode cX11_guess 43 = .ok (.getfield 28, 3) := by decide +kernel
theorem dX11_guess_46 : decode cX11_guess 46 = .ok (.invokevirtual 313, 3) := by decide +kernel
theorem dX11_guess_49 : decode cX11_guess 49 = .ok (.iload_n 2, 1) := by decide +kernel
theorem dX11_guess_50 : decode cX11_guess 50 = .ok (.invokevirtual 316, 3) := by decide +kernel
theorem dX11_guess_53 : decode cX11_guess 53 = .ok (.iadd, 1) := by decide +kernel
theorem dX11_guess_54 : decode cX11_guess 54 = .ok (.istore_n 3, 1) := by decide +kernel
theorem dX11_guess_55 : decode cX11_guess 55 = .ok (.iinc 4 1, 3) := by decide +kernel
theorem dX11_guess_58 : decode cX11_guess 58 = .ok (.goto (-24), 3) := by decide +kernel
theorem dX11_guess_61 : decode cX11_guess 61 = .ok (.iload_n 3, 1) := by decide +kernel
theorem dX11_guess_62 : decode cX11_guess 62 = .ok (.ireturn, 1) := by decide +kernel
theorem dX11_path_0 : decode cX11_path 0 = .ok (.aload_n 0, 1) := by decide +kernel
theorem dX11_path_1 : decode cX11_path 1 = .ok (.iload_n 1, 1) := by decide +kernel
theorem dX11_path_2 : decode cX11_path 2 = .ok (.iload_n 2, 1) := by decide +kernel
theorem dX11_path_3 : decode cX11_path 3 = .ok (.invokevirtual 153, 3) := by decide +kernel
theorem dX11_path_6 : decode cX11_path 6 = .ok (.ifCond .ne 5, 3) := by decide +kernel
theorem dX11_path_9 : decode cX11_path 9 = .ok (.iconst (-1), 1) := by decide +kernel
theorem dX11_path_10 : decode cX11_path 10 = .ok (.ireturn, 1) := by decide +kernel
theorem dX11_path_11 : decode cX11_path 11 = .ok (.aload_n 0, 1) := by decide +kernel
theorem dX11_path_12 : decode cX11_path 12 = .ok (.getfield 51, 3) := by decide +kernel
theorem dX11_path_15 : decode cX11_path 15 = .ok (.iload_n 1, 1) := by decide +kernel
theorem dX11_path_16 : decode cX11_path 16 = .ok (.iload_n 2, 1) := by decide +kernel
theorem dX11_path_17 : decode cX11_path 17 = .ok (.invokevirtual 160, 3) := by decide +kernel
theorem dX11_path_20 : decode cX11_path 20 = .ok (.iload_n 3, 1) := by decide +kernel
theorem dX11_path_21 : decode cX11_path 21 = .ok (.iconst (-1), 1) := by decide +kernel
theorem dX11_path_22 : decode cX11_path 22 = .ok (.if_icmp .ne 11, 3) := by decide +kernel
theorem dX11_path_25 : decode cX11_path 25 = .ok (.aload_n 0, 1) := by decide +kernel
theorem dX11_path_26 : decode cX11_path 26 = .ok (.getfield 51, 3) := by decide +kernel
theorem dX11_path_29 : decode cX11_path 29 = .ok (.getfield 319, 3) := by decide +kernel
theorem dX11_path_32 : decode cX11_path 32 = .ok (.ireturn, 1) := by decide +kernel
theorem dX11_path_33 : decode cX11_path 33 = .ok (.aload_n 0, 1) := by decide +kernel
theorem dX11_path_34 : decode cX11_path 34 = .ok (.getfield 51, 3) := by decide +kernel
theorem dX11_path_37 : decode cX11_path 37 = .ok (.iload_n 3, 1) := by decide +kernel
theorem dX11_path_38 : decode cX11_path 38 = .ok (.invokevirtual 163, 3) := by decide +kernel
theorem dX11_path_41 : decode cX11_path 41 = .ok (.ifCond .ne 5, 3) := by decide +kernel
theorem dX11_path_44 : decode cX11_path 44 = .ok (.iconst (-1), 1) := by decide +kernel
theorem dX11_path_45 : decode cX11_path 45 = .ok (.ireturn, 1) := by decide +kernel
theorem dX11_path_46 : decode cX11_path 46 = .ok (.aload_n 0, 1) := by decide +kernel
theorem dX11_path_47 : decode cX11_path 47 = .ok (.getfield 51, 3) := by decide +kernel
theorem dX11_path_50 : decode cX11_path 50 = .ok (.iload_n 3, 1) := by decide +kernel
theorem dX11_path_51 : decode cX11_path 51 = .ok (.invokevirtual 167, 3) := by decide +kernel
theorem dX11_path_54 : decode cX11_path 54 = .ok (.istore 5, 2) := by decide +kernel
theorem dX11_path_56 : decode cX11_path 56 = .ok (.iload 4, 2) := by decide +kernel
theorem dX11_path_58 : decode cX11_path 58 = .ok (.iconst (-1), 1) := by decide +kernel
theorem dX11_path_59 : decode cX11_path 59 = .ok (.if_icmp .ne 11, 3) := by decide +kernel
theorem dX11_path_62 : decode cX11_path 62 = .ok (.iload 5, 2) := by decide +kernel
theorem dX11_path_64 : decode cX11_path 64 = .ok (.invokestatic 210, 3) := by decide +kernel
theorem dX11_path_67 : decode cX11_path 67 = .ok (.goto 10, 3) := by decide +kernel
theorem dX11_path_70 : decode cX11_path 70 = .ok (.iload 5, 2) := by decide +kernel
theorem dX11_path_72 : decode cX11_path 72 = .ok (.iload 4, 2) := by decide +kernel
theorem dX11_path_74 : decode cX11_path 74 = .ok (.invokestatic 213, 3) := by decide +kernel
theorem dX11_path_77 : decode cX11_path 77 = .ok (.ireturn, 1) := by decide +kernel
theorem dX11_fresh_0 : decode cX11_fresh 0 = .ok (.aload_n 0, 1) := by decide +kernel
theorem dX11_fresh_1 : decode cX11_fresh 1 = .ok (.iload_n 1, 1) := by decide +kernel
theorem dX11_fresh_2 : decode cX11_fresh 2 = .ok (.iload_n 2, 1) := by decide +kernel
theorem dX11_fresh_3 : decode cX11_fresh 3 = .ok (.invokevirtual 153, 3) := by decide +kernel
theorem dX11_fresh_6 : decode cX11_fresh 6 = .ok (.ifCond .ne 5, 3) := by decide +kernel
theorem dX11_fresh_9 : decode cX11_fresh 9 = .ok (.iconst (-1), 1) := by decide +kernel
theorem dX11_fresh_10 : decode cX11_fresh 10 = .ok (.ireturn, 1) := by decide +kernel
theorem dX11_fresh_11 : decode cX11_fresh 11 = .ok (.aload_n 0, 1) := by decide +kernel
theorem dX11_fresh_12 : decode cX11_fresh 12 = .ok (.getfield 51, 3) := by decide +kernel
theorem dX11_fresh_15 : decode cX11_fresh 15 = .ok (.iload_n 1, 1) := by decide +kernel
theorem dX11_fresh_16 : decode cX11_fresh 16 = .ok (.iload_n 2, 1) := by decide +kernel
theorem dX11_fresh_17 : decode cX11_fresh 17 = .ok (.invokevirtual 160, 3) := by decide +kernel
theorem dX11_fresh_20 : decode cX11_fresh 20 = .ok (.bipush (-2), 2) := by decide +kernel
theorem dX11_fresh_22 : decode cX11_fresh 22 = .ok (.istore_n 3, 1) := by decide +kernel
theorem dX11_fresh_23 : decode cX11_fresh 23 = .ok (.sipush 4097, 3) := by decide +kernel
theorem dX11_fresh_26 : decode cX11_fresh 26 = .ok (.istore 4, 2) := by decide +kernel
theorem dX11_fresh_28 : decode cX11_fresh 28 = .ok (.iconst 0, 1) := by decide +kernel
theorem dX11_fresh_29 : decode cX11_fresh 29 = .ok (.istore 5, 2) := by decide +kernel
theorem dX11_fresh_31 : decode cX11_fresh 31 = .ok (.iload 5, 2) := by decide +kernel
theorem dX11_fresh_33 : decode cX11_fresh 33 = .ok (.aload_n 0, 1) := by decide +kernel
theorem dX11_fresh_34 : decode cX11_fresh 34 = .ok (.getfield 51, 3) := by decide +kernel
theorem dX11_fresh_37 : decode cX11_fresh 37 = .ok (.getfield 319, 3) := by decide +kernel
theorem dX11_fresh_40 : decode cX11_fresh 40 = .ok (.if_icmp .ge 41, 3) := by decide +kernel
theorem dX11_fresh_43 : decode cX11_fresh 43 = .ok (.aload_n 0, 1) := by decide +kernel
theorem dX11_fresh_44 : decode cX11_fresh 44 = .ok (.getfield 60, 3) := by decide +kernel
theorem dX11_fresh_47 : decode cX11_fresh 47 = .ok (.aload_n 0, 1) := by decide +kernel
theorem dX11_fresh_48 : decode cX11_fresh 48 = .ok (.getfield 51, 3) := by decide +kernel
theorem dX11_fresh_51 : decode cX11_fresh 51 = .ok (.iload 5, 2) := by decide +kernel
theorem dX11_fresh_53 : decode cX11_fresh 53 = .ok (.invokevirtual 170, 3) := by decide +kernel
theorem dX11_fresh_56 : decode cX11_fresh 56 = .ok (.invokevirtual 292, 3) := by decide +kernel
theorem dX11_fresh_59 : decode cX11_fresh 59 = .ok (.istore 6, 2) := by decide +kernel
theorem dX11_fresh_61 : decode cX11_fresh 61 = .ok (.iload 6, 2) := by decide +kernel
theorem dX11_fresh_63 : decode cX11_fresh 63 = .ok (.iload 4, 2) := by decide +kernel
theorem dX11_fresh_65 : decode cX11_fresh 65 = .ok (.if_icmp .ge 10, 3) := by decide +kernel
theorem dX11_fresh_68 : decode cX11_fresh 68 = .ok (.iload 6, 2) := by decide +kernel
theorem dX11_fresh_70 : decode cX11_fresh 70 = .ok (.istore 4, 2) := by decide +kernel
theorem dX11_fresh_72 : decode cX11_fresh 72 = .ok (.iload 5, 2) := by decide +kernel
theorem dX11_fresh_74 : decode cX11_fresh 74 = .ok (.istore_n 3, 1) := by decide +kernel
theorem dX11_fresh_75 : decode cX11_fresh 75 = .ok (.iinc 5 1, 3) := by decide +kernel
theorem dX11_fresh_78 : decode cX11_fresh 78 = .ok (.goto (-47), 3) := by decide +kernel
theorem dX11_fresh_81 : decode cX11_fresh 81 = .ok (.iload_n 3, 1) := by decide +kernel
theorem dX11_fresh_82 : decode cX11_fresh 82 = .ok (.ireturn, 1) := by decide +kernel
theorem dX11_lost_0 : decode cX11_lost 0 = .ok (.aload_n 0, 1) := by decide +kernel
theorem dX11_lost_1 : decode cX11_lost 1 = .ok (.getfield 28, 3) := by decide +kernel
theorem dX11_lost_4 : decode cX11_lost 4 = .ok (.iload_n 1, 1) := by decide +kernel
theorem dX11_lost_5 : decode cX11_lost 5 = .ok (.invokevirtual 320, 3) := by decide +kernel
theorem dX11_lost_8 : decode cX11_lost 8 = .ok (.ifCond .eq 26, 3) := by decide +kernel
theorem dX11_lost_11 : decode cX11_lost 11 = .ok (.aload_n 0, 1) := by decide +kernel
theorem dX11_lost_12 : decode cX11_lost 12 = .ok (.getfield 28, 3) := by decide +kernel
theorem dX11_lost_15 : decode cX11_lost 15 = .ok (.iload_n 2, 1) := by decide +kernel
theorem dX11_lost_16 : decode cX11_lost 16 = .ok (.invokevirtual 236, 3) := by decide +kernel
theorem dX11_lost_19 : decode cX11_lost 19 = .ok (.ifCond .eq 15, 3) := by decide +kernel
theorem dX11_lost_22 : decode cX11_lost 22 = .ok (.aload_n 0, 1) := by decide +kernel
theorem dX11_lost_23 : decode cX11_lost 23 = .ok (.getfield 28, 3) := by decide +kernel
theorem dX11_lost_26 : decode cX11_lost 26 = .ok (.iload_n 1, 1) := by decide +kernel
theorem dX11_lost_27 : decode cX11_lost 27 = .ok (.iload_n 2, 1) := by decide +kernel
theorem dX11_lost_28 : decode cX11_lost 28 = .ok (.invokevirtual 323, 3) := by decide +kernel
theorem dX11_lost_31 : decode cX11_lost 31 = .ok (.goto 4, 3) := by decide +kernel
theorem dX11_lost_34 : decode cX11_lost 34 = .ok (.iconst (-1), 1) := by decide +kernel
theorem dX11_lost_35 : decode cX11_lost 35 = .ok (.ireturn, 1) := by decide +kernel
theorem dX11_split_0 : decode cX11_split 0 = .ok (.aload_n 0, 1) := by decide +kernel
theorem dX11_split_1 : decode cX11_split 1 = .ok (.getfield 28, 3) := by decide +kernel
theorem dX11_split_4 : decode cX11_split 4 = .ok (.iload_n 1, 1) := by decide +kernel
theorem dX11_split_5 : decode cX11_split 5 = .ok (.invokevirtual 236, 3) := by decide +kernel
theorem dX11_split_8 : decode cX11_split 8 = .ok (.ifCond .eq 14, 3) := by decide +kernel
theorem dX11_split_11 : decode cX11_split 11 = .ok (.aload_n 0, 1) := by decide +kernel
theorem dX11_split_12 : decode cX11_split 12 = .ok (.getfield 28, 3) := by decide +kernel
theorem dX11_split_15 : decode cX11_split 15 = .ok (.iload_n 1, 1) := by decide +kernel
theorem dX11_split_16 : decode cX11_split 16 = .ok (.invokevirtual 326, 3) := by decide +kernel
theorem dX11_split_19 : decode cX11_split 19 = .ok (.goto 4, 3) := by decide +kernel
theorem dX11_split_22 : decode cX11_split 22 = .ok (.iconst (-1), 1) := by decide +kernel
theorem dX11_split_23 : decode cX11_split 23 = .ok (.ireturn, 1) := by decide +kernel
theorem dX11_hold_0 : decode cX11_hold 0 = .ok (.aload_n 0, 1) := by decide +kernel
theorem dX11_hold_1 : decode cX11_hold 1 = .ok (.getfield 42, 3) := by decide +kernel
theorem dX11_hold_4 : decode cX11_hold 4 = .ok (.iload_n 1, 1) := by decide +kernel
theorem dX11_hold_5 : decode cX11_hold 5 = .ok (.aload_n 0, 1) := by decide +kernel
theorem dX11_hold_6 : decode cX11_hold 6 = .ok (.getfield 35, 3) := by decide +kernel
theorem dX11_hold_9 : decode cX11_hold 9 = .ok (.invokevirtual 329, 3) := by decide +kernel
theorem dX11_hold_12 : decode cX11_hold 12 = .ok (.ireturn, 1) := by decide +kernel
theorem dX11_restore_0 : decode cX11_restore 0 = .ok (.aload_n 0, 1) := by decide +kernel
theorem dX11_restore_1 : decode cX11_restore 1 = .ok (.getfield 42, 3) := by decide +kernel
theorem dX11_restore_4 : decode cX11_restore 4 = .ok (.iload_n 1, 1) := by decide +kernel
theorem dX11_restore_5 : decode cX11_restore 5 = .ok (.aload_n 0, 1) := by decide +kernel
theorem dX11_restore_6 : decode cX11_restore 6 = .ok (.getfield 35, 3) := by decide +kernel
theorem dX11_restore_9 : decode cX11_restore 9 = .ok (.invokevirtual 333, 3) := by decide +kernel
theorem dX11_restore_12 : decode cX11_restore 12 = .ok (.ifCond .ne 5, 3) := by decide +kernel
theorem dX11_restore_15 : decode cX11_restore 15 = .ok (.iconst 0, 1) := by decide +kernel
theorem dX11_restore_16 : decode cX11_restore 16 = .ok (.ireturn, 1) := by decide +kernel
theorem dX11_restore_17 : decode cX11_restore 17 = .ok (.aload_n 0, 1) := by decide +kernel
theorem dX11_restore_18 : decode cX11_restore 18 = .ok (.getfield 60, 3) := by decide +kernel
theorem dX11_restore_21 : decode cX11_restore 21 = .ok (.invokevirtual 130, 3) := by decide +kernel
theorem dX11_restore_24 : decode cX11_restore 24 = .ok (.iconst 1, 1) := by decide +kernel
theorem dX11_restore_25 : decode cX11_restore 25 = .ok (.ireturn, 1) := by decide +kernel
theorem dX11_count_0 : decode cX11_count 0 = .ok (.iload_n 1, 1) := by decide +kernel
theorem dX11_count_1 : decode cX11_count 1 = .ok (.tableswitch 198 0 17 #[87, 95, 103, 198, 198, 198, 198, 111, 119, 127, 135, 143, 151, 198, 159, 167, 175, 183], 87) := by decide +kernel
theorem dX11_count_88 : decode cX11_count 88 = .ok (.aload_n 0, 1) := by decide +kernel
theorem dX11_count_89 : decode cX11_count 89 = .ok (.getfield 28, 3) := by decide +kernel
theorem dX11_count_92 : decode cX11_count 92 = .ok (.getfield 336, 3) := by decide +kernel
theorem dX11_count_95 : decode cX11_count 95 = .ok (.ireturn, 1) := by decide +kernel
theorem dX11_count_96 : decode cX11_count 96 = .ok (.aload_n 0, 1) := by decide +kernel
theorem dX11_count_97 : decode cX11_count 97 = .ok (.getfield 28, 3) := by decide +kernel
theorem dX11_count_100 : decode cX11_count 100 = .ok (.getfield 339, 3) := by decide +kernel
theorem dX11_count_103 : decode cX11_count 103 = .ok (.ireturn, 1) := by decide +kernel
theorem dX11_count_104 : decode cX11_count 104 = .ok (.aload_n 0, 1) := by decide +kernel
theorem dX11_count_105 : decode cX11_count 105 = .ok (.getfield 35, 3) := by decide +kernel
theorem dX11_count_108 : decode cX11_count 108 = .ok (.getfield 157, 3) := by decide +kernel
theorem dX11_count_111 : decode cX11_count 111 = .ok (.ireturn, 1) := by decide +kernel
theorem dX11_count_112 : decode cX11_count 112 = .ok (.aload_n 0, 1) := by decide +kernel
theorem dX11_count_113 : decode cX11_count 113 = .ok (.getfield 35, 3) := by decide +kernel
theorem dX11_count_116 : decode cX11_count 116 = .ok (.invokevirtual 342, 3) := by decide +kernel
theorem dX11_count_119 : decode cX11_count 119 = .ok (.ireturn, 1) := by decide +kernel
theorem dX11_count_120 : decode cX11_count 120 = .ok (.aload_n 0, 1) := by decide +kernel
theorem dX11_count_121 : decode cX11_count 121 = .ok (.getfield 35, 3) := by decide +kernel
theorem dX11_count_124 : decode cX11_count 124 = .ok (.invokevirtual 220, 3) := by decide +kernel
theorem dX11_count_127 : decode cX11_count 127 = .ok (.ireturn, 1) := by decide +kernel
theorem dX11_count_128 : decode cX11_count 128 = .ok (.aload_n 0, 1) := by decide +kernel
theorem dX11_count_129 : decode cX11_count 129 = .ok (.getfield 35, 3) := by decide +kernel
theorem dX11_count_132 : decode cX11_count 132 = .ok (.invokevirtual 345, 3) := by decide +kernel
theorem dX11_count_135 : decode cX11_count 135 = .ok (.ireturn, 1) := by decide +kernel
theorem dX11_count_136 : decode cX11_count 136 = .ok (.aload_n 0, 1) := by decide +kernel
theorem dX11_count_137 : decode cX11_count 137 = .ok (.getfield 10, 3) := by decide +kernel
theorem dX11_count_140 : decode cX11_count 140 = .ok (.getfield 104, 3) := by decide +kernel
theorem dX11_count_143 : decode cX11_count 143 = .ok (.ireturn, 1) := by decide +kernel
theorem dX11_count_144 : decode cX11_count 144 = .ok (.aload_n 0, 1) := by decide +kernel
theorem dX11_count_145 : decode cX11_count 145 = .ok (.getfield 42, 3) := by decide +kernel
theorem dX11_count_148 : decode cX11_count 148 = .ok (.getfield 176, 3) := by decide +kernel
theorem dX11_count_151 : decode cX11_count 151 = .ok (.ireturn, 1) := by decide +kernel
theorem dX11_count_152 : decode cX11_count 152 = .ok (.aload_n 0, 1) := by decide +kernel
theorem dX11_count_153 : decode cX11_count 153 = .ok (.getfield 42, 3) := by decide +kernel
theorem dX11_count_156 : decode cX11_count 156 = .ok (.invokevirtual 348, 3) := by decide +kernel
theorem dX11_count_159 : decode cX11_count 159 = .ok (.ireturn, 1) := by decide +kernel
theorem dX11_count_160 : decode cX11_count 160 = .ok (.aload_n 0, 1) := by decide +kernel
theorem dX11_count_161 : decode cX11_count 161 = .ok (.getfield 28, 3) := by decide +kernel
theorem dX11_count_164 : decode cX11_count 164 = .ok (.getfield 351, 3) := by decide +kernel
theorem dX11_count_167 : decode cX11_count 167 = .ok (.ireturn, 1) := by decide +kernel
theorem dX11_count_168 : decode cX11_count 168 = .ok (.aload_n 0, 1) := by decide +kernel
theorem dX11_count_169 : decode cX11_count 169 = .ok (.getfield 28, 3) := by decide +kernel
theorem dX11_count_172 : decode cX11_count 172 = .ok (.getfield 354, 3) := by decide +kernel
theorem dX11_count_175 : decode cX11_count 175 = .ok (.ireturn, 1) := by decide +kernel
theorem dX11_count_176 : decode cX11_count 176 = .ok (.aload_n 0, 1) := by decide +kernel
theorem dX11_count_177 : decode cX11_count 177 = .ok (.getfield 28, 3) := by decide +kernel
theorem dX11_count_180 : decode cX11_count 180 = .ok (.getfield 357, 3) := by decide +kernel
theorem dX11_count_183 : decode cX11_count 183 = .ok (.ireturn, 1) := by decide +kernel
theorem dX11_count_184 : decode cX11_count 184 = .ok (.aload_n 0, 1) := by decide +kernel
theorem dX11_count_185 : decode cX11_count 185 = .ok (.getfield 92, 3) := by decide +kernel
theorem dX11_count_188 : decode cX11_count 188 = .ok (.invokevirtual 301, 3) := by decide +kernel
theorem dX11_count_191 : decode cX11_count 191 = .ok (.aload_n 0, 1) := by decide +kernel
theorem dX11_count_192 : decode cX11_count 192 = .ok (.getfield 92, 3) := by decide +kernel
theorem dX11_count_195 : decode cX11_count 195 = .ok (.getfield 360, 3) := by decide +kernel
theorem dX11_count_198 : decode cX11_count 198 = .ok (.ireturn, 1) := by decide +kernel
theorem dX11_count_199 : decode cX11_count 199 = .ok (.aload_n 0, 1) := by decide +kernel
theorem dX11_count_200 : decode cX11_count 200 = .ok (.iload_n 1, 1) := by decide +kernel
theorem dX11_count_201 : decode cX11_count 201 = .ok (.invokevirtual 361, 3) := by decide +kernel
theorem dX11_count_204 : decode cX11_count 204 = .ok (.ireturn, 1) := by decide +kernel
theorem dX11_countByState_0 : decode cX11_countByState 0 = .ok (.aload_n 0, 1) := by decide +kernel
theorem dX11_countByState_1 : decode cX11_countByState 1 = .ok (.getfield 60, 3) := by decide +kernel
theorem dX11_countByState_4 : decode cX11_countByState 4 = .ok (.invokevirtual 227, 3) := by decide +kernel
theorem dX11_countByState_7 : decode cX11_countByState 7 = .ok (.iload_n 1, 1) := by decide +kernel
theorem dX11_countByState_8 : decode cX11_countByState 8 = .ok (.tableswitch 129 3 13 #[60, 68, 76, 94, 129, 129, 129, 129, 129, 129, 102], 60) := by decide +kernel
theorem dX11_countByState_68 : decode cX11_countByState 68 = .ok (.aload_n 0, 1) := by decide +kernel
theorem dX11_countByState_69 : decode cX11_countByState 69 = .ok (.getfield 35, 3) := by decide +kernel
theorem dX11_countByState_72 : decode cX11_countByState 72 = .ok (.invokevirtual 364, 3) := by decide +kernel
theorem dX11_countByState_75 : decode cX11_countByState 75 = .ok (.ireturn, 1) := by decide +kernel
theorem dX11_countByState_76 : decode cX11_countByState 76 = .ok (.aload_n 0, 1) := by decide +kernel
theorem dX11_countByState_77 : decode cX11_countByState 77 = .ok (.getfield 60, 3) := by decide +kernel
theorem dX11_countByState_80 : decode cX11_countByState 80 = .ok (.getfield 367, 3) := by decide +kernel
theorem dX11_countByState_83 : decode cX11_countByState 83 = .ok (.ireturn, 1) := by decide +kernel
theorem dX11_countByState_84 : decode cX11_countByState 84 = .ok (.aload_n 0, 1) := by decide +kernel
theorem dX11_countByState_85 : decode cX11_countByState 85 = .ok (.getfield 60, 3) := by decide +kernel
theorem dX11_countByState_88 : decode cX11_countByState 88 = .ok (.getfield 370, 3) := by decide +kernel
theorem dX11_countByState_91 : decode cX11_countByState 91 = .ok (.aload_n 0, 1) := by decide +kernel
theorem dX11_countByState_92 : decode cX11_countByState 92 = .ok (.getfield 60, 3) := by decide +kernel
theorem dX11_countByState_95 : decode cX11_countByState 95 = .ok (.getfield 367, 3) := by decide +kernel
theorem dX11_countByState_98 : decode cX11_countByState 98 = .ok (.iconst (-1), 1) := by decide +kernel
theorem dX11_countByState_99 : decode cX11_countByState 99 = .ok (.ixor, 1) := by decide +kernel
theorem dX11_countByState_100 : decode cX11_countByState 100 = .ok (.iand, 1) := by decide +kernel
theorem dX11_countByState_101 : decode cX11_countByState 101 = .ok (.ireturn, 1) := by decide +kernel
theorem dX11_countByState_102 : decode cX11_countByState 102 = .ok (.aload_n 0, 1) := by decide +kernel
theorem dX11_countByState_103 : decode cX11_countByState 103 = .ok (.getfield 60, 3) := by decide +kernel
theorem dX11_countByState_106 : decode cX11_countByState 106 = .ok (.invokevirtual 373, 3) := by decide +kernel
theorem dX11_countByState_109 : decode cX11_countByState 109 = .ok (.ireturn, 1) := by decide +kernel
theorem dX11_countByState_110 : decode cX11_countByState 110 = .ok (.aload_n 0, 1) := by decide +kernel
theorem dX11_countByState_111 : decode cX11_countByState 111 = .ok (.getfield 60, 3) := by decide +kernel
theorem dX11_countByState_114 : decode cX11_countByState 114 = .ok (.getfield 230, 3) := by decide +kernel
theorem dX11_countByState_117 : decode cX11_countByState 117 = .ok (.ifCond .ne 8, 3) := by decide +kernel
theorem dX11_countByState_120 : decode cX11_countByState 120 = .ok (.bipush (-2), 2) := by decide +kernel
theorem dX11_countByState_122 : decode cX11_countByState 122 = .ok (.goto 14, 3) := by decide +kernel
theorem dX11_countByState_125 : decode cX11_countByState 125 = .ok (.aload_n 0, 1) := by decide +kernel
theorem dX11_countByState_126 : decode cX11_countByState 126 = .ok (.getfield 60, 3) := by decide +kernel
theorem dX11_countByState_129 : decode cX11_countByState 129 = .ok (.iconst 0, 1) := by decide +kernel
theorem dX11_countByState_130 : decode cX11_countByState 130 = .ok (.invokevirtual 233, 3) := by decide +kernel
theorem dX11_countByState_133 : decode cX11_countByState 133 = .ok (.invokestatic 376, 3) := by decide +kernel
theorem dX11_countByState_136 : decode cX11_countByState 136 = .ok (.ireturn, 1) := by decide +kernel
theorem dX11_countByState_137 : decode cX11_countByState 137 = .ok (.iconst (-1), 1) := by decide +kernel
theorem dX11_countByState_138 : decode cX11_countByState 138 = .ok (.ireturn, 1) := by decide +kernel
theorem dX11_areUnlikePosts_0 : decode cX11_areUnlikePosts 0 = .ok (.aload_n 0, 1) := by decide +kernel
theorem dX11_areUnlikePosts_1 : decode cX11_areUnlikePosts 1 = .ok (.getfield 28, 3) := by decide +kernel
theorem dX11_areUnlikePosts_4 : decode cX11_areUnlikePosts 4 = .ok (.iload_n 1, 1) := by decide +kernel
theorem dX11_areUnlikePosts_5 : decode cX11_areUnlikePosts 5 = .ok (.invokevirtual 320, 3) := by decide +kernel
theorem dX11_areUnlikePosts_8 : decode cX11_areUnlikePosts 8 = .ok (.ifCond .eq 23, 3) := by decide +kernel
theorem dX11_areUnlikePosts_11 : decode cX11_areUnlikePosts 11 = .ok (.aload_n 0, 1) := by decide +kernel
theorem dX11_areUnlikePosts_12 : decode cX11_areUnlikePosts 12 = .ok (.getfield 28, 3) := by decide +kernel
theorem dX11_areUnlikePosts_15 : decode cX11_areUnlikePosts 15 = .ok (.iload_n 2, 1) := by decide +kernel
theorem dX11_areUnlikePosts_16 : decode cX11_areUnlikePosts 16 = .ok (.invokevirtual 320, 3) := by decide +kernel
theorem dX11_areUnlikePosts_19 : decode cX11_areUnlikePosts 19 = .ok (.ifCond .eq 12, 3) := by decide +kernel
theorem dX11_areUnlikePosts_22 : decode cX11_areUnlikePosts 22 = .ok (.iload_n 1, 1) := by decide +kernel
theorem dX11_areUnlikePosts_23 : decode cX11_areUnlikePosts 23 = .ok (.iload_n 2, 1) := by decide +kernel
theorem dX11_areUnlikePosts_24 : decode cX11_areUnlikePosts 24 = .ok (.if_icmp .eq 7, 3) := by decide +kernel
theorem dX11_areUnlikePosts_27 : decode cX11_areUnlikePosts 27 = .ok (.iconst 1, 1) := by decide +kernel
theorem dX11_areUnlikePosts_28 : decode cX11_areUnlikePosts 28 = .ok (.goto 4, 3) := by decide +kernel
theorem dX11_areUnlikePosts_31 : decode cX11_areUnlikePosts 31 = .ok (.iconst 0, 1) := by decide +kernel
theorem dX11_areUnlikePosts_32 : decode cX11_areUnlikePosts 32 = .ok (.ireturn, 1) := by decide +kernel
theorem dX11_scoreOf_0 : decode cX11_scoreOf 0 = .ok (.aload_n 0, 1) := by decide +kernel
theorem dX11_scoreOf_1 : decode cX11_scoreOf 1 = .ok (.getfield 35, 3) := by decide +kernel
theorem dX11_scoreOf_4 : decode cX11_scoreOf 4 = .ok (.invokevirtual 381, 3) := by decide +kernel
theorem dX11_scoreOf_7 : decode cX11_scoreOf 7 = .ok (.istore_n 3, 1) := by decide +kernel
theorem dX11_scoreOf_8 : decode cX11_scoreOf 8 = .ok (.aload_n 0, 1) := by decide +kernel
theorem dX11_scoreOf_9 : decode cX11_scoreOf 9 = .ok (.getfield 60, 3) := by decide +kernel
theorem dX11_scoreOf_12 : decode cX11_scoreOf 12 = .ok (.iload_n 1, 1) := by decide +kernel
theorem dX11_scoreOf_13 : decode cX11_scoreOf 13 = .ok (.invokevirtual 285, 3) := by decide +kernel
theorem dX11_scoreOf_16 : decode cX11_scoreOf 16 = .ok (.istore 4, 2) := by decide +kernel
theorem dX11_scoreOf_18 : decode cX11_scoreOf 18 = .ok (.iload_n 2, 1) := by decide +kernel
theorem dX11_scoreOf_19 : decode cX11_scoreOf 19 = .ok (.tableswitch 85 0 2 #[25, 45, 65], 25) := by decide +kernel
theorem dX11_scoreOf_44 : decode cX11_scoreOf 44 = .ok (.aload_n 0, 1) := by decide +kernel
theorem dX11_scoreOf_45 : decode cX11_scoreOf 45 = .ok (.getfield 60, 3) := by decide +kernel
theorem dX11_scoreOf_48 : decode cX11_scoreOf 48 = .ok (.iload_n 3, 1) := by decide +kernel
theorem dX11_scoreOf_49 : decode cX11_scoreOf 49 = .ok (.iload 4, 2) := by decide +kernel
theorem dX11_scoreOf_51 : decode cX11_scoreOf 51 = .ok (.invokevirtual 246, 3) := by decide +kernel
theorem dX11_scoreOf_54 : decode cX11_scoreOf 54 = .ok (.iload_n 1, 1) := by decide +kernel
theorem dX11_scoreOf_55 : decode cX11_scoreOf 55 = .ok (.if_icmp .ne 7, 3) := by decide +kernel
theorem dX11_scoreOf_58 : decode cX11_scoreOf 58 = .ok (.iconst 1, 1) := by decide +kernel
theorem dX11_scoreOf_59 : decode cX11_scoreOf 59 = .ok (.goto 4, 3) := by decide +kernel
theorem dX11_scoreOf_62 : decode cX11_scoreOf 62 = .ok (.iconst 0, 1) := by decide +kernel
theorem dX11_scoreOf_63 : decode cX11_scoreOf 63 = .ok (.ireturn, 1) := by decide +kernel
theorem dX11_scoreOf_64 : decode cX11_scoreOf 64 = .ok (.aload_n 0, 1) := by decide +kernel
theorem dX11_scoreOf_65 : decode cX11_scoreOf 65 = .ok (.getfield 60, 3) := by decide +kernel
theorem dX11_scoreOf_68 : decode cX11_scoreOf 68 = .ok (.iload_n 3, 1) := by decide +kernel
theorem dX11_scoreOf_69 : decode cX11_scoreOf 69 = .ok (.iload 4, 2) := by decide +kernel
theorem dX11_scoreOf_71 : decode cX11_scoreOf 71 = .ok (.invokevirtual 384, 3) := by decide +kernel
theorem dX11_scoreOf_74 : decode cX11_scoreOf 74 = .ok (.iload_n 1, 1) := by decide +kernel
theorem dX11_scoreOf_75 : decode cX11_scoreOf 75 = .ok (.if_icmp .ne 7, 3) := by decide +kernel
theorem dX11_scoreOf_78 : decode cX11_scoreOf 78 = .ok (.iconst 1, 1) := by decide +kernel
theorem dX11_scoreOf_79 : decode cX11_scoreOf 79 = .ok (.goto 4, 3) := by decide +kernel
theorem dX11_scoreOf_82 : decode cX11_scoreOf 82 = .ok (.iconst 0, 1) := by decide +kernel
theorem dX11_scoreOf_83 : decode cX11_scoreOf 83 = .ok (.ireturn, 1) := by decide +kernel
theorem dX11_scoreOf_84 : decode cX11_scoreOf 84 = .ok (.aload_n 0, 1) := by decide +kernel
theorem dX11_scoreOf_85 : decode cX11_scoreOf 85 = .ok (.getfield 60, 3) := by decide +kernel
theorem dX11_scoreOf_88 : decode cX11_scoreOf 88 = .ok (.iload_n 1, 1) := by decide +kernel
theorem dX11_scoreOf_89 : decode cX11_scoreOf 89 = .ok (.iload_n 3, 1) := by decide +kernel
theorem dX11_scoreOf_90 : decode cX11_scoreOf 90 = .ok (.iload 4, 2) := by decide +kernel
theorem dX11_scoreOf_92 : decode cX11_scoreOf 92 = .ok (.invokevirtual 243, 3) := by decide +kernel
theorem dX11_scoreOf_95 : decode cX11_scoreOf 95 = .ok (.ifCond .eq 7, 3) := by decide +kernel
theorem dX11_scoreOf_98 : decode cX11_scoreOf 98 = .ok (.iconst 1, 1) := by decide +kernel
theorem dX11_scoreOf_99 : decode cX11_scoreOf 99 = .ok (.goto 4, 3) := by decide +kernel
theorem dX11_scoreOf_102 : decode cX11_scoreOf 102 = .ok (.iconst 0, 1) := by decide +kernel
theorem dX11_scoreOf_103 : decode cX11_scoreOf 103 = .ok (.ireturn, 1) := by decide +kernel
theorem dX11_scoreOf_104 : decode cX11_scoreOf 104 = .ok (.aload_n 0, 1) := by decide +kernel
theorem dX11_scoreOf_105 : decode cX11_scoreOf 105 = .ok (.getfield 60, 3) := by decide +kernel
theorem dX11_scoreOf_108 : decode cX11_scoreOf 108 = .ok (.iload_n 3, 1) := by decide +kernel
theorem dX11_scoreOf_109 : decode cX11_scoreOf 109 = .ok (.iload 4, 2) := by decide +kernel
theorem dX11_scoreOf_111 : decode cX11_scoreOf 111 = .ok (.invokevirtual 387, 3) := by decide +kernel
theorem dX11_scoreOf_114 : decode cX11_scoreOf 114 = .ok (.invokestatic 376, 3) := by decide +kernel
theorem dX11_scoreOf_117 : decode cX11_scoreOf 117 = .ok (.ireturn, 1) := by decide +kernel
theorem dX11_memberOf_0 : decode cX11_memberOf 0 = .ok (.iload_n 1, 1) := by decide +kernel
theorem dX11_memberOf_1 : decode cX11_memberOf 1 = .ok (.iconst (-1), 1) := by decide +kernel
theorem dX11_memberOf_2 : decode cX11_memberOf 2 = .ok (.if_icmp .ne 8, 3) := by decide +kernel
theorem dX11_memberOf_5 : decode cX11_memberOf 5 = .ok (.iload_n 0, 1) := by decide +kernel
theorem dX11_memberOf_6 : decode cX11_memberOf 6 = .ok (.invokestatic 376, 3) := by decide +kernel
theorem dX11_memberOf_9 : decode cX11_memberOf 9 = .ok (.ireturn, 1) := by decide +kernel
theorem dX11_memberOf_10 : decode cX11_memberOf 10 = .ok (.iconst 0, 1) := by decide +kernel
theorem dX11_memberOf_11 : decode cX11_memberOf 11 = .ok (.istore_n 2, 1) := by decide +kernel
theorem dX11_memberOf_12 : decode cX11_memberOf 12 = .ok (.iconst 0, 1) := by decide +kernel
theorem dX11_memberOf_13 : decode cX11_memberOf 13 = .ok (.istore_n 3, 1) := by decide +kernel
theorem dX11_memberOf_14 : decode cX11_memberOf 14 = .ok (.iload_n 3, 1) := by decide +kernel
theorem dX11_memberOf_15 : decode cX11_memberOf 15 = .ok (.bipush 12, 2) := by decide +kernel
theorem dX11_memberOf_17 : decode cX11_memberOf 17 = .ok (.if_icmp .ge 27, 3) := by decide +kernel
theorem dX11_memberOf_20 : decode cX11_memberOf 20 = .ok (.iload_n 0, 1) := by decide +kernel
theorem dX11_memberOf_21 : decode cX11_memberOf 21 = .ok (.iload_n 3, 1) := by decide +kernel
