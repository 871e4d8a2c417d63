theorem dX12_level_52 : decode cX12_level 52 = .ok (.ixor, 1) := by decide +kernel
theorem dX12_level_53 : decode cX12_level 53 = .ok (.iand, 1) := by decide +kernel
theorem dX12_level_54 : decode cX12_level 54 = .ok (.ifCond .ne 42, 3) := by decide +kernel
theorem dX12_level_57 : decode cX12_level 57 = .ok (.iload_n 3, 1) := by decide +kernel
theorem dX12_level_58 : decode cX12_level 58 = .ok (.invokestatic 293, 3) := by decide +kernel
theorem dX12_level_61 : decode cX12_level 61 = .ok (.iload_n 2, 1) := by decide +kernel
theorem dX12_level_62 : decode cX12_level 62 = .ok (.if_icmp .eq 6, 3) := by decide +kernel
theorem dX12_level_65 : decode cX12_level 65 = .ok (.goto 31, 3) := by decide +kernel
theorem dX12_level_68 : decode cX12_level 68 = .ok (.aload_n 0, 1) := by decide +kernel
theorem dX12_level_69 : decode cX12_level 69 = .ok (.getfield 83, 3) := by decide +kernel
theorem dX12_level_72 : decode cX12_level 72 = .ok (.aload_n 0, 1) := by decide +kernel
theorem dX12_level_73 : decode cX12_level 73 = .ok (.iload_n 3, 1) := by decide +kernel
theorem dX12_level_74 : decode cX12_level 74 = .ok (.invokevirtual 329, 3) := by decide +kernel
theorem dX12_level_77 : decode cX12_level 77 = .ok (.baload, 1) := by decide +kernel
theorem dX12_level_78 : decode cX12_level 78 = .ok (.ifCond .eq 7, 3) := by decide +kernel
theorem dX12_level_81 : decode cX12_level 81 = .ok (.iload_n 2, 1) := by decide +kernel
theorem dX12_level_82 : decode cX12_level 82 = .ok (.iconst 1, 1) := by decide +kernel
theorem dX12_level_83 : decode cX12_level 83 = .ok (.isub, 1) := by decide +kernel
theorem dX12_level_84 : decode cX12_level 84 = .ok (.ireturn, 1) := by decide +kernel
theorem dX12_level_85 : decode cX12_level 85 = .ok (.aload_n 0, 1) := by decide +kernel
theorem dX12_level_86 : decode cX12_level 86 = .ok (.getfield 83, 3) := by decide +kernel
theorem dX12_level_89 : decode cX12_level 89 = .ok (.aload_n 0, 1) := by decide +kernel
theorem dX12_level_90 : decode cX12_level 90 = .ok (.iload_n 3, 1) := by decide +kernel
theorem dX12_level_91 : decode cX12_level 91 = .ok (.invokevirtual 329, 3) := by decide +kernel
theorem dX12_level_94 : decode cX12_level 94 = .ok (.iconst 1, 1) := by decide +kernel
theorem dX12_level_95 : decode cX12_level 95 = .ok (.bastore, 1) := by decide +kernel
theorem dX12_level_96 : decode cX12_level 96 = .ok (.iinc 3 1, 3) := by decide +kernel
theorem dX12_level_99 : decode cX12_level 99 = .ok (.goto (-60), 3) := by decide +kernel
theorem dX12_level_102 : decode cX12_level 102 = .ok (.iinc 2 1, 3) := by decide +kernel
theorem dX12_level_105 : decode cX12_level 105 = .ok (.goto (-76), 3) := by decide +kernel
theorem dX12_level_108 : decode cX12_level 108 = .ok (.iload_n 1, 1) := by decide +kernel
theorem dX12_level_109 : decode cX12_level 109 = .ok (.invokestatic 293, 3) := by decide +kernel
theorem dX12_level_112 : decode cX12_level 112 = .ok (.ireturn, 1) := by decide +kernel
theorem dX12_twin_0 : decode cX12_twin 0 = .ok (.aload_n 0, 1) := by decide +kernel
theorem dX12_twin_1 : decode cX12_twin 1 = .ok (.iload_n 1, 1) := by decide +kernel
theorem dX12_twin_2 : decode cX12_twin 2 = .ok (.invokevirtual 326, 3) := by decide +kernel
theorem dX12_twin_5 : decode cX12_twin 5 = .ok (.ifCond .ne 5, 3) := by decide +kernel
theorem dX12_twin_8 : decode cX12_twin 8 = .ok (.iconst (-1), 1) := by decide +kernel
theorem dX12_twin_9 : decode cX12_twin 9 = .ok (.ireturn, 1) := by decide +kernel
theorem dX12_twin_10 : decode cX12_twin 10 = .ok (.iconst 0, 1) := by decide +kernel
theorem dX12_twin_11 : decode cX12_twin 11 = .ok (.istore_n 2, 1) := by decide +kernel
theorem dX12_twin_12 : decode cX12_twin 12 = .ok (.iload_n 2, 1) := by decide +kernel
theorem dX12_twin_13 : decode cX12_twin 13 = .ok (.aload_n 0, 1) := by decide +kernel
theorem dX12_twin_14 : decode cX12_twin 14 = .ok (.getfield 200, 3) := by decide +kernel
theorem dX12_twin_17 : decode cX12_twin 17 = .ok (.if_icmp .ge 33, 3) := by decide +kernel
theorem dX12_twin_20 : decode cX12_twin 20 = .ok (.iload_n 2, 1) := by decide +kernel
theorem dX12_twin_21 : decode cX12_twin 21 = .ok (.iload_n 1, 1) := by decide +kernel
theorem dX12_twin_22 : decode cX12_twin 22 = .ok (.if_icmp .eq 22, 3) := by decide +kernel
theorem dX12_twin_25 : decode cX12_twin 25 = .ok (.aload_n 0, 1) := by decide +kernel
theorem dX12_twin_26 : decode cX12_twin 26 = .ok (.iconst 1, 1) := by decide +kernel
theorem dX12_twin_27 : decode cX12_twin 27 = .ok (.iload_n 2, 1) := by decide +kernel
theorem dX12_twin_28 : decode cX12_twin 28 = .ok (.ishl, 1) := by decide +kernel
theorem dX12_twin_29 : decode cX12_twin 29 = .ok (.invokevirtual 329, 3) := by decide +kernel
theorem dX12_twin_32 : decode cX12_twin 32 = .ok (.aload_n 0, 1) := by decide +kernel
theorem dX12_twin_33 : decode cX12_twin 33 = .ok (.iconst 1, 1) := by decide +kernel
theorem dX12_twin_34 : decode cX12_twin 34 = .ok (.iload_n 1, 1) := by decide +kernel
theorem dX12_twin_35 : decode cX12_twin 35 = .ok (.ishl, 1) := by decide +kernel
theorem dX12_twin_36 : decode cX12_twin 36 = .ok (.invokevirtual 329, 3) := by decide +kernel
theorem dX12_twin_39 : decode cX12_twin 39 = .ok (.if_icmp .ne 5, 3) := by decide +kernel
theorem dX12_twin_42 : decode cX12_twin 42 = .ok (.iload_n 2, 1) := by decide +kernel
theorem dX12_twin_43 : decode cX12_twin 43 = .ok (.ireturn, 1) := by decide +kernel
theorem dX12_twin_44 : decode cX12_twin 44 = .ok (.iinc 2 1, 3) := by decide +kernel
theorem dX12_twin_47 : decode cX12_twin 47 = .ok (.goto (-35), 3) := by decide +kernel
theorem dX12_twin_50 : decode cX12_twin 50 = .ok (.bipush (-2), 2) := by decide +kernel
theorem dX12_twin_52 : decode cX12_twin 52 = .ok (.ireturn, 1) := by decide +kernel
theorem dX12_trace_0 : decode cX12_trace 0 = .ok (.aload_n 0, 1) := by decide +kernel
theorem dX12_trace_1 : decode cX12_trace 1 = .ok (.iload_n 1, 1) := by decide +kernel
theorem dX12_trace_2 : decode cX12_trace 2 = .ok (.invokevirtual 338, 3) := by decide +kernel
theorem dX12_trace_5 : decode cX12_trace 5 = .ok (.ifCond .eq 11, 3) := by decide +kernel
theorem dX12_trace_8 : decode cX12_trace 8 = .ok (.aload_n 0, 1) := by decide +kernel
theorem dX12_trace_9 : decode cX12_trace 9 = .ok (.iload_n 1, 1) := by decide +kernel
theorem dX12_trace_10 : decode cX12_trace 10 = .ok (.invokevirtual 329, 3) := by decide +kernel
theorem dX12_trace_13 : decode cX12_trace 13 = .ok (.goto 4, 3) := by decide +kernel
theorem dX12_trace_16 : decode cX12_trace 16 = .ok (.iconst (-1), 1) := by decide +kernel
theorem dX12_trace_17 : decode cX12_trace 17 = .ok (.ireturn, 1) := by decide +kernel
theorem dX12_canChoose_0 : decode cX12_canChoose 0 = .ok (.aload_n 0, 1) := by decide +kernel
theorem dX12_canChoose_1 : decode cX12_canChoose 1 = .ok (.invokevirtual 372, 3) := by decide +kernel
theorem dX12_canChoose_4 : decode cX12_canChoose 4 = .ok (.istore_n 3, 1) := by decide +kernel
theorem dX12_canChoose_5 : decode cX12_canChoose 5 = .ok (.iconst 0, 1) := by decide +kernel
theorem dX12_canChoose_6 : decode cX12_canChoose 6 = .ok (.istore 4, 2) := by decide +kernel
theorem dX12_canChoose_8 : decode cX12_canChoose 8 = .ok (.iload 4, 2) := by decide +kernel
theorem dX12_canChoose_10 : decode cX12_canChoose 10 = .ok (.aload_n 0, 1) := by decide +kernel
theorem dX12_canChoose_11 : decode cX12_canChoose 11 = .ok (.getfield 200, 3) := by decide +kernel
theorem dX12_canChoose_14 : decode cX12_canChoose 14 = .ok (.if_icmp .ge 99, 3) := by decide +kernel
theorem dX12_canChoose_17 : decode cX12_canChoose 17 = .ok (.iload_n 3, 1) := by decide +kernel
theorem dX12_canChoose_18 : decode cX12_canChoose 18 = .ok (.iload 4, 2) := by decide +kernel
theorem dX12_canChoose_20 : decode cX12_canChoose 20 = .ok (.invokestatic 257, 3) := by decide +kernel
theorem dX12_canChoose_23 : decode cX12_canChoose 23 = .ok (.ifCond .ne 6, 3) := by decide +kernel
theorem dX12_canChoose_26 : decode cX12_canChoose 26 = .ok (.goto 81, 3) := by decide +kernel
theorem dX12_canChoose_29 : decode cX12_canChoose 29 = .ok (.aload_n 0, 1) := by decide +kernel
theorem dX12_canChoose_30 : decode cX12_canChoose 30 = .ok (.iconst 1, 1) := by decide +kernel
theorem dX12_canChoose_31 : decode cX12_canChoose 31 = .ok (.iload 4, 2) := by decide +kernel
theorem dX12_canChoose_33 : decode cX12_canChoose 33 = .ok (.ishl, 1) := by decide +kernel
theorem dX12_canChoose_34 : decode cX12_canChoose 34 = .ok (.invokevirtual 329, 3) := by decide +kernel
theorem dX12_canChoose_37 : decode cX12_canChoose 37 = .ok (.iload_n 2, 1) := by decide +kernel
theorem dX12_canChoose_38 : decode cX12_canChoose 38 = .ok (.iand, 1) := by decide +kernel
theorem dX12_canChoose_39 : decode cX12_canChoose 39 = .ok (.ifCond .ne 5, 3) := by decide +kernel
theorem dX12_canChoose_42 : decode cX12_canChoose 42 = .ok (.iconst 0, 1) := by decide +kernel
theorem dX12_canChoose_43 : decode cX12_canChoose 43 = .ok (.ireturn, 1) := by decide +kernel
theorem dX12_canChoose_44 : decode cX12_canChoose 44 = .ok (.iconst 0, 1) := by decide +kernel
theorem dX12_canChoose_45 : decode cX12_canChoose 45 = .ok (.istore 5, 2) := by decide +kernel
theorem dX12_canChoose_47 : decode cX12_canChoose 47 = .ok (.iload 5, 2) := by decide +kernel
theorem dX12_canChoose_49 : decode cX12_canChoose 49 = .ok (.iload 4, 2) := by decide +kernel
theorem dX12_canChoose_51 : decode cX12_canChoose 51 = .ok (.if_icmp .ge 56, 3) := by decide +kernel
theorem dX12_canChoose_54 : decode cX12_canChoose 54 = .ok (.iload_n 1, 1) := by decide +kernel
theorem dX12_canChoose_55 : decode cX12_canChoose 55 = .ok (.iconst 1, 1) := by decide +kernel
theorem dX12_canChoose_56 : decode cX12_canChoose 56 = .ok (.if_icmp .ne 51, 3) := by decide +kernel
theorem dX12_canChoose_59 : decode cX12_canChoose 59 = .ok (.aload_n 0, 1) := by decide +kernel
theorem dX12_canChoose_60 : decode cX12_canChoose 60 = .ok (.iconst 1, 1) := by decide +kernel
theorem dX12_canChoose_61 : decode cX12_canChoose 61 = .ok (.iload 4, 2) := by decide +kernel
theorem dX12_canChoose_63 : decode cX12_canChoose 63 = .ok (.ishl, 1) := by decide +kernel
theorem dX12_canChoose_64 : decode cX12_canChoose 64 = .ok (.invokevirtual 329, 3) := by decide +kernel
theorem dX12_canChoose_67 : decode cX12_canChoose 67 = .ok (.aload_n 0, 1) := by decide +kernel
theorem dX12_canChoose_68 : decode cX12_canChoose 68 = .ok (.iconst 1, 1) := by decide +kernel
theorem dX12_canChoose_69 : decode cX12_canChoose 69 = .ok (.iload 5, 2) := by decide +kernel
theorem dX12_canChoose_71 : decode cX12_canChoose 71 = .ok (.ishl, 1) := by decide +kernel
theorem dX12_canChoose_72 : decode cX12_canChoose 72 = .ok (.invokevirtual 329, 3) := by decide +kernel
theorem dX12_canChoose_75 : decode cX12_canChoose 75 = .ok (.ixor, 1) := by decide +kernel
theorem dX12_canChoose_76 : decode cX12_canChoose 76 = .ok (.istore 6, 2) := by decide +kernel
theorem dX12_canChoose_78 : decode cX12_canChoose 78 = .ok (.iload_n 3, 1) := by decide +kernel
theorem dX12_canChoose_79 : decode cX12_canChoose 79 = .ok (.iload 5, 2) := by decide +kernel
theorem dX12_canChoose_81 : decode cX12_canChoose 81 = .ok (.invokestatic 257, 3) := by decide +kernel
theorem dX12_canChoose_84 : decode cX12_canChoose 84 = .ok (.ifCond .eq 17, 3) := by decide +kernel
theorem dX12_canChoose_87 : decode cX12_canChoose 87 = .ok (.iload 6, 2) := by decide +kernel
theorem dX12_canChoose_89 : decode cX12_canChoose 89 = .ok (.ifCond .eq 12, 3) := by decide +kernel
theorem dX12_canChoose_92 : decode cX12_canChoose 92 = .ok (.iload 6, 2) := by decide +kernel
theorem dX12_canChoose_94 : decode cX12_canChoose 94 = .ok (.iload_n 2, 1) := by decide +kernel
theorem dX12_canChoose_95 : decode cX12_canChoose 95 = .ok (.iand, 1) := by decide +kernel
theorem dX12_canChoose_96 : decode cX12_canChoose 96 = .ok (.ifCond .ne 5, 3) := by decide +kernel
theorem dX12_canChoose_99 : decode cX12_canChoose 99 = .ok (.iconst 0, 1) := by decide +kernel
theorem dX12_canChoose_100 : decode cX12_canChoose 100 = .ok (.ireturn, 1) := by decide +kernel
theorem dX12_canChoose_101 : decode cX12_canChoose 101 = .ok (.iinc 5 1, 3) := by decide +kernel
theorem dX12_canChoose_104 : decode cX12_canChoose 104 = .ok (.goto (-57), 3) := by decide +kernel
theorem dX12_canChoose_107 : decode cX12_canChoose 107 = .ok (.iinc 4 1, 3) := by decide +kernel
theorem dX12_canChoose_110 : decode cX12_canChoose 110 = .ok (.goto (-102), 3) := by decide +kernel
theorem dX12_canChoose_113 : decode cX12_canChoose 113 = .ok (.iconst 1, 1) := by decide +kernel
theorem dX12_canChoose_114 : decode cX12_canChoose 114 = .ok (.ireturn, 1) := by decide +kernel
theorem dX12_choice_0 : decode cX12_choice 0 = .ok (.iload_n 1, 1) := by decide +kernel
theorem dX12_choice_1 : decode cX12_choice 1 = .ok (.iconst 0, 1) := by decide +kernel
theorem dX12_choice_2 : decode cX12_choice 2 = .ok (.iconst 1, 1) := by decide +kernel
theorem dX12_choice_3 : decode cX12_choice 3 = .ok (.invokestatic 250, 3) := by decide +kernel
theorem dX12_choice_6 : decode cX12_choice 6 = .ok (.ifCond .ne 5, 3) := by decide +kernel
theorem dX12_choice_9 : decode cX12_choice 9 = .ok (.iconst (-1), 1) := by decide +kernel
theorem dX12_choice_10 : decode cX12_choice 10 = .ok (.ireturn, 1) := by decide +kernel
theorem dX12_choice_11 : decode cX12_choice 11 = .ok (.iconst (-1), 1) := by decide +kernel
theorem dX12_choice_12 : decode cX12_choice 12 = .ok (.istore_n 3, 1) := by decide +kernel
theorem dX12_choice_13 : decode cX12_choice 13 = .ok (.iconst 0, 1) := by decide +kernel
theorem dX12_choice_14 : decode cX12_choice 14 = .ok (.istore 4, 2) := by decide +kernel
theorem dX12_choice_16 : decode cX12_choice 16 = .ok (.iload 4, 2) := by decide +kernel
theorem dX12_choice_18 : decode cX12_choice 18 = .ok (.iconst 1, 1) := by decide +kernel
theorem dX12_choice_19 : decode cX12_choice 19 = .ok (.aload_n 0, 1) := by decide +kernel
theorem dX12_choice_20 : decode cX12_choice 20 = .ok (.getfield 58, 3) := by decide +kernel
theorem dX12_choice_23 : decode cX12_choice 23 = .ok (.iconst 0, 1) := by decide +kernel
theorem dX12_choice_24 : decode cX12_choice 24 = .ok (.iaload, 1) := by decide +kernel
theorem dX12_choice_25 : decode cX12_choice 25 = .ok (.ishl, 1) := by decide +kernel
theorem dX12_choice_26 : decode cX12_choice 26 = .ok (.if_icmp .ge 31, 3) := by decide +kernel
theorem dX12_choice_29 : decode cX12_choice 29 = .ok (.iload 4, 2) := by decide +kernel
theorem dX12_choice_31 : decode cX12_choice 31 = .ok (.iload_n 3, 1) := by decide +kernel
theorem dX12_choice_32 : decode cX12_choice 32 = .ok (.invokestatic 360, 3) := by decide +kernel
theorem dX12_choice_35 : decode cX12_choice 35 = .ok (.ifCond .eq 16, 3) := by decide +kernel
theorem dX12_choice_38 : decode cX12_choice 38 = .ok (.aload_n 0, 1) := by decide +kernel
theorem dX12_choice_39 : decode cX12_choice 39 = .ok (.iload_n 1, 1) := by decide +kernel
theorem dX12_choice_40 : decode cX12_choice 40 = .ok (.iload 4, 2) := by decide +kernel
theorem dX12_choice_42 : decode cX12_choice 42 = .ok (.invokevirtual 375, 3) := by decide +kernel
theorem dX12_choice_45 : decode cX12_choice 45 = .ok (.ifCond .eq 6, 3) := by decide +kernel
theorem dX12_choice_48 : decode cX12_choice 48 = .ok (.iload 4, 2) := by decide +kernel
theorem dX12_choice_50 : decode cX12_choice 50 = .ok (.istore_n 3, 1) := by decide +kernel
theorem dX12_choice_51 : decode cX12_choice 51 = .ok (.iinc 4 1, 3) := by decide +kernel
theorem dX12_choice_54 : decode cX12_choice 54 = .ok (.goto (-38), 3) := by decide +kernel
theorem dX12_choice_57 : decode cX12_choice 57 = .ok (.iload_n 3, 1) := by decide +kernel
theorem dX12_choice_58 : decode cX12_choice 58 = .ok (.iload_n 2, 1) := by decide +kernel
theorem dX12_choice_59 : decode cX12_choice 59 = .ok (.invokestatic 369, 3) := by decide +kernel
theorem dX12_choice_62 : decode cX12_choice 62 = .ok (.ireturn, 1) := by decide +kernel
theorem dX12_after_0 : decode cX12_after 0 = .ok (.aload_n 0, 1) := by decide +kernel
theorem dX12_after_1 : decode cX12_after 1 = .ok (.iload_n 1, 1) := by decide +kernel
theorem dX12_after_2 : decode cX12_after 2 = .ok (.invokevirtual 271, 3) := by decide +kernel
theorem dX12_after_5 : decode cX12_after 5 = .ok (.ifCond .ne 5, 3) := by decide +kernel
theorem dX12_after_8 : decode cX12_after 8 = .ok (.iconst (-1), 1) := by decide +kernel
theorem dX12_after_9 : decode cX12_after 9 = .ok (.ireturn, 1) := by decide +kernel
theorem dX12_after_10 : decode cX12_after 10 = .ok (.aload_n 0, 1) := by decide +kernel
theorem dX12_after_11 : decode cX12_after 11 = .ok (.invokevirtual 317, 3) := by decide +kernel
theorem dX12_after_14 : decode cX12_after 14 = .ok (.iconst 0, 1) := by decide +kernel
theorem dX12_after_15 : decode cX12_after 15 = .ok (.istore_n 3, 1) := by decide +kernel
theorem dX12_after_16 : decode cX12_after 16 = .ok (.iload_n 3, 1) := by decide +kernel
theorem dX12_after_17 : decode cX12_after 17 = .ok (.aload_n 0, 1) := by decide +kernel
theorem dX12_after_18 : decode cX12_after 18 = .ok (.getfield 58, 3) := by decide +kernel
theorem dX12_after_21 : decode cX12_after 21 = .ok (.iconst 0, 1) := by decide +kernel
theorem dX12_after_22 : decode cX12_after 22 = .ok (.iaload, 1) := by decide +kernel
theorem dX12_after_23 : decode cX12_after 23 = .ok (.if_icmp .ge 39, 3) := by decide +kernel
theorem dX12_after_26 : decode cX12_after 26 = .ok (.aload_n 0, 1) := by decide +kernel
theorem dX12_after_27 : decode cX12_after 27 = .ok (.iload_n 3, 1) := by decide +kernel
theorem dX12_after_28 : decode cX12_after 28 = .ok (.iload_n 3, 1) := by decide +kernel
theorem dX12_after_29 : decode cX12_after 29 = .ok (.iload_n 1, 1) := by decide +kernel
theorem dX12_after_30 : decode cX12_after 30 = .ok (.if_icmp .eq 14, 3) := by decide +kernel
theorem dX12_after_33 : decode cX12_after 33 = .ok (.aload_n 0, 1) := by decide +kernel
theorem dX12_after_34 : decode cX12_after 34 = .ok (.getfield 58, 3) := by decide +kernel
theorem dX12_after_37 : decode cX12_after 37 = .ok (.iconst 1, 1) := by decide +kernel
theorem dX12_after_38 : decode cX12_after 38 = .ok (.iload_n 3, 1) := by decide +kernel
theorem dX12_after_39 : decode cX12_after 39 = .ok (.iadd, 1) := by decide +kernel
theorem dX12_after_40 : decode cX12_after 40 = .ok (.iaload, 1) := by decide +kernel
theorem dX12_after_41 : decode cX12_after 41 = .ok (.goto 12, 3) := by decide +kernel
theorem dX12_after_44 : decode cX12_after 44 = .ok (.iload_n 2, 1) := by decide +kernel
theorem dX12_after_45 : decode cX12_after 45 = .ok (.ifCond .eq 7, 3) := by decide +kernel
theorem dX12_after_48 : decode cX12_after 48 = .ok (.iconst 1, 1) := by decide +kernel
theorem dX12_after_49 : decode cX12_after 49 = .ok (.goto 4, 3) := by decide +kernel
theorem dX12_after_52 : decode cX12_after 52 = .ok (.iconst 2, 1) := by decide +kernel
theorem dX12_after_53 : decode cX12_after 53 = .ok (.invokevirtual 320, 3) := by decide +kernel
theorem dX12_after_56 : decode cX12_after 56 = .ok (.iinc 3 1, 3) := by decide +kernel
theorem dX12_after_59 : decode cX12_after 59 = .ok (.goto (-43), 3) := by decide +kernel
theorem dX12_after_62 : decode cX12_after 62 = .ok (.aload_n 0, 1) := by decide +kernel
theorem dX12_after_63 : decode cX12_after 63 = .ok (.iconst 0, 1) := by decide +kernel
theorem dX12_after_64 : decode cX12_after 64 = .ok (.putfield 261, 3) := by decide +kernel
theorem dX12_after_67 : decode cX12_after 67 = .ok (.iconst 0, 1) := by decide +kernel
theorem dX12_after_68 : decode cX12_after 68 = .ok (.istore_n 3, 1) := by decide +kernel
theorem dX12_after_69 : decode cX12_after 69 = .ok (.iconst 0, 1) := by decide +kernel
theorem dX12_after_70 : decode cX12_after 70 = .ok (.istore 4, 2) := by decide +kernel
theorem dX12_after_72 : decode cX12_after 72 = .ok (.iload 4, 2) := by decide +kernel
theorem dX12_after_74 : decode cX12_after 74 = .ok (.iconst 1, 1) := by decide +kernel
theorem dX12_after_75 : decode cX12_after 75 = .ok (.aload_n 0, 1) := by decide +kernel
theorem dX12_after_76 : decode cX12_after 76 = .ok (.getfield 200, 3) := by decide +kernel
theorem dX12_after_79 : decode cX12_after 79 = .ok (.ishl, 1) := by decide +kernel
theorem dX12_after_80 : decode cX12_after 80 = .ok (.if_icmp .ge 21, 3) := by decide +kernel
theorem dX12_after_83 : decode cX12_after 83 = .ok (.aload_n 0, 1) := by decide +kernel
theorem dX12_after_84 : decode cX12_after 84 = .ok (.iload 4, 2) := by decide +kernel
theorem dX12_after_86 : decode cX12_after 86 = .ok (.invokevirtual 299, 3) := by decide +kernel
theorem dX12_after_89 : decode cX12_after 89 = .ok (.ifCond .eq 6, 3) := by decide +kernel
theorem dX12_after_92 : decode cX12_after 92 = .ok (.iinc 3 1, 3) := by decide +kernel
theorem dX12_after_95 : decode cX12_after 95 = .ok (.iinc 4 1, 3) := by decide +kernel
theorem dX12_after_98 : decode cX12_after 98 = .ok (.goto (-26), 3) := by decide +kernel
theorem dX12_after_101 : decode cX12_after 101 = .ok (.iload_n 3, 1) := by decide +kernel
theorem dX12_after_102 : decode cX12_after 102 = .ok (.ireturn, 1) := by decide +kernel
theorem dX12_leftBy_0 : decode cX12_leftBy 0 = .ok (.iconst 0, 1) := by decide +kernel
theorem dX12_leftBy_1 : decode cX12_leftBy 1 = .ok (.istore_n 2, 1) := by decide +kernel
theorem dX12_leftBy_2 : decode cX12_leftBy 2 = .ok (.iconst 0, 1) := by decide +kernel
theorem dX12_leftBy_3 : decode cX12_leftBy 3 = .ok (.istore_n 3, 1) := by decide +kernel
theorem dX12_leftBy_4 : decode cX12_leftBy 4 = .ok (.iconst 0, 1) := by decide +kernel
theorem dX12_leftBy_5 : decode cX12_leftBy 5 = .ok (.istore 4, 2) := by decide +kernel
theorem dX12_leftBy_7 : decode cX12_leftBy 7 = .ok (.iload 4, 2) := by decide +kernel
theorem dX12_leftBy_9 : decode cX12_leftBy 9 = .ok (.iconst 1, 1) := by decide +kernel
theorem dX12_leftBy_10 : decode cX12_leftBy 10 = .ok (.aload_n 0, 1) := by decide +kernel
theorem dX12_leftBy_11 : decode cX12_leftBy 11 = .ok (.getfield 200, 3) := by decide +kernel
theorem dX12_leftBy_14 : decode cX12_leftBy 14 = .ok (.ishl, 1) := by decide +kernel
theorem dX12_leftBy_15 : decode cX12_leftBy 15 = .ok (.if_icmp .ge 38, 3) := by decide +kernel
theorem dX12_leftBy_18 : decode cX12_leftBy 18 = .ok (.aload_n 0, 1) := by decide +kernel
theorem dX12_leftBy_19 : decode cX12_leftBy 19 = .ok (.getfield 80, 3) := by decide +kernel
theorem dX12_leftBy_22 : decode cX12_leftBy 22 = .ok (.iload 4, 2) := by decide +kernel
theorem dX12_leftBy_24 : decode cX12_leftBy 24 = .ok (.baload, 1) := by decide +kernel
theorem dX12_leftBy_25 : decode cX12_leftBy 25 = .ok (.ifCond .ne 6, 3) := by decide +kernel
theorem dX12_leftBy_28 : decode cX12_leftBy 28 = .ok (.goto 19, 3) := by decide +kernel
theorem dX12_leftBy_31 : decode cX12_leftBy 31 = .ok (.iload 4, 2) := by decide +kernel
theorem dX12_leftBy_33 : decode cX12_leftBy 33 = .ok (.iload_n 1, 1) := by decide +kernel
theorem dX12_leftBy_34 : decode cX12_leftBy 34 = .ok (.iand, 1) := by decide +kernel
theorem dX12_leftBy_35 : decode cX12_leftBy 35 = .ok (.ifCond .ne 9, 3) := by decide +kernel
theorem dX12_leftBy_38 : decode cX12_leftBy 38 = .ok (.iinc 2 1, 3) := by decide +kernel
theorem dX12_leftBy_41 : decode cX12_leftBy 41 = .ok (.goto 6, 3) := by decide +kernel
theorem dX12_leftBy_44 : decode cX12_leftBy 44 = .ok (.iinc 3 1, 3) := by decide +kernel
theorem dX12_leftBy_47 : decode cX12_leftBy 47 = .ok (.iinc 4 1, 3) := by decide +kernel
theorem dX12_leftBy_50 : decode cX12_leftBy 50 = .ok (.goto (-43), 3) := by decide +kernel
theorem dX12_leftBy_53 : decode cX12_leftBy 53 = .ok (.iload_n 2, 1) := by decide +kernel
theorem dX12_leftBy_54 : decode cX12_leftBy 54 = .ok (.iload_n 3, 1) := by decide +kernel
theorem dX12_leftBy_55 : decode cX12_leftBy 55 = .ok (.if_icmp .le 7, 3) := by decide +kernel
theorem dX12_leftBy_58 : decode cX12_leftBy 58 = .ok (.iload_n 2, 1) := by decide +kernel
theorem dX12_leftBy_59 : decode cX12_leftBy 59 = .ok (.goto 4, 3) := by decide +kernel
theorem dX12_leftBy_62 : decode cX12_leftBy 62 = .ok (.iload_n 3, 1) := by decide +kernel
theorem dX12_leftBy_63 : decode cX12_leftBy 63 = .ok (.ireturn, 1) := by decide +kernel
theorem dX12_next_0 : decode cX12_next 0 = .ok (.aload_n 0, 1) := by decide +kernel
theorem dX12_next_1 : decode cX12_next 1 = .ok (.invokevirtual 332, 3) := by decide +kernel
theorem dX12_next_4 : decode cX12_next 4 = .ok (.bipush (-2), 2) := by decide +kernel
theorem dX12_next_6 : decode cX12_next 6 = .ok (.istore_n 1, 1) := by decide +kernel
theorem dX12_next_7 : decode cX12_next 7 = .ok (.iconst 0, 1) := by decide +kernel
theorem dX12_next_8 : decode cX12_next 8 = .ok (.istore_n 2, 1) := by decide +kernel
theorem dX12_next_9 : decode cX12_next 9 = .ok (.iload_n 2, 1) := by decide +kernel
theorem dX12_next_10 : decode cX12_next 10 = .ok (.aload_n 0, 1) := by decide +kernel
theorem dX12_next_11 : decode cX12_next 11 = .ok (.getfield 58, 3) := by decide +kernel
theorem dX12_next_14 : decode cX12_next 14 = .ok (.iconst 0, 1) := by decide +kernel
theorem dX12_next_15 : decode cX12_next 15 = .ok (.iaload, 1) := by decide +kernel
theorem dX12_next_16 : decode cX12_next 16 = .ok (.if_icmp .ge 49, 3) := by decide +kernel
theorem dX12_next_19 : decode cX12_next 19 = .ok (.aload_n 0, 1) := by decide +kernel
theorem dX12_next_20 : decode cX12_next 20 = .ok (.getfield 58, 3) := by decide +kernel
theorem dX12_next_23 : decode cX12_next 23 = .ok (.iconst 1, 1) := by decide +kernel
theorem dX12_next_24 : decode cX12_next 24 = .ok (.iload_n 2, 1) := by decide +kernel
theorem dX12_next_25 : decode cX12_next 25 = .ok (.iadd, 1) := by decide +kernel
theorem dX12_next_26 : decode cX12_next 26 = .ok (.iaload, 1) := by decide +kernel
theorem dX12_next_27 : decode cX12_next 27 = .ok (.ifCond .ne 32, 3) := by decide +kernel
theorem dX12_next_30 : decode cX12_next 30 = .ok (.iload_n 1, 1) := by decide +kernel
theorem dX12_next_31 : decode cX12_next 31 = .ok (.ifCond .lt 26, 3) := by decide +kernel
theorem dX12_next_34 : decode cX12_next 34 = .ok (.aload_n 0, 1) := by decide +kernel
theorem dX12_next_35 : decode cX12_next 35 = .ok (.aload_n 0, 1) := by decide +kernel
theorem dX12_next_36 : decode cX12_next 36 = .ok (.getfield 74, 3) := by decide +kernel
theorem dX12_next_39 : decode cX12_next 39 = .ok (.iload_n 2, 1) := by decide +kernel
theorem dX12_next_40 : decode cX12_next 40 = .ok (.iaload, 1) := by decide +kernel
theorem dX12_next_41 : decode cX12_next 41 = .ok (.invokevirtual 378, 3) := by decide +kernel
theorem dX12_next_44 : decode cX12_next 44 = .ok (.aload_n 0, 1) := by decide +kernel
theorem dX12_next_45 : decode cX12_next 45 = .ok (.aload_n 0, 1) := by decide +kernel
theorem dX12_next_46 : decode cX12_next 46 = .ok (.getfield 74, 3) := by decide +kernel
theorem dX12_next_49 : decode cX12_next 49 = .ok (.iload_n 1, 1) := by decide +kernel
theorem dX12_next_50 : decode cX12_next 50 = .ok (.iaload, 1) := by decide +kernel
theorem dX12_next_51 : decode cX12_next 51 = .ok (.invokevirtual 378, 3) := by decide +kernel
theorem dX12_next_54 : decode cX12_next 54 = .ok (.if_icmp .ge 5, 3) := by decide +kernel
theorem dX12_next_57 : decode cX12_next 57 = .ok (.iload_n 2, 1) := by decide +kernel
theorem dX12_next_58 : decode cX12_next 58 = .ok (.istore_n 1, 1) := by decide +kernel
theorem dX12_next_59 : decode cX12_next 59 = .ok (.iinc 2 1, 3) := by decide +kernel
theorem dX12_next_62 : decode cX12_next 62 = .ok (.goto (-53), 3) := by decide +kernel
theorem dX12_next_65 : decode cX12_next 65 = .ok (.iload_n 1, 1) := by decide +kernel
theorem dX12_next_66 : decode cX12_next 66 = .ok (.ireturn, 1) := by decide +kernel
theorem dX12_splitBy_0 : decode cX12_splitBy 0 = .ok (.aload_n 0, 1) := by decide +kernel
theorem dX12_splitBy_1 : decode cX12_splitBy 1 = .ok (.getfield 74, 3) := by decide +kernel
theorem dX12_splitBy_4 : decode cX12_splitBy 4 = .ok (.iload_n 1, 1) := by decide +kernel
theorem dX12_splitBy_5 : decode cX12_splitBy 5 = .ok (.iaload, 1) := by decide +kernel
theorem dX12_splitBy_6 : decode cX12_splitBy 6 = .ok (.iconst 1, 1) := by decide +kernel
theorem dX12_splitBy_7 : decode cX12_splitBy 7 = .ok (.ishl, 1) := by decide +kernel
theorem dX12_splitBy_8 : decode cX12_splitBy 8 = .ok (.ireturn, 1) := by decide +kernel
theorem dX12_singles_0 : decode cX12_singles 0 = .ok (.aload_n 0, 1) := by decide +kernel
theorem dX12_singles_1 : decode cX12_singles 1 = .ok (.getfield 80, 3) := by decide +kernel
theorem dX12_singles_4 : decode cX12_singles 4 = .ok (.iconst 0, 1) := by decide +kernel
theorem dX12_singles_5 : decode cX12_singles 5 = .ok (.baload, 1) := by decide +kernel
theorem dX12_singles_6 : decode cX12_singles 6 = .ok (.ifCond .eq 7, 3) := by decide +kernel
theorem dX12_singles_9 : decode cX12_singles 9 = .ok (.iconst 1, 1) := by decide +kernel
theorem dX12_singles_10 : decode cX12_singles 10 = .ok (.goto 4, 3) := by decide +kernel
theorem dX12_singles_13 : decode cX12_singles 13 = .ok (.iconst 0, 1) := by decide +kernel
theorem dX12_singles_14 : decode cX12_singles 14 = .ok (.istore_n 1, 1) := by decide +kernel
theorem dX12_singles_15 : decode cX12_singles 15 = .ok (.iconst 0, 1) := by decide +kernel
theorem dX12_singles_16 : decode cX12_singles 16 = .ok (.istore_n 2, 1) := by decide +kernel
theorem dX12_singles_17 : decode cX12_singles 17 = .ok (.iload_n 2, 1) := by decide +kernel
theorem dX12_singles_18 : decode cX12_singles 18 = .ok (.aload_n 0, 1) := by decide +kernel
theorem dX12_singles_19 : decode cX12_singles 19 = .ok (.getfield 200, 3) := by decide +kernel
theorem dX12_singles_22 : decode cX12_singles 22 = .ok (.if_icmp .ge 26, 3) := by decide +kernel
theorem dX12_singles_25 : decode cX12_singles 25 = .ok (.aload_n 0, 1) := by decide +kernel
theorem dX12_singles_26 : decode cX12_singles 26 = .ok (.getfield 80, 3) := by decide +kernel
theorem dX12_singles_29 : decode cX12_singles 29 = .ok (.iconst 1, 1) := by decide +kernel
theorem dX12_singles_30 : decode cX12_singles 30 = .ok (.iload_n 2, 1) := by decide +kernel
theorem dX12_singles_31 : decode cX12_singles 31 = .ok (.ishl, 1) := by decide +kernel
theorem dX12_singles_32 : decode cX12_singles 32 = .ok (.baload, 1) := by decide +kernel
theorem dX12_singles_33 : decode cX12_singles 33 = .ok (.ifCond .eq 9, 3) := by decide +kernel
theorem dX12_singles_36 : decode cX12_singles 36 = .ok (.iload_n 1, 1) := by decide +kernel
theorem dX12_singles_37 : decode cX12_singles 37 = .ok (.iconst 2, 1) := by decide +kernel
theorem dX12_singles_38 : decode cX12_singles 38 = .ok (.iload_n 2, 1) := by decide +kernel
theorem dX12_singles_39 : decode cX12_singles 39 = .ok (.ishl, 1) := by decide +kernel
theorem dX12_singles_40 : decode cX12_singles 40 = .ok (.ior, 1) := by decide +kernel
theorem dX12_singles_41 : decode cX12_singles 41 = .ok (.istore_n 1, 1) := by decide +kernel
theorem dX12_singles_42 : decode cX12_singles 42 = .ok (.iinc 2 1, 3) := by decide +kernel
theorem dX12_singles_45 : decode cX12_singles 45 = .ok (.goto (-28), 3) := by decide +kernel
theorem dX12_singles_48 : decode cX12_singles 48 = .ok (.iload_n 1, 1) := by decide +kernel
theorem dX12_singles_49 : decode cX12_singles 49 = .ok (.ireturn, 1) := by decide +kernel
theorem dX12_depthBy_0 : decode cX12_depthBy 0 = .ok (.iload_n 1, 1) := by decide +kernel
theorem dX12_depthBy_1 : decode cX12_depthBy 1 = .ok (.aload_n 0, 1) := by decide +kernel
theorem dX12_depthBy_2 : decode cX12_depthBy 2 = .ok (.iload_n 2, 1) := by decide +kernel
theorem dX12_depthBy_3 : decode cX12_depthBy 3 = .ok (.invokevirtual 381, 3) := by decide +kernel
theorem dX12_depthBy_6 : decode cX12_depthBy 6 = .ok (.iand, 1) := by decide +kernel
theorem dX12_depthBy_7 : decode cX12_depthBy 7 = .ok (.istore_n 3, 1) := by decide +kernel
theorem dX12_depthBy_8 : decode cX12_depthBy 8 = .ok (.iload_n 1, 1) := by decide +kernel
theorem dX12_depthBy_9 : decode cX12_depthBy 9 = .ok (.iload_n 3, 1) := by decide +kernel
theorem dX12_depthBy_10 : decode cX12_depthBy 10 = .ok (.iconst (-1), 1) := by decide +kernel
theorem dX12_depthBy_11 : decode cX12_depthBy 11 = .ok (.ixor, 1) := by decide +kernel
theorem dX12_depthBy_12 : decode cX12_depthBy 12 = .ok (.iand, 1) := by decide +kernel
theorem dX12_depthBy_13 : decode cX12_depthBy 13 = .ok (.istore 4, 2) := by decide +kernel
theorem dX12_depthBy_15 : decode cX12_depthBy 15 = .ok (.aload_n 0, 1) := by decide +kernel
theorem dX12_depthBy_16 : decode cX12_depthBy 16 = .ok (.getfield 58, 3) := by decide +kernel
theorem dX12_depthBy_19 : decode cX12_depthBy 19 = .ok (.iconst 1, 1) := by decide +kernel
theorem dX12_depthBy_20 : decode cX12_depthBy 20 = .ok (.iload_n 2, 1) := by decide +kernel
theorem dX12_depthBy_21 : decode cX12_depthBy 21 = .ok (.iadd, 1) := by decide +kernel
theorem dX12_depthBy_22 : decode cX12_depthBy 22 = .ok (.iaload, 1) := by decide +kernel
theorem dX12_depthBy_23 : decode cX12_depthBy 23 = .ok (.ifCond .ne 12, 3) := by decide +kernel
theorem dX12_depthBy_26 : decode cX12_depthBy 26 = .ok (.iload_n 3, 1) := by decide +kernel
theorem dX12_depthBy_27 : decode cX12_depthBy 27 = .ok (.ifCond .eq 8, 3) := by decide +kernel
theorem dX12_depthBy_30 : decode cX12_depthBy 30 = .ok (.iload 4, 2) := by decide +kernel
theorem dX12_depthBy_32 : decode cX12_depthBy 32 = .ok (.ifCond .ne 6, 3) := by decide +kernel
theorem dX12_depthBy_35 : decode cX12_depthBy 35 = .ok (.bipush 99, 2) := by decide +kernel
theorem dX12_depthBy_37 : decode cX12_depthBy 37 = .ok (.ireturn, 1) := by decide +kernel
theorem dX12_depthBy_38 : decode cX12_depthBy 38 = .ok (.iconst 1, 1) := by decide +kernel
theorem dX12_depthBy_39 : decode cX12_depthBy 39 = .ok (.aload_n 0, 1) := by decide +kernel
theorem dX12_depthBy_40 : decode cX12_depthBy 40 = .ok (.getfield 86, 3) := by decide +kernel
theorem dX12_depthBy_43 : decode cX12_depthBy 43 = .ok (.iload_n 3, 1) := by decide +kernel
theorem dX12_depthBy_44 : decode cX12_depthBy 44 = .ok (.iaload, 1) := by decide +kernel
theorem dX12_depthBy_45 : decode cX12_depthBy 45 = .ok (.aload_n 0, 1) := by decide +kernel
theorem dX12_depthBy_46 : decode cX12_depthBy 46 = .ok (.getfield 86, 3) := by decide +kernel
theorem dX12_depthBy_49 : decode cX12_depthBy 49 = .ok (.iload 4, 2) := by decide +kernel
theorem dX12_depthBy_51 : decode cX12_depthBy 51 = .ok (.iaload, 1) := by decide +kernel
theorem dX12_depthBy_52 : decode cX12_depthBy 52 = .ok (.if_icmp .le 12, 3) := by decide +kernel
theorem dX12_depthBy_55 : decode cX12_depthBy 55 = .ok (.aload_n 0, 1) := by decide +kernel
theorem dX12_depthBy_56 : decode cX12_depthBy 56 = .ok (.getfield 86, 3) := by decide +kernel
theorem dX12_depthBy_59 : decode cX12_depthBy 59 = .ok (.iload_n 3, 1) := by decide +kernel
theorem dX12_depthBy_60 : decode cX12_depthBy 60 = .ok (.iaload, 1) := by decide +kernel
theorem dX12_depthBy_61 : decode cX12_depthBy 61 = .ok (.goto 10, 3) := by decide +kernel
theorem dX12_depthBy_64 : decode cX12_depthBy 64 = .ok (.aload_n 0, 1) := by decide +kernel
theorem dX12_depthBy_65 : decode cX12_depthBy 65 = .ok (.getfield 86, 3) := by decide +kernel
theorem dX12_depthBy_68 : decode cX12_depthBy 68 = .ok (.iload 4, 2) := by decide +kernel
theorem dX12_depthBy_70 : decode cX12_depthBy 70 = .ok (.iaload, 1) := by decide +kernel
theorem dX12_depthBy_71 : decode cX12_depthBy 71 = .ok (.iadd, 1) := by decide +kernel
theorem dX12_depthBy_72 : decode cX12_depthBy 72 = .ok (.ireturn, 1) := by decide +kernel
theorem dX12_tries_0 : decode cX12_tries 0 = .ok (.aload_n 0, 1) := by decide +kernel
theorem dX12_tries_1 : decode cX12_tries 1 = .ok (.invokevirtual 332, 3) := by decide +kernel
theorem dX12_tries_4 : decode cX12_tries 4 = .ok (.aload_n 0, 1) := by decide +kernel
theorem dX12_tries_5 : decode cX12_tries 5 = .ok (.invokevirtual 384, 3) := by decide +kernel
theorem dX12_tries_8 : decode cX12_tries 8 = .ok (.istore_n 2, 1) := by decide +kernel
theorem dX12_tries_9 : decode cX12_tries 9 = .ok (.iconst 0, 1) := by decide +kernel
theorem dX12_tries_10 : decode cX12_tries 10 = .ok (.istore_n 3, 1) := by decide +kernel
theorem dX12_tries_11 : decode cX12_tries 11 = .ok (.iload_n 3, 1) := by decide +kernel
theorem dX12_tries_12 : decode cX12_tries 12 = .ok (.iload_n 2, 1) := by decide +kernel
theorem dX12_tries_13 : decode cX12_tries 13 = .ok (.if_icmp .gt 87, 3) := by decide +kernel
theorem dX12_tries_16 : decode cX12_tries 16 = .ok (.aload_n 0, 1) := by decide +kernel
theorem dX12_tries_17 : decode cX12_tries 17 = .ok (.getfield 86, 3) := by decide +kernel
theorem dX12_tries_20 : decode cX12_tries 20 = .ok (.iload_n 3, 1) := by decide +kernel
theorem dX12_tries_21 : decode cX12_tries 21 = .ok (.iconst 0, 1) := by decide +kernel
theorem dX12_tries_22 : decode cX12_tries 22 = .ok (.iastore, 1) := by decide +kernel
theorem dX12_tries_23 : decode cX12_tries 23 = .ok (.iload_n 3, 1) := by decide +kernel
theorem dX12_tries_24 : decode cX12_tries 24 = .ok (.iload_n 2, 1) := by decide +kernel
theorem dX12_tries_25 : decode cX12_tries 25 = .ok (.iconst (-1), 1) := by decide +kernel
theorem dX12_tries_26 : decode cX12_tries 26 = .ok (.ixor, 1) := by decide +kernel
theorem dX12_tries_27 : decode cX12_tries 27 = .ok (.iand, 1) := by decide +kernel
theorem dX12_tries_28 : decode cX12_tries 28 = .ok (.ifCond .eq 6, 3) := by decide +kernel
theorem dX12_tries_31 : decode cX12_tries 31 = .ok (.goto 63, 3) := by decide +kernel
theorem dX12_tries_34 : decode cX12_tries 34 = .ok (.bipush 99, 2) := by decide +kernel
theorem dX12_tries_36 : decode cX12_tries 36 = .ok (.istore 4, 2) := by decide +kernel
theorem dX12_tries_38 : decode cX12_tries 38 = .ok (.iconst 0, 1) := by decide +kernel
theorem dX12_tries_39 : decode cX12_tries 39 = .ok (.istore 5, 2) := by decide +kernel
theorem dX12_tries_41 : decode cX12_tries 41 = .ok (.iload 5, 2) := by decide +kernel
theorem dX12_tries_43 : decode cX12_tries 43 = .ok (.aload_n 0, 1) := by decide +kernel
theorem dX12_tries_44 : decode cX12_tries 44 = .ok (.getfield 58, 3) := by decide +kernel
theorem dX12_tries_47 : decode cX12_tries 47 = .ok (.iconst 0, 1) := by decide +kernel
theorem dX12_tries_48 : decode cX12_tries 48 = .ok (.iaload, 1) := by decide +kernel
theorem dX12_tries_49 : decode cX12_tries 49 = .ok (.if_icmp .ge 30, 3) := by decide +kernel
theorem dX12_tries_52 : decode cX12_tries 52 = .ok (.aload_n 0, 1) := by decide +kernel
theorem dX12_tries_53 : decode cX12_tries 53 = .ok (.iload_n 3, 1) := by decide +kernel
theorem dX12_tries_54 : decode cX12_tries 54 = .ok (.iload 5, 2) := by decide +kernel
theorem dX12_tries_56 : decode cX12_tries 56 = .ok (.invokevirtual 387, 3) := by decide +kernel
theorem dX12_tries_59 : decode cX12_tries 59 = .ok (.iload 4, 2) := by decide +kernel
theorem dX12_tries_61 : decode cX12_tries 61 = .ok (.if_icmp .ge 12, 3) := by decide +kernel
theorem dX12_tries_64 : decode cX12_tries 64 = .ok (.aload_n 0, 1) := by decide +kernel
theorem dX12_tries_65 : decode cX12_tries 65 = .ok (.iload_n 3, 1) := by decide +kernel
theorem dX12_tries_66 : decode cX12_tries 66 = .ok (.iload 5, 2) := by decide +kernel
theorem dX12_tries_68 : decode cX12_tries 68 = .ok (.invokevirtual 387, 3) := by decide +kernel
theorem dX12_tries_71 : decode cX12_tries 71 = .ok (.istore 4, 2) := by decide +kernel
theorem dX12_tries_73 : decode cX12_tries 73 = .ok (.iinc 5 1, 3) := by decide +kernel
theorem dX12_tries_76 : decode cX12_tries 76 = .ok (.goto (-35), 3) := by decide +kernel
theorem dX12_tries_79 : decode cX12_tries 79 = .ok (.iload 4, 2) := by decide +kernel
theorem dX12_tries_81 : decode cX12_tries 81 = .ok (.bipush 99, 2) := by decide +kernel
theorem dX12_tries_83 : decode cX12_tries 83 = .ok (.if_icmp .ge 11, 3) := by decide +kernel
theorem dX12_tries_86 : decode cX12_tries 86 = .ok (.aload_n 0, 1) := by decide +kernel
theorem dX12_tries_87 : decode cX12_tries 87 = .ok (.getfield 86, 3) := by decide +kernel
theorem dX12_tries_90 : decode cX12_tries 90 = .ok (.iload_n 3, 1) := by decide +kernel
theorem dX12_tries_91 : decode cX12_tries 91 = .ok (.iload 4, 2) := by decide +kernel
theorem dX12_tries_93 : decode cX12_tries 93 = .ok (.iastore, 1) := by decide +kernel
theorem dX12_tries_94 : decode cX12_tries 94 = .ok (.iinc 3 1, 3) := by decide +kernel
theorem dX12_tries_97 : decode cX12_tries 97 = .ok (.goto (-86), 3) := by decide +kernel
theorem dX12_tries_100 : decode cX12_tries 100 = .ok (.iload_n 1, 1) := by decide +kernel
theorem dX12_tries_101 : decode cX12_tries 101 = .ok (.ifCond .ne 10, 3) := by decide +kernel
theorem dX12_tries_104 : decode cX12_tries 104 = .ok (.aload_n 0, 1) := by decide +kernel
theorem dX12_tries_105 : decode cX12_tries 105 = .ok (.getfield 86, 3) := by decide +kernel
theorem dX12_tries_108 : decode cX12_tries 108 = .ok (.iload_n 2, 1) := by decide +kernel
theorem dX12_tries_109 : decode cX12_tries 109 = .ok (.iaload, 1) := by decide +kernel
theorem dX12_tries_110 : decode cX12_tries 110 = .ok (.ireturn, 1) := by decide +kernel
theorem dX12_tries_111 : decode cX12_tries 111 = .ok (.iconst 0, 1) := by decide +kernel
theorem dX12_tries_112 : decode cX12_tries 112 = .ok (.istore_n 3, 1) := by decide +kernel
theorem dX12_tries_113 : decode cX12_tries 113 = .ok (.iload_n 3, 1) := by decide +kernel
theorem dX12_tries_114 : decode cX12_tries 114 = .ok (.aload_n 0, 1) := by decide +kernel
theorem dX12_tries_115 : decode cX12_tries 115 = .ok (.getfield 58, 3) := by decide +kernel
theorem dX12_tries_118 : decode cX12_tries 118 = .ok (.iconst 0, 1) := by decide +kernel
theorem dX12_tries_119 : decode cX12_tries 119 = .ok (.iaload, 1) := by decide +kernel
theorem dX12_tries_120 : decode cX12_tries 120 = .ok (.if_icmp .ge 26, 3) := by decide +kernel
theorem dX12_tries_123 : decode cX12_tries 123 = .ok (.aload_n 0, 1) := by decide +kernel
theorem dX12_tries_124 : decode cX12_tries 124 = .ok (.iload_n 2, 1) := by decide +kernel
theorem dX12_tries_125 : decode cX12_tries 125 = .ok (.iload_n 3, 1) := by decide +kernel
theorem dX12_tries_126 : decode cX12_tries 126 = .ok (.invokevirtual 387, 3) := by decide +kernel
theorem dX12_tries_129 : decode cX12_tries 129 = .ok (.aload_n 0, 1) := by decide +kernel
theorem dX12_tries_130 : decode cX12_tries 130 = .ok (.getfield 86, 3) := by decide +kernel
theorem dX12_tries_133 : decode cX12_tries 133 = .ok (.iload_n 2, 1) := by decide +kernel
theorem dX12_tries_134 : decode cX12_tries 134 = .ok (.iaload, 1) := by decide +kernel
theorem dX12_tries_135 : decode cX12_tries 135 = .ok (.if_icmp .ne 5, 3) := by decide +kernel
theorem dX12_tries_138 : decode cX12_tries 138 = .ok (.iload_n 3, 1) := by decide +kernel
theorem dX12_tries_139 : decode cX12_tries 139 = .ok (.ireturn, 1) := by decide +kernel
theorem dX12_tries_140 : decode cX12_tries 140 = .ok (.iinc 3 1, 3) := by decide +kernel
theorem dX12_tries_143 : decode cX12_tries 143 = .ok (.goto (-30), 3) := by decide +kernel
theorem dX12_tries_146 : decode cX12_tries 146 = .ok (.bipush (-2), 2) := by decide +kernel
theorem dX12_tries_148 : decode cX12_tries 148 = .ok (.ireturn, 1) := by decide +kernel
theorem dX12_areTwo_0 : decode cX12_areTwo 0 = .ok (.aload_n 0, 1) := by decide +kernel
theorem dX12_areTwo_1 : decode cX12_areTwo 1 = .ok (.iload_n 1, 1) := by decide +kernel
theorem dX12_areTwo_2 : decode cX12_areTwo 2 = .ok (.invokevirtual 390, 3) := by decide +kernel
theorem dX12_areTwo_5 : decode cX12_areTwo 5 = .ok (.ifCond .eq 20, 3) := by decide +kernel
theorem dX12_areTwo_8 : decode cX12_areTwo 8 = .ok (.aload_n 0, 1) := by decide +kernel
theorem dX12_areTwo_9 : decode cX12_areTwo 9 = .ok (.iload_n 2, 1) := by decide +kernel
theorem dX12_areTwo_10 : decode cX12_areTwo 10 = .ok (.invokevirtual 390, 3) := by decide +kernel
theorem dX12_areTwo_13 : decode cX12_areTwo 13 = .ok (.ifCond .eq 12, 3) := by decide +kernel
theorem dX12_areTwo_16 : decode cX12_areTwo 16 = .ok (.iload_n 1, 1) := by decide +kernel
theorem dX12_areTwo_17 : decode cX12_areTwo 17 = .ok (.iload_n 2, 1) := by decide +kernel
theorem dX12_areTwo_18 : decode cX12_areTwo 18 = .ok (.if_icmp .eq 7, 3) := by decide +kernel
theorem dX12_areTwo_21 : decode cX12_areTwo 21 = .ok (.iconst 1, 1) := by decide +kernel
theorem dX12_areTwo_22 : decode cX12_areTwo 22 = .ok (.goto 4, 3) := by decide +kernel
theorem dX12_areTwo_25 : decode cX12_areTwo 25 = .ok (.iconst 0, 1) := by decide +kernel
theorem dX12_areTwo_26 : decode cX12_areTwo 26 = .ok (.ireturn, 1) := by decide +kernel
theorem dX12_laysPaths_0 : decode cX12_laysPaths 0 = .ok (.aload_n 0, 1) := by decide +kernel
theorem dX12_laysPaths_1 : decode cX12_laysPaths 1 = .ok (.iconst 0, 1) := by decide +kernel
theorem dX12_laysPaths_2 : decode cX12_laysPaths 2 = .ok (.putfield 284, 3) := by decide +kernel
theorem dX12_laysPaths_5 : decode cX12_laysPaths 5 = .ok (.iconst 2, 1) := by decide +kernel
theorem dX12_laysPaths_6 : decode cX12_laysPaths 6 = .ok (.istore 4, 2) := by decide +kernel
theorem dX12_laysPaths_8 : decode cX12_laysPaths 8 = .ok (.iload 4, 2) := by decide +kernel
theorem dX12_laysPaths_10 : decode cX12_laysPaths 10 = .ok (.iload_n 3, 1) := by decide +kernel
theorem dX12_laysPaths_11 : decode cX12_laysPaths 11 = .ok (.if_icmp .gt 17, 3) := by decide +kernel
theorem dX12_laysPaths_14 : decode cX12_laysPaths 14 = .ok (.aload_n 0, 1) := by decide +kernel
theorem dX12_laysPaths_15 : decode cX12_laysPaths 15 = .ok (.iload_n 1, 1) := by decide +kernel
theorem dX12_laysPaths_16 : decode cX12_laysPaths 16 = .ok (.iload_n 2, 1) := by decide +kernel
theorem dX12_laysPaths_17 : decode cX12_laysPaths 17 = .ok (.iload 4, 2) := by decide +kernel
theorem dX12_laysPaths_19 : decode cX12_laysPaths 19 = .ok (.invokevirtual 393, 3) := by decide +kernel
theorem dX12_laysPaths_22 : decode cX12_laysPaths 22 = .ok (.iinc 4 1, 3) := by decide +kernel
theorem dX12_laysPaths_25 : decode cX12_laysPaths 25 = .ok (.goto (-17), 3) := by decide +kernel
theorem dX12_laysPaths_28 : decode cX12_laysPaths 28 = .ok (.return_, 1) := by decide +kernel
theorem dX12_isIn_0 : decode cX12_isIn 0 = .ok (.iconst 0, 1) := by decide +kernel
theorem dX12_isIn_1 : decode cX12_isIn 1 = .ok (.istore_n 3, 1) := by decide +kernel
theorem dX12_isIn_2 : decode cX12_isIn 2 = .ok (.iload_n 3, 1) := by decide +kernel
theorem dX12_isIn_3 : decode cX12_isIn 3 = .ok (.iload_n 2, 1) := by decide +kernel
theorem dX12_isIn_4 : decode cX12_isIn 4 = .ok (.if_icmp .ge 21, 3) := by decide +kernel
theorem dX12_isIn_7 : decode cX12_isIn 7 = .ok (.aload_n 0, 1) := by decide +kernel
theorem dX12_isIn_8 : decode cX12_isIn 8 = .ok (.getfield 95, 3) := by decide +kernel
theorem dX12_isIn_11 : decode cX12_isIn 11 = .ok (.iload_n 3, 1) := by decide +kernel
theorem dX12_isIn_12 : decode cX12_isIn 12 = .ok (.iaload, 1) := by decide +kernel
theorem dX12_isIn_13 : decode cX12_isIn 13 = .ok (.iload_n 1, 1) := by decide +kernel
theorem dX12_isIn_14 : decode cX12_isIn 14 = .ok (.if_icmp .ne 5, 3) := by decide +kernel
theorem dX12_isIn_17 : decode cX12_isIn 17 = .ok (.iconst 1, 1) := by decide +kernel
theorem dX12_isIn_18 : decode cX12_isIn 18 = .ok (.ireturn, 1) := by decide +kernel
theorem dX12_isIn_19 : decode cX12_isIn 19 = .ok (.iinc 3 1, 3) := by decide +kernel
theorem dX12_isIn_22 : decode cX12_isIn 22 = .ok (.goto (-20), 3) := by decide +kernel
theorem dX12_isIn_25 : decode cX12_isIn 25 = .ok (.iconst 0, 1) := by decide +kernel
theorem dX12_isIn_26 : decode cX12_isIn 26 = .ok (.ireturn, 1) := by decide +kernel
theorem dX12_laysLong_0 : decode cX12_laysLong 0 = .ok (.aload_n 0, 1) := by decide +kernel
theorem dX12_laysLong_1 : decode cX12_laysLong 1 = .ok (.getfield 95, 3) := by decide +kernel
theorem dX12_laysLong_4 : decode cX12_laysLong 4 = .ok (.iconst 0, 1) := by decide +kernel
theorem dX12_laysLong_5 : decode cX12_laysLong 5 = .ok (.iload_n 1, 1) := by decide +kernel
theorem dX12_laysLong_6 : decode cX12_laysLong 6 = .ok (.iastore, 1) := by decide +kernel
theorem dX12_laysLong_7 : decode cX12_laysLong 7 = .ok (.aload_n 0, 1) := by decide +kernel
theorem dX12_laysLong_8 : decode cX12_laysLong 8 = .ok (.getfield 95, 3) := by decide +kernel
theorem dX12_laysLong_11 : decode cX12_laysLong 11 = .ok (.iconst 1, 1) := by decide +kernel
theorem dX12_laysLong_12 : decode cX12_laysLong 12 = .ok (.iconst (-1), 1) := by decide +kernel
theorem dX12_laysLong_13 : decode cX12_laysLong 13 = .ok (.iastore, 1) := by decide +kernel
theorem dX12_laysLong_14 : decode cX12_laysLong 14 = .ok (.iconst 1, 1) := by decide +kernel
theorem dX12_laysLong_15 : decode cX12_laysLong 15 = .ok (.istore 4, 2) := by decide +kernel
theorem dX12_laysLong_17 : decode cX12_laysLong 17 = .ok (.iload 4, 2) := by decide +kernel
theorem dX12_laysLong_19 : decode cX12_laysLong 19 = .ok (.ifCond .le 187, 3) := by decide +kernel
theorem dX12_laysLong_22 : decode cX12_laysLong 22 = .ok (.aload_n 0, 1) := by decide +kernel
theorem dX12_laysLong_23 : decode cX12_laysLong 23 = .ok (.getfield 95, 3) := by decide +kernel
theorem dX12_laysLong_26 : decode cX12_laysLong 26 = .ok (.iload 4, 2) := by decide +kernel
theorem dX12_laysLong_28 : decode cX12_laysLong 28 = .ok (.dup2, 1) := by decide +kernel
theorem dX12_laysLong_29 : decode cX12_laysLong 29 = .ok (.iaload, 1) := by decide +kernel
theorem dX12_laysLong_30 : decode cX12_laysLong 30 = .ok (.iconst 1, 1) := by decide +kernel
theorem dX12_laysLong_31 : decode cX12_laysLong 31 = .ok (.iadd, 1) := by decide +kernel
theorem dX12_laysLong_32 : decode cX12_laysLong 32 = .ok (.iastore, 1) := by decide +kernel
theorem dX12_laysLong_33 : decode cX12_laysLong 33 = .ok (.aload_n 0, 1) := by decide +kernel
theorem dX12_laysLong_34 : decode cX12_laysLong 34 = .ok (.getfield 95, 3) := by decide +kernel
theorem dX12_laysLong_37 : decode cX12_laysLong 37 = .ok (.iload 4, 2) := by decide +kernel
theorem dX12_laysLong_39 : decode cX12_laysLong 39 = .ok (.iaload, 1) := by decide +kernel
theorem dX12_laysLong_40 : decode cX12_laysLong 40 = .ok (.istore 5, 2) := by decide +kernel
theorem dX12_laysLong_42 : decode cX12_laysLong 42 = .ok (.iload 5, 2) := by decide +kernel
theorem dX12_laysLong_44 : decode cX12_laysLong 44 = .ok (.aload_n 0, 1) := by decide +kernel
theorem dX12_laysLong_45 : decode cX12_laysLong 45 = .ok (.getfield 197, 3) := by decide +kernel
theorem dX12_laysLong_48 : decode cX12_laysLong 48 = .ok (.if_icmp .ne 9, 3) := by decide +kernel
theorem dX12_laysLong_51 : decode cX12_laysLong 51 = .ok (.iinc 4 (-1), 3) := by decide +kernel
theorem dX12_laysLong_54 : decode cX12_laysLong 54 = .ok (.goto 149, 3) := by decide +kernel
theorem dX12_laysLong_57 : decode cX12_laysLong 57 = .ok (.iload 5, 2) := by decide +kernel
theorem dX12_laysLong_59 : decode cX12_laysLong 59 = .ok (.iload_n 2, 1) := by decide +kernel
theorem dX12_laysLong_60 : decode cX12_laysLong 60 = .ok (.if_icmp .ne 7, 3) := by decide +kernel
theorem dX12_laysLong_63 : decode cX12_laysLong 63 = .ok (.iconst 1, 1) := by decide +kernel
theorem dX12_laysLong_64 : decode cX12_laysLong 64 = .ok (.goto 4, 3) := by decide +kernel
theorem dX12_laysLong_67 : decode cX12_laysLong 67 = .ok (.iconst 0, 1) := by decide +kernel
theorem dX12_laysLong_68 : decode cX12_laysLong 68 = .ok (.iload 4, 2) := by decide +kernel
theorem dX12_laysLong_70 : decode cX12_laysLong 70 = .ok (.iload_n 3, 1) := by decide +kernel
theorem dX12_laysLong_71 : decode cX12_laysLong 71 = .ok (.iconst 1, 1) := by decide +kernel
theorem dX12_laysLong_72 : decode cX12_laysLong 72 = .ok (.isub, 1) := by decide +kernel
theorem dX12_laysLong_73 : decode cX12_laysLong 73 = .ok (.if_icmp .ne 7, 3) := by decide +kernel
theorem dX12_laysLong_76 : decode cX12_laysLong 76 = .ok (.iconst 1, 1) := by decide +kernel
theorem dX12_laysLong_77 : decode cX12_laysLong 77 = .ok (.goto 4, 3) := by decide +kernel
theorem dX12_laysLong_80 : decode cX12_laysLong 80 = .ok (.iconst 0, 1) := by decide +kernel
theorem dX12_laysLong_81 : decode cX12_laysLong 81 = .ok (.if_icmp .ne 122, 3) := by decide +kernel
theorem dX12_laysLong_84 : decode cX12_laysLong 84 = .ok (.aload_n 0, 1) := by decide +kernel
theorem dX12_laysLong_85 : decode cX12_laysLong 85 = .ok (.iload 5, 2) := by decide +kernel
theorem dX12_laysLong_87 : decode cX12_laysLong 87 = .ok (.iload 4, 2) := by decide +kernel
theorem dX12_laysLong_89 : decode cX12_laysLong 89 = .ok (.invokevirtual 396, 3) := by decide +kernel
theorem dX12_laysLong_92 : decode cX12_laysLong 92 = .ok (.ifCond .ne 111, 3) := by decide +kernel
theorem dX12_laysLong_95 : decode cX12_laysLong 95 = .ok (.aload_n 0, 1) := by decide +kernel
theorem dX12_laysLong_96 : decode cX12_laysLong 96 = .ok (.aload_n 0, 1) := by decide +kernel
theorem dX12_laysLong_97 : decode cX12_laysLong 97 = .ok (.getfield 95, 3) := by decide +kernel
theorem dX12_laysLong_100 : decode cX12_laysLong 100 = .ok (.iload 4, 2) := by decide +kernel
theorem dX12_laysLong_102 : decode cX12_laysLong 102 = .ok (.iconst 1, 1) := by decide +kernel
theorem dX12_laysLong_103 : decode cX12_laysLong 103 = .ok (.isub, 1) := by decide +kernel
theorem dX12_laysLong_104 : decode cX12_laysLong 104 = .ok (.iaload, 1) := by decide +kernel
theorem dX12_laysLong_105 : decode cX12_laysLong 105 = .ok (.iload 5, 2) := by decide +kernel
theorem dX12_laysLong_107 : decode cX12_laysLong 107 = .ok (.invokevirtual 265, 3) := by decide +kernel
theorem dX12_laysLong_110 : decode cX12_laysLong 110 = .ok (.ifCond .lt 93, 3) := by decide +kernel
theorem dX12_laysLong_113 : decode cX12_laysLong 113 = .ok (.iload 4, 2) := by decide +kernel
theorem dX12_laysLong_115 : decode cX12_laysLong 115 = .ok (.iload_n 3, 1) := by decide +kernel
theorem dX12_laysLong_116 : decode cX12_laysLong 116 = .ok (.iconst 1, 1) := by decide +kernel
theorem dX12_laysLong_117 : decode cX12_laysLong 117 = .ok (.isub, 1) := by decide +kernel
theorem dX12_laysLong_118 : decode cX12_laysLong 118 = .ok (.if_icmp .ne 74, 3) := by decide +kernel
theorem dX12_laysLong_121 : decode cX12_laysLong 121 = .ok (.aload_n 0, 1) := by decide +kernel
theorem dX12_laysLong_122 : decode cX12_laysLong 122 = .ok (.getfield 89, 3) := by decide +kernel
theorem dX12_laysLong_125 : decode cX12_laysLong 125 = .ok (.aload_n 0, 1) := by decide +kernel
theorem dX12_laysLong_126 : decode cX12_laysLong 126 = .ok (.getfield 284, 3) := by decide +kernel
theorem dX12_laysLong_129 : decode cX12_laysLong 129 = .ok (.iload_n 3, 1) := by decide +kernel
theorem dX12_laysLong_130 : decode cX12_laysLong 130 = .ok (.iastore, 1) := by decide +kernel
theorem dX12_laysLong_131 : decode cX12_laysLong 131 = .ok (.iconst 0, 1) := by decide +kernel
theorem dX12_laysLong_132 : decode cX12_laysLong 132 = .ok (.istore 6, 2) := by decide +kernel
theorem dX12_laysLong_134 : decode cX12_laysLong 134 = .ok (.iload 6, 2) := by decide +kernel
theorem dX12_laysLong_136 : decode cX12_laysLong 136 = .ok (.bipush 8, 2) := by decide +kernel
theorem dX12_laysLong_138 : decode cX12_laysLong 138 = .ok (.if_icmp .ge 41, 3) := by decide +kernel
theorem dX12_laysLong_141 : decode cX12_laysLong 141 = .ok (.aload_n 0, 1) := by decide +kernel
theorem dX12_laysLong_142 : decode cX12_laysLong 142 = .ok (.getfield 92, 3) := by decide +kernel
theorem dX12_laysLong_145 : decode cX12_laysLong 145 = .ok (.bipush 8, 2) := by decide +kernel
theorem dX12_laysLong_147 : decode cX12_laysLong 147 = .ok (.aload_n 0, 1) := by decide +kernel
theorem dX12_laysLong_148 : decode cX12_laysLong 148 = .ok (.getfield 284, 3) := by decide +kernel
theorem dX12_laysLong_151 : decode cX12_laysLong 151 = .ok (.imul, 1) := by decide +kernel
theorem dX12_laysLong_152 : decode cX12_laysLong 152 = .ok (.iload 6, 2) := by decide +kernel
theorem dX12_laysLong_154 : decode cX12_laysLong 154 = .ok (.iadd, 1) := by decide +kernel
theorem dX12_laysLong_155 : decode cX12_laysLong 155 = .ok (.iload 6, 2) := by decide +kernel
theorem dX12_laysLong_157 : decode cX12_laysLong 157 = .ok (.iload_n 3, 1) := by decide +kernel
theorem dX12_laysLong_158 : decode cX12_laysLong 158 = .ok (.if_icmp .ge 13, 3) := by decide +kernel
theorem dX12_laysLong_161 : decode cX12_laysLong 161 = .ok (.aload_n 0, 1) := by decide +kernel
theorem dX12_laysLong_162 : decode cX12_laysLong 162 = .ok (.getfield 95, 3) := by decide +kernel
theorem dX12_laysLong_165 : decode cX12_laysLong 165 = .ok (.iload 6, 2) := by decide +kernel
theorem dX12_laysLong_167 : decode cX12_laysLong 167 = .ok (.iaload, 1) := by decide +kernel
theorem dX12_laysLong_168 : decode cX12_laysLong 168 = .ok (.goto 4, 3) := by decide +kernel
theorem dX12_laysLong_171 : decode cX12_laysLong 171 = .ok (.iconst 0, 1) := by decide +kernel
theorem dX12_laysLong_172 : decode cX12_laysLong 172 = .ok (.iastore, 1) := by decide +kernel
theorem dX12_laysLong_173 : decode cX12_laysLong 173 = .ok (.iinc 6 1, 3) := by decide +kernel
theorem dX12_laysLong_176 : decode cX12_laysLong 176 = .ok (.goto (-42), 3) := by decide +kernel
theorem dX12_laysLong_179 : decode cX12_laysLong 179 = .ok (.aload_n 0, 1) := by decide +kernel
theorem dX12_laysLong_180 : decode cX12_laysLong 180 = .ok (.dup, 1) := by decide +kernel
theorem dX12_laysLong_181 : decode cX12_laysLong 181 = .ok (.getfield 284, 3) := by decide +kernel
theorem dX12_laysLong_184 : decode cX12_laysLong 184 = .ok (.iconst 1, 1) := by decide +kernel
theorem dX12_laysLong_185 : decode cX12_laysLong 185 = .ok (.iadd, 1) := by decide +kernel
theorem dX12_laysLong_186 : decode cX12_laysLong 186 = .ok (.putfield 284, 3) := by decide +kernel
theorem dX12_laysLong_189 : decode cX12_laysLong 189 = .ok (.goto 14, 3) := by decide +kernel
theorem dX12_laysLong_192 : decode cX12_laysLong 192 = .ok (.iinc 4 1, 3) := by decide +kernel
theorem dX12_laysLong_195 : decode cX12_laysLong 195 = .ok (.aload_n 0, 1) := by decide +kernel
theorem dX12_laysLong_196 : decode cX12_laysLong 196 = .ok (.getfield 95, 3) := by decide +kernel
theorem dX12_laysLong_199 : decode cX12_laysLong 199 = .ok (.iload 4, 2) := by decide +kernel
theorem dX12_laysLong_201 : decode cX12_laysLong 201 = .ok (.iconst (-1), 1) := by decide +kernel
theorem dX12_laysLong_202 : decode cX12_laysLong 202 = .ok (.iastore, 1) := by decide +kernel
theorem dX12_laysLong_203 : decode cX12_laysLong 203 = .ok (.goto (-186), 3) := by decide +kernel
theorem dX12_laysLong_206 : decode cX12_laysLong 206 = .ok (.return_, 1) := by decide +kernel
theorem dX12_linksOfPath_0 : decode cX12_linksOfPath 0 = .ok (.iconst 0, 1) := by decide +kernel
theorem dX12_linksOfPath_1 : decode cX12_linksOfPath 1 = .ok (.istore_n 2, 1) := by decide +kernel
theorem dX12_linksOfPath_2 : decode cX12_linksOfPath 2 = .ok (.iconst 1, 1) := by decide +kernel
theorem dX12_linksOfPath_3 : decode cX12_linksOfPath 3 = .ok (.istore_n 3, 1) := by decide +kernel
theorem dX12_linksOfPath_4 : decode cX12_linksOfPath 4 = .ok (.iload_n 3, 1) := by decide +kernel
theorem dX12_linksOfPath_5 : decode cX12_linksOfPath 5 = .ok (.aload_n 0, 1) := by decide +kernel
theorem dX12_linksOfPath_6 : decode cX12_linksOfPath 6 = .ok (.getfield 89, 3) := by decide +kernel
theorem dX12_linksOfPath_9 : decode cX12_linksOfPath 9 = .ok (.iload_n 1, 1) := by decide +kernel
theorem dX12_linksOfPath_10 : decode cX12_linksOfPath 10 = .ok (.iaload, 1) := by decide +kernel
theorem dX12_linksOfPath_11 : decode cX12_linksOfPath 11 = .ok (.if_icmp .ge 42, 3) := by decide +kernel
theorem dX12_linksOfPath_14 : decode cX12_linksOfPath 14 = .ok (.iload_n 2, 1) := by decide +kernel
theorem dX12_linksOfPath_15 : decode cX12_linksOfPath 15 = .ok (.iconst 1, 1) := by decide +kernel
theorem dX12_linksOfPath_16 : decode cX12_linksOfPath 16 = .ok (.aload_n 0, 1) := by decide +kernel
theorem dX12_linksOfPath_17 : decode cX12_linksOfPath 17 = .ok (.aload_n 0, 1) := by decide +kernel
theorem dX12_linksOfPath_18 : decode cX12_linksOfPath 18 = .ok (.getfield 92, 3) := by decide +kernel
theorem dX12_linksOfPath_21 : decode cX12_linksOfPath 21 = .ok (.bipush 8, 2) := by decide +kernel
theorem dX12_linksOfPath_23 : decode cX12_linksOfPath 23 = .ok (.iload_n 1, 1) := by decide +kernel
theorem dX12_linksOfPath_24 : decode cX12_linksOfPath 24 = .ok (.imul, 1) := by decide +kernel
theorem dX12_linksOfPath_25 : decode cX12_linksOfPath 25 = .ok (.iload_n 3, 1) := by decide +kernel
theorem dX12_linksOfPath_26 : decode cX12_linksOfPath 26 = .ok (.iadd, 1) := by decide +kernel
theorem dX12_linksOfPath_27 : decode cX12_linksOfPath 27 = .ok (.iconst 1, 1) := by decide +kernel
theorem dX12_linksOfPath_28 : decode cX12_linksOfPath 28 = .ok (.isub, 1) := by decide +kernel
theorem dX12_linksOfPath_29 : decode cX12_linksOfPath 29 = .ok (.iaload, 1) := by decide +kernel
theorem dX12_linksOfPath_30 : decode cX12_linksOfPath 30 = .ok (.aload_n 0, 1) := by decide +kernel
theorem dX12_linksOfPath_31 : decode cX12_linksOfPath 31 = .ok (.getfield 92, 3) := by decide +kernel
theorem dX12_linksOfPath_34 : decode cX12_linksOfPath 34 = .ok (.bipush 8, 2) := by decide +kernel
theorem dX12_linksOfPath_36 : decode cX12_linksOfPath 36 = .ok (.iload_n 1, 1) := by decide +kernel
theorem dX12_linksOfPath_37 : decode cX12_linksOfPath 37 = .ok (.imul, 1) := by decide +kernel
theorem dX12_linksOfPath_38 : decode cX12_linksOfPath 38 = .ok (.iload_n 3, 1) := by decide +kernel
theorem dX12_linksOfPath_39 : decode cX12_linksOfPath 39 = .ok (.iadd, 1) := by decide +kernel
theorem dX12_linksOfPath_40 : decode cX12_linksOfPath 40 = .ok (.iaload, 1) := by decide +kernel
theorem dX12_linksOfPath_41 : decode cX12_linksOfPath 41 = .ok (.invokevirtual 265, 3) := by decide +kernel
theorem dX12_linksOfPath_44 : decode cX12_linksOfPath 44 = .ok (.ishl, 1) := by decide +kernel
theorem dX12_linksOfPath_45 : decode cX12_linksOfPath 45 = .ok (.ior, 1) := by decide +kernel
theorem dX12_linksOfPath_46 : decode cX12_linksOfPath 46 = .ok (.istore_n 2, 1) := by decide +kernel
theorem dX12_linksOfPath_47 : decode cX12_linksOfPath 47 = .ok (.iinc 3 1, 3) := by decide +kernel
theorem dX12_linksOfPath_50 : decode cX12_linksOfPath 50 = .ok (.goto (-46), 3) := by decide +kernel
theorem dX12_linksOfPath_53 : decode cX12_linksOfPath 53 = .ok (.iload_n 2, 1) := by decide +kernel
theorem dX12_linksOfPath_54 : decode cX12_linksOfPath 54 = .ok (.ireturn, 1) := by decide +kernel
theorem dX12_path_0 : decode cX12_path 0 = .ok (.aload_n 0, 1) := by decide +kernel
theorem dX12_path_1 : decode cX12_path 1 = .ok (.iload_n 1, 1) := by decide +kernel
theorem dX12_path_2 : decode cX12_path 2 = .ok (.iload_n 2, 1) := by decide +kernel
theorem dX12_path_3 : decode cX12_path 3 = .ok (.invokevirtual 277, 3) := by decide +kernel
theorem dX12_path_6 : decode cX12_path 6 = .ok (.ifCond .ne 5, 3) := by decide +kernel
theorem dX12_path_9 : decode cX12_path 9 = .ok (.iconst (-1), 1) := by decide +kernel
theorem dX12_path_10 : decode cX12_path 10 = .ok (.ireturn, 1) := by decide +kernel
theorem dX12_path_11 : decode cX12_path 11 = .ok (.aload_n 0, 1) := by decide +kernel
theorem dX12_path_12 : decode cX12_path 12 = .ok (.iload_n 1, 1) := by decide +kernel
theorem dX12_path_13 : decode cX12_path 13 = .ok (.iload_n 2, 1) := by decide +kernel
theorem dX12_path_14 : decode cX12_path 14 = .ok (.bipush 8, 2) := by decide +kernel
theorem dX12_path_16 : decode cX12_path 16 = .ok (.invokevirtual 280, 3) := by decide +kernel
theorem dX12_path_19 : decode cX12_path 19 = .ok (.iload_n 3, 1) := by decide +kernel
theorem dX12_path_20 : decode cX12_path 20 = .ok (.iconst (-1), 1) := by decide +kernel
theorem dX12_path_21 : decode cX12_path 21 = .ok (.if_icmp .ne 8, 3) := by decide +kernel
theorem dX12_path_24 : decode cX12_path 24 = .ok (.aload_n 0, 1) := by decide +kernel
theorem dX12_path_25 : decode cX12_path 25 = .ok (.getfield 284, 3) := by decide +kernel
theorem dX12_path_28 : decode cX12_path 28 = .ok (.ireturn, 1) := by decide +kernel
theorem dX12_path_29 : decode cX12_path 29 = .ok (.iload_n 3, 1) := by decide +kernel
theorem dX12_path_30 : decode cX12_path 30 = .ok (.iconst 0, 1) := by decide +kernel
theorem dX12_path_31 : decode cX12_path 31 = .ok (.aload_n 0, 1) := by decide +kernel
theorem dX12_path_32 : decode cX12_path 32 = .ok (.getfield 284, 3) := by decide +kernel
theorem dX12_path_35 : decode cX12_path 35 = .ok (.iconst 1, 1) := by decide +kernel
theorem dX12_path_36 : decode cX12_path 36 = .ok (.isub, 1) := by decide +kernel
theorem dX12_path_37 : decode cX12_path 37 = .ok (.invokestatic 250, 3) := by decide +kernel
theorem dX12_path_40 : decode cX12_path 40 = .ok (.ifCond .ne 5, 3) := by decide +kernel
theorem dX12_path_43 : decode cX12_path 43 = .ok (.iconst (-1), 1) := by decide +kernel
theorem dX12_path_44 : decode cX12_path 44 = .ok (.ireturn, 1) := by decide +kernel
theorem dX12_path_45 : decode cX12_path 45 = .ok (.iload 4, 2) := by decide +kernel
theorem dX12_path_47 : decode cX12_path 47 = .ok (.iconst (-1), 1) := by decide +kernel
theorem dX12_path_48 : decode cX12_path 48 = .ok (.if_icmp .ne 12, 3) := by decide +kernel
theorem dX12_path_51 : decode cX12_path 51 = .ok (.aload_n 0, 1) := by decide +kernel
theorem dX12_path_52 : decode cX12_path 52 = .ok (.getfield 89, 3) := by decide +kernel
theorem dX12_path_55 : decode cX12_path 55 = .ok (.iload_n 3, 1) := by decide +kernel
theorem dX12_path_56 : decode cX12_path 56 = .ok (.iaload, 1) := by decide +kernel
theorem dX12_path_57 : decode cX12_path 57 = .ok (.goto 36, 3) := by decide +kernel
theorem dX12_path_60 : decode cX12_path 60 = .ok (.iload 4, 2) := by decide +kernel
theorem dX12_path_62 : decode cX12_path 62 = .ok (.iconst 0, 1) := by decide +kernel
theorem dX12_path_63 : decode cX12_path 63 = .ok (.aload_n 0, 1) := by decide +kernel
theorem dX12_path_64 : decode cX12_path 64 = .ok (.getfield 89, 3) := by decide +kernel
theorem dX12_path_67 : decode cX12_path 67 = .ok (.iload_n 3, 1) := by decide +kernel
theorem dX12_path_68 : decode cX12_path 68 = .ok (.iaload, 1) := by decide +kernel
theorem dX12_path_69 : decode cX12_path 69 = .ok (.iconst 1, 1) := by decide +kernel
theorem dX12_path_70 : decode cX12_path 70 = .ok (.isub, 1) := by decide +kernel
theorem dX12_path_71 : decode cX12_path 71 = .ok (.invokestatic 250, 3) := by decide +kernel
theorem dX12_path_74 : decode cX12_path 74 = .ok (.ifCond .eq 18, 3) := by decide +kernel
theorem dX12_path_77 : decode cX12_path 77 = .ok (.aload_n 0, 1) := by decide +kernel
theorem dX12_path_78 : decode cX12_path 78 = .ok (.getfield 92, 3) := by decide +kernel
theorem dX12_path_81 : decode cX12_path 81 = .ok (.bipush 8, 2) := by decide +kernel
theorem dX12_path_83 : decode cX12_path 83 = .ok (.iload_n 3, 1) := by decide +kernel
theorem dX12_path_84 : decode cX12_path 84 = .ok (.imul, 1) := by decide +kernel
theorem dX12_path_85 : decode cX12_path 85 = .ok (.iload 4, 2) := by decide +kernel
theorem dX12_path_87 : decode cX12_path 87 = .ok (.iadd, 1) := by decide +kernel
theorem dX12_path_88 : decode cX12_path 88 = .ok (.iaload, 1) := by decide +kernel
theorem dX12_path_89 : decode cX12_path 89 = .ok (.goto 4, 3) := by decide +kernel
theorem dX12_path_92 : decode cX12_path 92 = .ok (.iconst (-1), 1) := by decide +kernel
theorem dX12_path_93 : decode cX12_path 93 = .ok (.ireturn, 1) := by decide +kernel
theorem dX12_fresh_0 : decode cX12_fresh 0 = .ok (.aload_n 0, 1) := by decide +kernel
theorem dX12_fresh_1 : decode cX12_fresh 1 = .ok (.iload_n 1, 1) := by decide +kernel
theorem dX12_fresh_2 : decode cX12_fresh 2 = .ok (.iload_n 2, 1) := by decide +kernel
theorem dX12_fresh_3 : decode cX12_fresh 3 = .ok (.invokevirtual 277, 3) := by decide +kernel
theorem dX12_fresh_6 : decode cX12_fresh 6 = .ok (.ifCond .ne 5, 3) := by decide +kernel
theorem dX12_fresh_9 : decode cX12_fresh 9 = .ok (.iconst (-1), 1) := by decide +kernel
theorem dX12_fresh_10 : decode cX12_fresh 10 = .ok (.ireturn, 1) := by decide +kernel
theorem dX12_fresh_11 : decode cX12_fresh 11 = .ok (.aload_n 0, 1) := by decide +kernel
theorem dX12_fresh_12 : decode cX12_fresh 12 = .ok (.invokevirtual 332, 3) := by decide +kernel
theorem dX12_fresh_15 : decode cX12_fresh 15 = .ok (.aload_n 0, 1) := by decide +kernel
theorem dX12_fresh_16 : decode cX12_fresh 16 = .ok (.iload_n 1, 1) := by decide +kernel
theorem dX12_fresh_17 : decode cX12_fresh 17 = .ok (.iload_n 2, 1) := by decide +kernel
theorem dX12_fresh_18 : decode cX12_fresh 18 = .ok (.bipush 8, 2) := by decide +kernel
theorem dX12_fresh_20 : decode cX12_fresh 20 = .ok (.invokevirtual 280, 3) := by decide +kernel
theorem dX12_fresh_23 : decode cX12_fresh 23 = .ok (.bipush (-2), 2) := by decide +kernel
theorem dX12_fresh_25 : decode cX12_fresh 25 = .ok (.istore_n 3, 1) := by decide +kernel
theorem dX12_fresh_26 : decode cX12_fresh 26 = .ok (.iconst 0, 1) := by decide +kernel
theorem dX12_fresh_27 : decode cX12_fresh 27 = .ok (.istore 4, 2) := by decide +kernel
theorem dX12_fresh_29 : decode cX12_fresh 29 = .ok (.iconst 0, 1) := by decide +kernel
theorem dX12_fresh_30 : decode cX12_fresh 30 = .ok (.istore 5, 2) := by decide +kernel
theorem dX12_fresh_32 : decode cX12_fresh 32 = .ok (.iload 5, 2) := by decide +kernel
theorem dX12_fresh_34 : decode cX12_fresh 34 = .ok (.aload_n 0, 1) := by decide +kernel
theorem dX12_fresh_35 : decode cX12_fresh 35 = .ok (.getfield 284, 3) := by decide +kernel
theorem dX12_fresh_38 : decode cX12_fresh 38 = .ok (.if_icmp .ge 42, 3) := by decide +kernel
theorem dX12_fresh_41 : decode cX12_fresh 41 = .ok (.aload_n 0, 1) := by decide +kernel
theorem dX12_fresh_42 : decode cX12_fresh 42 = .ok (.aload_n 0, 1) := by decide +kernel
theorem dX12_fresh_43 : decode cX12_fresh 43 = .ok (.iload 5, 2) := by decide +kernel
theorem dX12_fresh_45 : decode cX12_fresh 45 = .ok (.invokevirtual 399, 3) := by decide +kernel
theorem dX12_fresh_48 : decode cX12_fresh 48 = .ok (.invokevirtual 378, 3) := by decide +kernel
theorem dX12_fresh_51 : decode cX12_fresh 51 = .ok (.istore 6, 2) := by decide +kernel
theorem dX12_fresh_53 : decode cX12_fresh 53 = .ok (.iload_n 3, 1) := by decide +kernel
theorem dX12_fresh_54 : decode cX12_fresh 54 = .ok (.ifCond .lt 13, 3) := by decide +kernel
theorem dX12_fresh_57 : decode cX12_fresh 57 = .ok (.iload 6, 2) := by decide +kernel
theorem dX12_fresh_59 : decode cX12_fresh 59 = .ok (.iload 4, 2) := by decide +kernel
theorem dX12_fresh_61 : decode cX12_fresh 61 = .ok (.if_icmp .lt 6, 3) := by decide +kernel
theorem dX12_fresh_64 : decode cX12_fresh 64 = .ok (.goto 10, 3) := by decide +kernel
theorem dX12_fresh_67 : decode cX12_fresh 67 = .ok (.iload 5, 2) := by decide +kernel
theorem dX12_fresh_69 : decode cX12_fresh 69 = .ok (.istore_n 3, 1) := by decide +kernel
theorem dX12_fresh_70 : decode cX12_fresh 70 = .ok (.iload 6, 2) := by decide +kernel
theorem dX12_fresh_72 : decode cX12_fresh 72 = .ok (.istore 4, 2) := by decide +kernel
theorem dX12_fresh_74 : decode cX12_fresh 74 = .ok (.iinc 5 1, 3) := by decide +kernel
theorem dX12_fresh_77 : decode cX12_fresh 77 = .ok (.goto (-45), 3) := by decide +kernel
theorem dX12_fresh_80 : decode cX12_fresh 80 = .ok (.iload_n 3, 1) := by decide +kernel
theorem dX12_fresh_81 : decode cX12_fresh 81 = .ok (.ireturn, 1) := by decide +kernel
theorem dX12_laysPlans_0 : decode cX12_laysPlans 0 = .ok (.aload_n 0, 1) := by decide +kernel
theorem dX12_laysPlans_1 : decode cX12_laysPlans 1 = .ok (.iconst 0, 1) := by decide +kernel
theorem dX12_laysPlans_2 : decode cX12_laysPlans 2 = .ok (.putfield 402, 3) := by decide +kernel
theorem dX12_laysPlans_5 : decode cX12_laysPlans 5 = .ok (.iconst 0, 1) := by decide +kernel
theorem dX12_laysPlans_6 : decode cX12_laysPlans 6 = .ok (.istore_n 1, 1) := by decide +kernel
theorem dX12_laysPlans_7 : decode cX12_laysPlans 7 = .ok (.iload_n 1, 1) := by decide +kernel
theorem dX12_laysPlans_8 : decode cX12_laysPlans 8 = .ok (.aload_n 0, 1) := by decide +kernel
theorem dX12_laysPlans_9 : decode cX12_laysPlans 9 = .ok (.getfield 197, 3) := by decide +kernel
theorem dX12_laysPlans_12 : decode cX12_laysPlans 12 = .ok (.if_icmp .ge 99, 3) := by decide +kernel
theorem dX12_laysPlans_15 : decode cX12_laysPlans 15 = .ok (.iload_n 1, 1) := by decide +kernel
theorem dX12_laysPlans_16 : decode cX12_laysPlans 16 = .ok (.iconst 1, 1) := by decide +kernel
theorem dX12_laysPlans_17 : decode cX12_laysPlans 17 = .ok (.iadd, 1) := by decide +kernel
theorem dX12_laysPlans_18 : decode cX12_laysPlans 18 = .ok (.istore_n 2, 1) := by decide +kernel
theorem dX12_laysPlans_19 : decode cX12_laysPlans 19 = .ok (.iload_n 2, 1) := by decide +kernel
theorem dX12_laysPlans_20 : decode cX12_laysPlans 20 = .ok (.aload_n 0, 1) := by decide +kernel
theorem dX12_laysPlans_21 : decode cX12_laysPlans 21 = .ok (.getfield 197, 3) := by decide +kernel
theorem dX12_laysPlans_24 : decode cX12_laysPlans 24 = .ok (.if_icmp .ge 81, 3) := by decide +kernel
theorem dX12_laysPlans_27 : decode cX12_laysPlans 27 = .ok (.aload_n 0, 1) := by decide +kernel
theorem dX12_laysPlans_28 : decode cX12_laysPlans 28 = .ok (.getfield 203, 3) := by decide +kernel
theorem dX12_laysPlans_31 : decode cX12_laysPlans 31 = .ok (.iload_n 1, 1) := by decide +kernel
theorem dX12_laysPlans_32 : decode cX12_laysPlans 32 = .ok (.invokestatic 257, 3) := by decide +kernel
theorem dX12_laysPlans_35 : decode cX12_laysPlans 35 = .ok (.ifCond .eq 64, 3) := by decide +kernel
theorem dX12_laysPlans_38 : decode cX12_laysPlans 38 = .ok (.aload_n 0, 1) := by decide +kernel
theorem dX12_laysPlans_39 : decode cX12_laysPlans 39 = .ok (.getfield 203, 3) := by decide +kernel
theorem dX12_laysPlans_42 : decode cX12_laysPlans 42 = .ok (.iload_n 2, 1) := by decide +kernel
theorem dX12_laysPlans_43 : decode cX12_laysPlans 43 = .ok (.invokestatic 257, 3) := by decide +kernel
theorem dX12_laysPlans_46 : decode cX12_laysPlans 46 = .ok (.ifCond .ne 6, 3) := by decide +kernel
theorem dX12_laysPlans_49 : decode cX12_laysPlans 49 = .ok (.goto 50, 3) := by decide +kernel
theorem dX12_laysPlans_52 : decode cX12_laysPlans 52 = .ok (.aload_n 0, 1) := by decide +kernel
theorem dX12_laysPlans_53 : decode cX12_laysPlans 53 = .ok (.iload_n 1, 1) := by decide +kernel
theorem dX12_laysPlans_54 : decode cX12_laysPlans 54 = .ok (.iload_n 2, 1) := by decide +kernel
theorem dX12_laysPlans_55 : decode cX12_laysPlans 55 = .ok (.iconst 5, 1) := by decide +kernel
theorem dX12_laysPlans_56 : decode cX12_laysPlans 56 = .ok (.invokevirtual 280, 3) := by decide +kernel
theorem dX12_laysPlans_59 : decode cX12_laysPlans 59 = .ok (.iconst 0, 1) := by decide +kernel
theorem dX12_laysPlans_60 : decode cX12_laysPlans 60 = .ok (.istore_n 3, 1) := by decide +kernel
theorem dX12_laysPlans_61 : decode cX12_laysPlans 61 = .ok (.iload_n 3, 1) := by decide +kernel
theorem dX12_laysPlans_62 : decode cX12_laysPlans 62 = .ok (.aload_n 0, 1) := by decide +kernel
theorem dX12_laysPlans_63 : decode cX12_laysPlans 63 = .ok (.getfield 284, 3) := by decide +kernel
theorem dX12_laysPlans_66 : decode cX12_laysPlans 66 = .ok (.if_icmp .ge 33, 3) := by decide +kernel
theorem dX12_laysPlans_69 : decode cX12_laysPlans 69 = .ok (.aload_n 0, 1) := by decide +kernel
theorem dX12_laysPlans_70 : decode cX12_laysPlans 70 = .ok (.getfield 98, 3) := by decide +kernel
theorem dX12_laysPlans_73 : decode cX12_laysPlans 73 = .ok (.aload_n 0, 1) := by decide +kernel
theorem dX12_laysPlans_74 : decode cX12_laysPlans 74 = .ok (.getfield 402, 3) := by decide +kernel
theorem dX12_laysPlans_77 : decode cX12_laysPlans 77 = .ok (.aload_n 0, 1) := by decide +kernel
theorem dX12_laysPlans_78 : decode cX12_laysPlans 78 = .ok (.iload_n 3, 1) := by decide +kernel
theorem dX12_laysPlans_79 : decode cX12_laysPlans 79 = .ok (.invokevirtual 399, 3) := by decide +kernel
theorem dX12_laysPlans_82 : decode cX12_laysPlans 82 = .ok (.iastore, 1) := by decide +kernel
theorem dX12_laysPlans_83 : decode cX12_laysPlans 83 = .ok (.aload_n 0, 1) := by decide +kernel
theorem dX12_laysPlans_84 : decode cX12_laysPlans 84 = .ok (.dup, 1) := by decide +kernel
theorem dX12_laysPlans_85 : decode cX12_laysPlans 85 = .ok (.getfield 402, 3) := by decide +kernel
theorem dX12_laysPlans_88 : decode cX12_laysPlans 88 = .ok (.iconst 1, 1) := by decide +kernel
theorem dX12_laysPlans_89 : decode cX12_laysPlans 89 = .ok (.iadd, 1) := by decide +kernel
theorem dX12_laysPlans_90 : decode cX12_laysPlans 90 = .ok (.putfield 402, 3) := by decide +kernel
theorem dX12_laysPlans_93 : decode cX12_laysPlans 93 = .ok (.iinc 3 1, 3) := by decide +kernel
theorem dX12_laysPlans_96 : decode cX12_laysPlans 96 = .ok (.goto (-35), 3) := by decide +kernel
theorem dX12_laysPlans_99 : decode cX12_laysPlans 99 = .ok (.iinc 2 1, 3) := by decide +kernel
theorem dX12_laysPlans_102 : decode cX12_laysPlans 102 = .ok (.goto (-83), 3) := by decide +kernel
theorem dX12_laysPlans_105 : decode cX12_laysPlans 105 = .ok (.iinc 1 1, 3) := by decide +kernel
theorem dX12_laysPlans_108 : decode cX12_laysPlans 108 = .ok (.goto (-101), 3) := by decide +kernel
theorem dX12_laysPlans_111 : decode cX12_laysPlans 111 = .ok (.return_, 1) := by decide +kernel
theorem dX12_laysLikes_0 : decode cX12_laysLikes 0 = .ok (.aload_n 0, 1) := by decide +kernel
theorem dX12_laysLikes_1 : decode cX12_laysLikes 1 = .ok (.iconst 0, 1) := by decide +kernel
theorem dX12_laysLikes_2 : decode cX12_laysLikes 2 = .ok (.putfield 405, 3) := by decide +kernel
theorem dX12_laysLikes_5 : decode cX12_laysLikes 5 = .ok (.iconst 0, 1) := by decide +kernel
theorem dX12_laysLikes_6 : decode cX12_laysLikes 6 = .ok (.istore_n 1, 1) := by decide +kernel
theorem dX12_laysLikes_7 : decode cX12_laysLikes 7 = .ok (.iload_n 1, 1) := by decide +kernel
theorem dX12_laysLikes_8 : decode cX12_laysLikes 8 = .ok (.aload_n 0, 1) := by decide +kernel
theorem dX12_laysLikes_9 : decode cX12_laysLikes 9 = .ok (.getfield 402, 3) := by decide +kernel
theorem dX12_laysLikes_12 : decode cX12_laysLikes 12 = .ok (.if_icmp .ge 24, 3) := by decide +kernel
theorem dX12_laysLikes_15 : decode cX12_laysLikes 15 = .ok (.aload_n 0, 1) := by decide +kernel
theorem dX12_laysLikes_16 : decode cX12_laysLikes 16 = .ok (.dup, 1) := by decide +kernel
theorem dX12_laysLikes_17 : decode cX12_laysLikes 17 = .ok (.getfield 405, 3) := by decide +kernel
theorem dX12_laysLikes_20 : decode cX12_laysLikes 20 = .ok (.aload_n 0, 1) := by decide +kernel
theorem dX12_laysLikes_21 : decode cX12_laysLikes 21 = .ok (.getfield 98, 3) := by decide +kernel
theorem dX12_laysLikes_24 : decode cX12_laysLikes 24 = .ok (.iload_n 1, 1) := by decide +kernel
theorem dX12_laysLikes_25 : decode cX12_laysLikes 25 = .ok (.iaload, 1) := by decide +kernel
theorem dX12_laysLikes_26 : decode cX12_laysLikes 26 = .ok (.ior, 1) := by decide +kernel
theorem dX12_laysLikes_27 : decode cX12_laysLikes 27 = .ok (.putfield 405, 3) := by decide +kernel
theorem dX12_laysLikes_30 : decode cX12_laysLikes 30 = .ok (.iinc 1 1, 3) := by decide +kernel
theorem dX12_laysLikes_33 : decode cX12_laysLikes 33 = .ok (.goto (-26), 3) := by decide +kernel
theorem dX12_laysLikes_36 : decode cX12_laysLikes 36 = .ok (.iconst 0, 1) := by decide +kernel
theorem dX12_laysLikes_37 : decode cX12_laysLikes 37 = .ok (.istore_n 1, 1) := by decide +kernel
theorem dX12_laysLikes_38 : decode cX12_laysLikes 38 = .ok (.iload_n 1, 1) := by decide +kernel
theorem dX12_laysLikes_39 : decode cX12_laysLikes 39 = .ok (.aload_n 0, 1) := by decide +kernel
theorem dX12_laysLikes_40 : decode cX12_laysLikes 40 = .ok (.getfield 200, 3) := by decide +kernel
theorem dX12_laysLikes_43 : decode cX12_laysLikes 43 = .ok (.if_icmp .ge 88, 3) := by decide +kernel
theorem dX12_laysLikes_46 : decode cX12_laysLikes 46 = .ok (.aload_n 0, 1) := by decide +kernel
theorem dX12_laysLikes_47 : decode cX12_laysLikes 47 = .ok (.getfield 101, 3) := by decide +kernel
theorem dX12_laysLikes_50 : decode cX12_laysLikes 50 = .ok (.iload_n 1, 1) := by decide +kernel
theorem dX12_laysLikes_51 : decode cX12_laysLikes 51 = .ok (.iload_n 1, 1) := by decide +kernel
theorem dX12_laysLikes_52 : decode cX12_laysLikes 52 = .ok (.iastore, 1) := by decide +kernel
theorem dX12_laysLikes_53 : decode cX12_laysLikes 53 = .ok (.iload_n 1, 1) := by decide +kernel
theorem dX12_laysLikes_54 : decode cX12_laysLikes 54 = .ok (.iconst 1, 1) := by decide +kernel
theorem dX12_laysLikes_55 : decode cX12_laysLikes 55 = .ok (.isub, 1) := by decide +kernel
theorem dX12_laysLikes_56 : decode cX12_laysLikes 56 = .ok (.istore_n 2, 1) := by decide +kernel
theorem dX12_laysLikes_57 : decode cX12_laysLikes 57 = .ok (.iload_n 2, 1) := by decide +kernel
theorem dX12_laysLikes_58 : decode cX12_laysLikes 58 = .ok (.ifCond .lt 67, 3) := by decide +kernel
theorem dX12_laysLikes_61 : decode cX12_laysLikes 61 = .ok (.iconst 1, 1) := by decide +kernel
theorem dX12_laysLikes_62 : decode cX12_laysLikes 62 = .ok (.istore_n 3, 1) := by decide +kernel
theorem dX12_laysLikes_63 : decode cX12_laysLikes 63 = .ok (.iconst 0, 1) := by decide +kernel
theorem dX12_laysLikes_64 : decode cX12_laysLikes 64 = .ok (.istore 4, 2) := by decide +kernel
theorem dX12_laysLikes_66 : decode cX12_laysLikes 66 = .ok (.iload 4, 2) := by decide +kernel
theorem dX12_laysLikes_68 : decode cX12_laysLikes 68 = .ok (.aload_n 0, 1) := by decide +kernel
theorem dX12_laysLikes_69 : decode cX12_laysLikes 69 = .ok (.getfield 402, 3) := by decide +kernel
theorem dX12_laysLikes_72 : decode cX12_laysLikes 72 = .ok (.if_icmp .ge 36, 3) := by decide +kernel
theorem dX12_laysLikes_75 : decode cX12_laysLikes 75 = .ok (.aload_n 0, 1) := by decide +kernel
theorem dX12_laysLikes_76 : decode cX12_laysLikes 76 = .ok (.getfield 98, 3) := by decide +kernel
theorem dX12_laysLikes_79 : decode cX12_laysLikes 79 = .ok (.iload 4, 2) := by decide +kernel
theorem dX12_laysLikes_81 : decode cX12_laysLikes 81 = .ok (.iaload, 1) := by decide +kernel
theorem dX12_laysLikes_82 : decode cX12_laysLikes 82 = .ok (.iload_n 1, 1) := by decide +kernel
theorem dX12_laysLikes_83 : decode cX12_laysLikes 83 = .ok (.invokestatic 257, 3) := by decide +kernel
theorem dX12_laysLikes_86 : decode cX12_laysLikes 86 = .ok (.aload_n 0, 1) := by decide +kernel
theorem dX12_laysLikes_87 : decode cX12_laysLikes 87 = .ok (.getfield 98, 3) := by decide +kernel
theorem dX12_laysLikes_90 : decode cX12_laysLikes 90 = .ok (.iload 4, 2) := by decide +kernel
theorem dX12_laysLikes_92 : decode cX12_laysLikes 92 = .ok (.iaload, 1) := by decide +kernel
theorem dX12_laysLikes_93 : decode cX12_laysLikes 93 = .ok (.iload_n 2, 1) := by decide +kernel
theorem dX12_laysLikes_94 : decode cX12_laysLikes 94 = .ok (.invokestatic 257, 3) := by decide +kernel
theorem dX12_laysLikes_97 : decode cX12_laysLikes 97 = .ok (.if_icmp .eq 5, 3) := by decide +kernel
theorem dX12_laysLikes_100 : decode cX12_laysLikes 100 = .ok (.iconst 0, 1) := by decide +kernel
theorem dX12_laysLikes_101 : decode cX12_laysLikes 101 = .ok (.istore_n 3, 1) := by decide +kernel
theorem dX12_laysLikes_102 : decode cX12_laysLikes 102 = .ok (.iinc 4 1, 3) := by decide +kernel
theorem dX12_laysLikes_105 : decode cX12_laysLikes 105 = .ok (.goto (-39), 3) := by decide +kernel
theorem dX12_laysLikes_108 : decode cX12_laysLikes 108 = .ok (.iload_n 3, 1) := by decide +kernel
theorem dX12_laysLikes_109 : decode cX12_laysLikes 109 = .ok (.ifCond .eq 10, 3) := by decide +kernel
theorem dX12_laysLikes_112 : decode cX12_laysLikes 112 = .ok (.aload_n 0, 1) := by decide +kernel
theorem dX12_laysLikes_113 : decode cX12_laysLikes 113 = .ok (.getfield 101, 3) := by decide +kernel
theorem dX12_laysLikes_116 : decode cX12_laysLikes 116 = .ok (.iload_n 1, 1) := by decide +kernel
theorem dX12_laysLikes_117 : decode cX12_laysLikes 117 = .ok (.iload_n 2, 1) := by decide +kernel
theorem dX12_laysLikes_118 : decode cX12_laysLikes 118 = .ok (.iastore, 1) := by decide +kernel
theorem dX12_laysLikes_119 : decode cX12_laysLikes 119 = .ok (.iinc 2 (-1), 3) := by decide +kernel
theorem dX12_laysLikes_122 : decode cX12_laysLikes 122 = .ok (.goto (-65), 3) := by decide +kernel
theorem dX12_laysLikes_125 : decode cX12_laysLikes 125 = .ok (.iinc 1 1, 3) := by decide +kernel
theorem dX12_laysLikes_128 : decode cX12_laysLikes 128 = .ok (.goto (-90), 3) := by decide +kernel
theorem dX12_laysLikes_131 : decode cX12_laysLikes 131 = .ok (.return_, 1) := by decide +kernel
theorem dX12_isPlan_0 : decode cX12_isPlan 0 = .ok (.iconst 0, 1) := by decide +kernel
theorem dX12_isPlan_1 : decode cX12_isPlan 1 = .ok (.istore_n 3, 1) := by decide +kernel
theorem dX12_isPlan_2 : decode cX12_isPlan 2 = .ok (.iconst 0, 1) := by decide +kernel
theorem dX12_isPlan_3 : decode cX12_isPlan 3 = .ok (.istore 4, 2) := by decide +kernel
theorem dX12_isPlan_5 : decode cX12_isPlan 5 = .ok (.iload 4, 2) := by decide +kernel
theorem dX12_isPlan_7 : decode cX12_isPlan 7 = .ok (.iload_n 2, 1) := by decide +kernel
theorem dX12_isPlan_8 : decode cX12_isPlan 8 = .ok (.if_icmp .ge 24, 3) := by decide +kernel
theorem dX12_isPlan_11 : decode cX12_isPlan 11 = .ok (.iload_n 3, 1) := by decide +kernel
theorem dX12_isPlan_12 : decode cX12_isPlan 12 = .ok (.aload_n 0, 1) := by decide +kernel
theorem dX12_isPlan_13 : decode cX12_isPlan 13 = .ok (.getfield 98, 3) := by decide +kernel
theorem dX12_isPlan_16 : decode cX12_isPlan 16 = .ok (.aload_n 0, 1) := by decide +kernel
theorem dX12_isPlan_17 : decode cX12_isPlan 17 = .ok (.getfield 104, 3) := by decide +kernel
theorem dX12_isPlan_20 : decode cX12_isPlan 20 = .ok (.iload 4, 2) := by decide +kernel
theorem dX12_isPlan_22 : decode cX12_isPlan 22 = .ok (.iaload, 1) := by decide +kernel
theorem dX12_isPlan_23 : decode cX12_isPlan 23 = .ok (.iaload, 1) := by decide +kernel
theorem dX12_isPlan_24 : decode cX12_isPlan 24 = .ok (.ior, 1) := by decide +kernel
theorem dX12_isPlan_25 : decode cX12_isPlan 25 = .ok (.istore_n 3, 1) := by decide +kernel
theorem dX12_isPlan_26 : decode cX12_isPlan 26 = .ok (.iinc 4 1, 3) := by decide +kernel
theorem dX12_isPlan_29 : decode cX12_isPlan 29 = .ok (.goto (-24), 3) := by decide +kernel
theorem dX12_isPlan_32 : decode cX12_isPlan 32 = .ok (.iload_n 3, 1) := by decide +kernel
theorem dX12_isPlan_33 : decode cX12_isPlan 33 = .ok (.aload_n 0, 1) := by decide +kernel
theorem dX12_isPlan_34 : decode cX12_isPlan 34 = .ok (.getfield 405, 3) := by decide +kernel
theorem dX12_isPlan_37 : decode cX12_isPlan 37 = .ok (.if_icmp .eq 5, 3) := by decide +kernel
theorem dX12_isPlan_40 : decode cX12_isPlan 40 = .ok (.iconst 0, 1) := by decide +kernel
theorem dX12_isPlan_41 : decode cX12_isPlan 41 = .ok (.ireturn, 1) := by decide +kernel
theorem dX12_isPlan_42 : decode cX12_isPlan 42 = .ok (.iconst 0, 1) := by decide +kernel
theorem dX12_isPlan_43 : decode cX12_isPlan 43 = .ok (.istore 4, 2) := by decide +kernel
theorem dX12_isPlan_45 : decode cX12_isPlan 45 = .ok (.iload 4, 2) := by decide +kernel
theorem dX12_isPlan_47 : decode cX12_isPlan 47 = .ok (.aload_n 0, 1) := by decide +kernel
theorem dX12_isPlan_48 : decode cX12_isPlan 48 = .ok (.getfield 200, 3) := by decide +kernel
theorem dX12_isPlan_51 : decode cX12_isPlan 51 = .ok (.if_icmp .ge 139, 3) := by decide +kernel
theorem dX12_isPlan_54 : decode cX12_isPlan 54 = .ok (.iload_n 1, 1) := by decide +kernel
theorem dX12_isPlan_55 : decode cX12_isPlan 55 = .ok (.iconst 1, 1) := by decide +kernel
theorem dX12_isPlan_56 : decode cX12_isPlan 56 = .ok (.if_icmp .ne 134, 3) := by decide +kernel
theorem dX12_isPlan_59 : decode cX12_isPlan 59 = .ok (.iconst 0, 1) := by decide +kernel
theorem dX12_isPlan_60 : decode cX12_isPlan 60 = .ok (.istore 5, 2) := by decide +kernel
theorem dX12_isPlan_62 : decode cX12_isPlan 62 = .ok (.iload 5, 2) := by decide +kernel
theorem dX12_isPlan_64 : decode cX12_isPlan 64 = .ok (.iload 4, 2) := by decide +kernel
theorem dX12_isPlan_66 : decode cX12_isPlan 66 = .ok (.if_icmp .ge 118, 3) := by decide +kernel
theorem dX12_isPlan_69 : decode cX12_isPlan 69 = .ok (.aload_n 0, 1) := by decide +kernel
theorem dX12_isPlan_70 : decode cX12_isPlan 70 = .ok (.getfield 405, 3) := by decide +kernel
theorem dX12_isPlan_73 : decode cX12_isPlan 73 = .ok (.iload 4, 2) := by decide +kernel
theorem dX12_isPlan_75 : decode cX12_isPlan 75 = .ok (.invokestatic 257, 3) := by decide +kernel
theorem dX12_isPlan_78 : decode cX12_isPlan 78 = .ok (.ifCond .eq 100, 3) := by decide +kernel
theorem dX12_isPlan_81 : decode cX12_isPlan 81 = .ok (.aload_n 0, 1) := by decide +kernel
theorem dX12_isPlan_82 : decode cX12_isPlan 82 = .ok (.getfield 405, 3) := by decide +kernel
theorem dX12_isPlan_85 : decode cX12_isPlan 85 = .ok (.iload 5, 2) := by decide +kernel
theorem dX12_isPlan_87 : decode cX12_isPlan 87 = .ok (.invokestatic 257, 3) := by decide +kernel
theorem dX12_isPlan_90 : decode cX12_isPlan 90 = .ok (.ifCond .eq 88, 3) := by decide +kernel
theorem dX12_isPlan_93 : decode cX12_isPlan 93 = .ok (.aload_n 0, 1) := by decide +kernel
theorem dX12_isPlan_94 : decode cX12_isPlan 94 = .ok (.getfield 101, 3) := by decide +kernel
theorem dX12_isPlan_97 : decode cX12_isPlan 97 = .ok (.iload 4, 2) := by decide +kernel
theorem dX12_isPlan_99 : decode cX12_isPlan 99 = .ok (.iaload, 1) := by decide +kernel
theorem dX12_isPlan_100 : decode cX12_isPlan 100 = .ok (.aload_n 0, 1) := by decide +kernel
theorem dX12_isPlan_101 : decode cX12_isPlan 101 = .ok (.getfield 101, 3) := by decide +kernel
theorem dX12_isPlan_104 : decode cX12_isPlan 104 = .ok (.iload 5, 2) := by decide +kernel
theorem dX12_isPlan_106 : decode cX12_isPlan 106 = .ok (.iaload, 1) := by decide +kernel
theorem dX12_isPlan_107 : decode cX12_isPlan 107 = .ok (.if_icmp .ne 6, 3) := by decide +kernel
theorem dX12_isPlan_110 : decode cX12_isPlan 110 = .ok (.goto 68, 3) := by decide +kernel
theorem dX12_isPlan_113 : decode cX12_isPlan 113 = .ok (.iconst 1, 1) := by decide +kernel
theorem dX12_isPlan_114 : decode cX12_isPlan 114 = .ok (.istore 6, 2) := by decide +kernel
theorem dX12_isPlan_116 : decode cX12_isPlan 116 = .ok (.iconst 0, 1) := by decide +kernel
theorem dX12_isPlan_117 : decode cX12_isPlan 117 = .ok (.istore 7, 2) := by decide +kernel
theorem dX12_isPlan_119 : decode cX12_isPlan 119 = .ok (.iload 7, 2) := by decide +kernel
theorem dX12_isPlan_121 : decode cX12_isPlan 121 = .ok (.iload_n 2, 1) := by decide +kernel
theorem dX12_isPlan_122 : decode cX12_isPlan 122 = .ok (.if_icmp .ge 49, 3) := by decide +kernel
theorem dX12_isPlan_125 : decode cX12_isPlan 125 = .ok (.aload_n 0, 1) := by decide +kernel
theorem dX12_isPlan_126 : decode cX12_isPlan 126 = .ok (.getfield 98, 3) := by decide +kernel
theorem dX12_isPlan_129 : decode cX12_isPlan 129 = .ok (.aload_n 0, 1) := by decide +kernel
theorem dX12_isPlan_130 : decode cX12_isPlan 130 = .ok (.getfield 104, 3) := by decide +kernel
theorem dX12_isPlan_133 : decode cX12_isPlan 133 = .ok (.iload 7, 2) := by decide +kernel
theorem dX12_isPlan_135 : decode cX12_isPlan 135 = .ok (.iaload, 1) := by decide +kernel
theorem dX12_isPlan_136 : decode cX12_isPlan 136 = .ok (.iaload, 1) := by decide +kernel
theorem dX12_isPlan_137 : decode cX12_isPlan 137 = .ok (.iload 4, 2) := by decide +kernel
theorem dX12_isPlan_139 : decode cX12_isPlan 139 = .ok (.invokestatic 257, 3) := by decide +kernel
theorem dX12_isPlan_142 : decode cX12_isPlan 142 = .ok (.aload_n 0, 1) := by decide +kernel
theorem dX12_isPlan_143 : decode cX12_isPlan 143 = .ok (.getfield 98, 3) := by decide +kernel
theorem dX12_isPlan_146 : decode cX12_isPlan 146 = .ok (.aload_n 0, 1) := by decide +kernel
theorem dX12_isPlan_147 : decode cX12_isPlan 147 = .ok (.getfield 104, 3) := by decide +kernel
theorem dX12_isPlan_150 : decode cX12_isPlan 150 = .ok (.iload 7, 2) := by decide +kernel
theorem dX12_isPlan_152 : decode cX12_isPlan 152 = .ok (.iaload, 1) := by decide +kernel
theorem dX12_isPlan_153 : decode cX12_isPlan 153 = .ok (.iaload, 1) := by decide +kernel
theorem dX12_isPlan_154 : decode cX12_isPlan 154 = .ok (.iload 5, 2) := by decide +kernel
theorem dX12_isPlan_156 : decode cX12_isPlan 156 = .ok (.invokestatic 257, 3) := by decide +kernel
theorem dX12_isPlan_159 : decode cX12_isPlan 159 = .ok (.if_icmp .eq 6, 3) := by decide +kernel
theorem dX12_isPlan_162 : decode cX12_isPlan 162 = .ok (.iconst 0, 1) := by decide +kernel
theorem dX12_isPlan_163 : decode cX12_isPlan 163 = .ok (.istore 6, 2) := by decide +kernel
theorem dX12_isPlan_165 : decode cX12_isPlan 165 = .ok (.iinc 7 1, 3) := by decide +kernel
theorem dX12_isPlan_168 : decode cX12_isPlan 168 = .ok (.goto (-49), 3) := by decide +kernel
theorem dX12_isPlan_171 : decode cX12_isPlan 171 = .ok (.iload 6, 2) := by decide +kernel
theorem dX12_isPlan_173 : decode cX12_isPlan 173 = .ok (.ifCond .eq 5, 3) := by decide +kernel
theorem dX12_isPlan_176 : decode cX12_isPlan 176 = .ok (.iconst 0, 1) := by decide +kernel
theorem dX12_isPlan_177 : decode cX12_isPlan 177 = .ok (.ireturn, 1) := by decide +kernel
theorem dX12_isPlan_178 : decode cX12_isPlan 178 = .ok (.iinc 5 1, 3) := by decide +kernel
theorem dX12_isPlan_181 : decode cX12_isPlan 181 = .ok (.goto (-119), 3) := by decide +kernel
theorem dX12_isPlan_184 : decode cX12_isPlan 184 = .ok (.iinc 4 1, 3) := by decide +kernel
theorem dX12_isPlan_187 : decode cX12_isPlan 187 = .ok (.goto (-142), 3) := by decide +kernel
theorem dX12_isPlan_190 : decode cX12_isPlan 190 = .ok (.iconst 1, 1) := by decide +kernel
theorem dX12_isPlan_191 : decode cX12_isPlan 191 = .ok (.ireturn, 1) := by decide +kernel
theorem dX12_nextPick_0 : decode cX12_nextPick 0 = .ok (.iload_n 1, 1) := by decide +kernel
theorem dX12_nextPick_1 : decode cX12_nextPick 1 = .ok (.iconst 1, 1) := by decide +kernel
theorem dX12_nextPick_2 : decode cX12_nextPick 2 = .ok (.isub, 1) := by decide +kernel
theorem dX12_nextPick_3 : decode cX12_nextPick 3 = .ok (.istore_n 2, 1) := by decide +kernel
theorem dX12_nextPick_4 : decode cX12_nextPick 4 = .ok (.iload_n 2, 1) := by decide +kernel
theorem dX12_nextPick_5 : decode cX12_nextPick 5 = .ok (.ifCond .lt 72, 3) := by decide +kernel
theorem dX12_nextPick_8 : decode cX12_nextPick 8 = .ok (.aload_n 0, 1) := by decide +kernel
theorem dX12_nextPick_9 : decode cX12_nextPick 9 = .ok (.getfield 104, 3) := by decide +kernel
theorem dX12_nextPick_12 : decode cX12_nextPick 12 = .ok (.iload_n 2, 1) := by decide +kernel
theorem dX12_nextPick_13 : decode cX12_nextPick 13 = .ok (.iaload, 1) := by decide +kernel
theorem dX12_nextPick_14 : decode cX12_nextPick 14 = .ok (.aload_n 0, 1) := by decide +kernel
theorem dX12_nextPick_15 : decode cX12_nextPick 15 = .ok (.getfield 402, 3) := by decide +kernel
theorem dX12_nextPick_18 : decode cX12_nextPick 18 = .ok (.iload_n 1, 1) := by decide +kernel
theorem dX12_nextPick_19 : decode cX12_nextPick 19 = .ok (.isub, 1) := by decide +kernel
theorem dX12_nextPick_20 : decode cX12_nextPick 20 = .ok (.iload_n 2, 1) := by decide +kernel
theorem dX12_nextPick_21 : decode cX12_nextPick 21 = .ok (.iadd, 1) := by decide +kernel
theorem dX12_nextPick_22 : decode cX12_nextPick 22 = .ok (.if_icmp .lt 6, 3) := by decide +kernel
theorem dX12_nextPick_25 : decode cX12_nextPick 25 = .ok (.goto 46, 3) := by decide +kernel
theorem dX12_nextPick_28 : decode cX12_nextPick 28 = .ok (.aload_n 0, 1) := by decide +kernel
theorem dX12_nextPick_29 : decode cX12_nextPick 29 = .ok (.getfield 104, 3) := by decide +kernel
theorem dX12_nextPick_32 : decode cX12_nextPick 32 = .ok (.iload_n 2, 1) := by decide +kernel
theorem dX12_nextPick_33 : decode cX12_nextPick 33 = .ok (.dup2, 1) := by decide +kernel
theorem dX12_nextPick_34 : decode cX12_nextPick 34 = .ok (.iaload, 1) := by decide +kernel
theorem dX12_nextPick_35 : decode cX12_nextPick 35 = .ok (.iconst 1, 1) := by decide +kernel
theorem dX12_nextPick_36 : decode cX12_nextPick 36 = .ok (.iadd, 1) := by decide +kernel
theorem dX12_nextPick_37 : decode cX12_nextPick 37 = .ok (.iastore, 1) := by decide +kernel
theorem dX12_nextPick_38 : decode cX12_nextPick 38 = .ok (.iload_n 2, 1) := by decide +kernel
theorem dX12_nextPick_39 : decode cX12_nextPick 39 = .ok (.iconst 1, 1) := by decide +kernel
theorem dX12_nextPick_40 : decode cX12_nextPick 40 = .ok (.iadd, 1) := by decide +kernel
theorem dX12_nextPick_41 : decode cX12_nextPick 41 = .ok (.istore_n 3, 1) := by decide +kernel
theorem dX12_nextPick_42 : decode cX12_nextPick 42 = .ok (.iload_n 3, 1) := by decide +kernel
theorem dX12_nextPick_43 : decode cX12_nextPick 43 = .ok (.iload_n 1, 1) := by decide +kernel
theorem dX12_nextPick_44 : decode cX12_nextPick 44 = .ok (.if_icmp .ge 25, 3) := by decide +kernel
theorem dX12_nextPick_47 : decode cX12_nextPick 47 = .ok (.aload_n 0, 1) := by decide +kernel
theorem dX12_nextPick_48 : decode cX12_nextPick 48 = .ok (.getfield 104, 3) := by decide +kernel
theorem dX12_nextPick_51 : decode cX12_nextPick 51 = .ok (.iload_n 3, 1) := by decide +kernel
theorem dX12_nextPick_52 : decode cX12_nextPick 52 = .ok (.aload_n 0, 1) := by decide +kernel
theorem dX12_nextPick_53 : decode cX12_nextPick 53 = .ok (.getfield 104, 3) := by decide +kernel
theorem dX12_nextPick_56 : decode cX12_nextPick 56 = .ok (.iload_n 3, 1) := by decide +kernel
theorem dX12_nextPick_57 : decode cX12_nextPick 57 = .ok (.iconst 1, 1) := by decide +kernel
theorem dX12_nextPick_58 : decode cX12_nextPick 58 = .ok (.isub, 1) := by decide +kernel
theorem dX12_nextPick_59 : decode cX12_nextPick 59 = .ok (.iaload, 1) := by decide +kernel
theorem dX12_nextPick_60 : decode cX12_nextPick 60 = .ok (.iconst 1, 1) := by decide +kernel
theorem dX12_nextPick_61 : decode cX12_nextPick 61 = .ok (.iadd, 1) := by decide +kernel
theorem dX12_nextPick_62 : decode cX12_nextPick 62 = .ok (.iastore, 1) := by decide +kernel
theorem dX12_nextPick_63 : decode cX12_nextPick 63 = .ok (.iinc 3 1, 3) := by decide +kernel
theorem dX12_nextPick_66 : decode cX12_nextPick 66 = .ok (.goto (-24), 3) := by decide +kernel
theorem dX12_nextPick_69 : decode cX12_nextPick 69 = .ok (.iconst 1, 1) := by decide +kernel
theorem dX12_nextPick_70 : decode cX12_nextPick 70 = .ok (.ireturn, 1) := by decide +kernel
theorem dX12_nextPick_71 : decode cX12_nextPick 71 = .ok (.iinc 2 (-1), 3) := by decide +kernel
theorem dX12_nextPick_74 : decode cX12_nextPick 74 = .ok (.goto (-70), 3) := by decide +kernel
theorem dX12_nextPick_77 : decode cX12_nextPick 77 = .ok (.iconst 0, 1) := by decide +kernel
theorem dX12_nextPick_78 : decode cX12_nextPick 78 = .ok (.ireturn, 1) := by decide +kernel
theorem dX12_areEnough_0 : decode cX12_areEnough 0 = .ok (.iload_n 2, 1) := by decide +kernel
theorem dX12_areEnough_1 : decode cX12_areEnough 1 = .ok (.aload_n 0, 1) := by decide +kernel
theorem dX12_areEnough_2 : decode cX12_areEnough 2 = .ok (.getfield 402, 3) := by decide +kernel
theorem dX12_areEnough_5 : decode cX12_areEnough 5 = .ok (.if_icmp .le 5, 3) := by decide +kernel
theorem dX12_areEnough_8 : decode cX12_areEnough 8 = .ok (.iconst 0, 1) := by decide +kernel
theorem dX12_areEnough_9 : decode cX12_areEnough 9 = .ok (.ireturn, 1) := by decide +kernel
theorem dX12_areEnough_10 : decode cX12_areEnough 10 = .ok (.iconst 0, 1) := by decide +kernel
theorem dX12_areEnough_11 : decode cX12_areEnough 11 = .ok (.istore_n 3, 1) := by decide +kernel
theorem dX12_areEnough_12 : decode cX12_areEnough 12 = .ok (.iload_n 3, 1) := by decide +kernel
theorem dX12_areEnough_13 : decode cX12_areEnough 13 = .ok (.iload_n 2, 1) := by decide +kernel
theorem dX12_areEnough_14 : decode cX12_areEnough 14 = .ok (.if_icmp .ge 16, 3) := by decide +kernel
theorem dX12_areEnough_17 : decode cX12_areEnough 17 = .ok (.aload_n 0, 1) := by decide +kernel
theorem dX12_areEnough_18 : decode cX12_areEnough 18 = .ok (.getfield 104, 3) := by decide +kernel
theorem dX12_areEnough_21 : decode cX12_areEnough 21 = .ok (.iload_n 3, 1) := by decide +kernel
theorem dX12_areEnough_22 : decode cX12_areEnough 22 = .ok (.iload_n 3, 1) := by decide +kernel
theorem dX12_areEnough_23 : decode cX12_areEnough 23 = .ok (.iastore, 1) := by decide +kernel
theorem dX12_areEnough_24 : decode cX12_areEnough 24 = .ok (.iinc 3 1, 3) := by decide +kernel
theorem dX12_areEnough_27 : decode cX12_areEnough 27 = .ok (.goto (-15), 3) := by decide +kernel
theorem dX12_areEnough_30 : decode cX12_areEnough 30 = .ok (.aload_n 0, 1) := by decide +kernel
theorem dX12_areEnough_31 : decode cX12_areEnough 31 = .ok (.iload_n 1, 1) := by decide +kernel
theorem dX12_areEnough_32 : decode cX12_areEnough 32 = .ok (.iload_n 2, 1) := by decide +kernel
theorem dX12_areEnough_33 : decode cX12_areEnough 33 = .ok (.invokevirtual 408, 3) := by decide +kernel
theorem dX12_areEnough_36 : decode cX12_areEnough 36 = .ok (.ifCond .eq 5, 3) := by decide +kernel
theorem dX12_areEnough_39 : decode cX12_areEnough 39 = .ok (.iconst 1, 1) := by decide +kernel
theorem dX12_areEnough_40 : decode cX12_areEnough 40 = .ok (.ireturn, 1) := by decide +kernel
theorem dX12_areEnough_41 : decode cX12_areEnough 41 = .ok (.aload_n 0, 1) := by decide +kernel
theorem dX12_areEnough_42 : decode cX12_areEnough 42 = .ok (.iload_n 2, 1) := by decide +kernel
theorem dX12_areEnough_43 : decode cX12_areEnough 43 = .ok (.invokevirtual 411, 3) := by decide +kernel
theorem dX12_areEnough_46 : decode cX12_areEnough 46 = .ok (.ifCond .ne (-16), 3) := by decide +kernel
theorem dX12_areEnough_49 : decode cX12_areEnough 49 = .ok (.iconst 0, 1) := by decide +kernel
theorem dX12_areEnough_50 : decode cX12_areEnough 50 = .ok (.ireturn, 1) := by decide +kernel
theorem dX12_plan_0 : decode cX12_plan 0 = .ok (.iload_n 1, 1) := by decide +kernel
theorem dX12_plan_1 : decode cX12_plan 1 = .ok (.iconst 0, 1) := by decide +kernel
theorem dX12_plan_2 : decode cX12_plan 2 = .ok (.iconst 1, 1) := by decide +kernel
theorem dX12_plan_3 : decode cX12_plan 3 = .ok (.invokestatic 250, 3) := by decide +kernel
theorem dX12_plan_6 : decode cX12_plan 6 = .ok (.ifCond .ne 5, 3) := by decide +kernel
theorem dX12_plan_9 : decode cX12_plan 9 = .ok (.iconst (-1), 1) := by decide +kernel
theorem dX12_plan_10 : decode cX12_plan 10 = .ok (.ireturn, 1) := by decide +kernel
theorem dX12_plan_11 : decode cX12_plan 11 = .ok (.aload_n 0, 1) := by decide +kernel
theorem dX12_plan_12 : decode cX12_plan 12 = .ok (.invokevirtual 414, 3) := by decide +kernel
theorem dX12_plan_15 : decode cX12_plan 15 = .ok (.aload_n 0, 1) := by decide +kernel
theorem dX12_plan_16 : decode cX12_plan 16 = .ok (.invokevirtual 417, 3) := by decide +kernel
theorem dX12_plan_19 : decode cX12_plan 19 = .ok (.iconst 0, 1) := by decide +kernel
theorem dX12_plan_20 : decode cX12_plan 20 = .ok (.istore_n 3, 1) := by decide +kernel
theorem dX12_plan_21 : decode cX12_plan 21 = .ok (.iload_n 3, 1) := by decide +kernel
theorem dX12_plan_22 : decode cX12_plan 22 = .ok (.iconst 4, 1) := by decide +kernel
theorem dX12_plan_23 : decode cX12_plan 23 = .ok (.if_icmp .ge 52, 3) := by decide +kernel
theorem dX12_plan_26 : decode cX12_plan 26 = .ok (.aload_n 0, 1) := by decide +kernel
theorem dX12_plan_27 : decode cX12_plan 27 = .ok (.iload_n 1, 1) := by decide +kernel
theorem dX12_plan_28 : decode cX12_plan 28 = .ok (.iload_n 3, 1) := by decide +kernel
theorem dX12_plan_29 : decode cX12_plan 29 = .ok (.invokevirtual 420, 3) := by decide +kernel
theorem dX12_plan_32 : decode cX12_plan 32 = .ok (.ifCond .ne 6, 3) := by decide +kernel
theorem dX12_plan_35 : decode cX12_plan 35 = .ok (.goto 34, 3) := by decide +kernel
theorem dX12_plan_38 : decode cX12_plan 38 = .ok (.iload_n 2, 1) := by decide +kernel
theorem dX12_plan_39 : decode cX12_plan 39 = .ok (.iconst (-1), 1) := by decide +kernel
theorem dX12_plan_40 : decode cX12_plan 40 = .ok (.if_icmp .ne 7, 3) := by decide +kernel
theorem dX12_plan_43 : decode cX12_plan 43 = .ok (.iload_n 3, 1) := by decide +kernel
theorem dX12_plan_44 : decode cX12_plan 44 = .ok (.goto 24, 3) := by decide +kernel
theorem dX12_plan_47 : decode cX12_plan 47 = .ok (.iload_n 2, 1) := by decide +kernel
theorem dX12_plan_48 : decode cX12_plan 48 = .ok (.iconst 0, 1) := by decide +kernel
theorem dX12_plan_49 : decode cX12_plan 49 = .ok (.iload_n 3, 1) := by decide +kernel
theorem dX12_plan_50 : decode cX12_plan 50 = .ok (.iconst 1, 1) := by decide +kernel
theorem dX12_plan_51 : decode cX12_plan 51 = .ok (.isub, 1) := by decide +kernel
theorem dX12_plan_52 : decode cX12_plan 52 = .ok (.invokestatic 250, 3) := by decide +kernel
theorem dX12_plan_55 : decode cX12_plan 55 = .ok (.ifCond .eq 12, 3) := by decide +kernel
theorem dX12_plan_58 : decode cX12_plan 58 = .ok (.aload_n 0, 1) := by decide +kernel
theorem dX12_plan_59 : decode cX12_plan 59 = .ok (.getfield 104, 3) := by decide +kernel
theorem dX12_plan_62 : decode cX12_plan 62 = .ok (.iload_n 2, 1) := by decide +kernel
theorem dX12_plan_63 : decode cX12_plan 63 = .ok (.iaload, 1) := by decide +kernel
theorem dX12_plan_64 : decode cX12_plan 64 = .ok (.goto 4, 3) := by decide +kernel
theorem dX12_plan_67 : decode cX12_plan 67 = .ok (.iconst (-1), 1) := by decide +kernel
theorem dX12_plan_68 : decode cX12_plan 68 = .ok (.ireturn, 1) := by decide +kernel
theorem dX12_plan_69 : decode cX12_plan 69 = .ok (.iinc 3 1, 3) := by decide +kernel
theorem dX12_plan_72 : decode cX12_plan 72 = .ok (.goto (-51), 3) := by decide +kernel
theorem dX12_plan_75 : decode cX12_plan 75 = .ok (.bipush (-2), 2) := by decide +kernel
theorem dX12_plan_77 : decode cX12_plan 77 = .ok (.ireturn, 1) := by decide +kernel
theorem dX12_guess_0 : decode cX12_guess 0 = .ok (.iload_n 1, 1) := by decide +kernel
theorem dX12_guess_1 : decode cX12_guess 1 = .ok (.iconst 1, 1) := by decide +kernel
theorem dX12_guess_2 : decode cX12_guess 2 = .ok (.bipush 10, 2) := by decide +kernel
theorem dX12_guess_4 : decode cX12_guess 4 = .ok (.invokestatic 250, 3) := by decide +kernel
theorem dX12_guess_7 : decode cX12_guess 7 = .ok (.ifCond .eq 12, 3) := by decide +kernel
theorem dX12_guess_10 : decode cX12_guess 10 = .ok (.iload_n 2, 1) := by decide +kernel
theorem dX12_guess_11 : decode cX12_guess 11 = .ok (.iconst 0, 1) := by decide +kernel
theorem dX12_guess_12 : decode cX12_guess 12 = .ok (.iconst 3, 1) := by decide +kernel
theorem dX12_guess_13 : decode cX12_guess 13 = .ok (.invokestatic 250, 3) := by decide +kernel
theorem dX12_guess_16 : decode cX12_guess 16 = .ok (.ifCond .ne 5, 3) := by decide +kernel
theorem dX12_guess_19 : decode cX12_guess 19 = .ok (.iconst (-1), 1) := by decide +kernel
theorem dX12_guess_20 : decode cX12_guess 20 = .ok (.ireturn, 1) := by decide +kernel
theorem dX12_guess_21 : decode cX12_guess 21 = .ok (.aload_n 0, 1) := by decide +kernel
theorem dX12_guess_22 : decode cX12_guess 22 = .ok (.getfield 212, 3) := by decide +kernel
theorem dX12_guess_25 : decode cX12_guess 25 = .ok (.i2l, 1) := by decide +kernel
theorem dX12_guess_26 : decode cX12_guess 26 = .ok (.lstore_n 3, 1) := by decide +kernel
theorem dX12_guess_27 : decode cX12_guess 27 = .ok (.iconst 0, 1) := by decide +kernel
theorem dX12_guess_28 : decode cX12_guess 28 = .ok (.istore 5, 2) := by decide +kernel
theorem dX12_guess_30 : decode cX12_guess 30 = .ok (.aload_n 0, 1) := by decide +kernel
theorem dX12_guess_31 : decode cX12_guess 31 = .ok (.iconst 0, 1) := by decide +kernel
theorem dX12_guess_32 : decode cX12_guess 32 = .ok (.putfield 261, 3) := by decide +kernel
theorem dX12_guess_35 : decode cX12_guess 35 = .ok (.iconst 0, 1) := by decide +kernel
theorem dX12_guess_36 : decode cX12_guess 36 = .ok (.istore 6, 2) := by decide +kernel
theorem dX12_guess_38 : decode cX12_guess 38 = .ok (.iload 6, 2) := by decide +kernel
theorem dX12_guess_40 : decode cX12_guess 40 = .ok (.iload_n 1, 1) := by decide +kernel
theorem dX12_guess_41 : decode cX12_guess 41 = .ok (.if_icmp .ge 198, 3) := by decide +kernel
theorem dX12_guess_44 : decode cX12_guess 44 = .ok (.iconst 0, 1) := by decide +kernel
theorem dX12_guess_45 : decode cX12_guess 45 = .ok (.istore 7, 2) := by decide +kernel
theorem dX12_guess_47 : decode cX12_guess 47 = .ok (.iconst 0, 1) := by decide +kernel
theorem dX12_guess_48 : decode cX12_guess 48 = .ok (.istore 8, 2) := by decide +kernel
theorem dX12_guess_50 : decode cX12_guess 50 = .ok (.iload 8, 2) := by decide +kernel
theorem dX12_guess_52 : decode cX12_guess 52 = .ok (.aload_n 0, 1) := by decide +kernel
theorem dX12_guess_53 : decode cX12_guess 53 = .ok (.getfield 200, 3) := by decide +kernel
theorem dX12_guess_56 : decode cX12_guess 56 = .ok (.if_icmp .ge 53, 3) := by decide +kernel
theorem dX12_guess_59 : decode cX12_guess 59 = .ok (.lload_n 3, 1) := by decide +kernel
theorem dX12_guess_60 : decode cX12_guess 60 = .ok (.ldc2_w 423, 3) := by decide +kernel
theorem dX12_guess_63 : decode cX12_guess 63 = .ok (.lmul, 1) := by decide +kernel
theorem dX12_guess_64 : decode cX12_guess 64 = .ok (.ldc2_w 425, 3) := by decide +kernel
theorem dX12_guess_67 : decode cX12_guess 67 = .ok (.ladd, 1) := by decide +kernel
theorem dX12_guess_68 : decode cX12_guess 68 = .ok (.ldc2_w 427, 3) := by decide +kernel
theorem dX12_guess_71 : decode cX12_guess 71 = .ok (.lrem, 1) := by decide +kernel
theorem dX12_guess_72 : decode cX12_guess 72 = .ok (.lstore_n 3, 1) := by decide +kernel
theorem dX12_guess_73 : decode cX12_guess 73 = .ok (.lload_n 3, 1) := by decide +kernel
theorem dX12_guess_74 : decode cX12_guess 74 = .ok (.ldc2_w 429, 3) := by decide +kernel
theorem dX12_guess_77 : decode cX12_guess 77 = .ok (.ldiv, 1) := by decide +kernel
theorem dX12_guess_78 : decode cX12_guess 78 = .ok (.ldc2_w 431, 3) := by decide +kernel
theorem dX12_guess_81 : decode cX12_guess 81 = .ok (.lrem, 1) := by decide +kernel
theorem dX12_guess_82 : decode cX12_guess 82 = .ok (.aload_n 0, 1) := by decide +kernel
theorem dX12_guess_83 : decode cX12_guess 83 = .ok (.getfield 46, 3) := by decide +kernel
theorem dX12_guess_86 : decode cX12_guess 86 = .ok (.iload 8, 2) := by decide +kernel
theorem dX12_guess_88 : decode cX12_guess 88 = .ok (.iaload, 1) := by decide +kernel
theorem dX12_guess_89 : decode cX12_guess 89 = .ok (.i2l, 1) := by decide +kernel
theorem dX12_guess_90 : decode cX12_guess 90 = .ok (.lcmp, 1) := by decide +kernel
theorem dX12_guess_91 : decode cX12_guess 91 = .ok (.ifCond .ge 12, 3) := by decide +kernel
theorem dX12_guess_94 : decode cX12_guess 94 = .ok (.iload 7, 2) := by decide +kernel
theorem dX12_guess_96 : decode cX12_guess 96 = .ok (.iconst 1, 1) := by decide +kernel
theorem dX12_guess_97 : decode cX12_guess 97 = .ok (.iload 8, 2) := by decide +kernel
theorem dX12_guess_99 : decode cX12_guess 99 = .ok (.ishl, 1) := by decide +kernel
theorem dX12_guess_100 : decode cX12_guess 100 = .ok (.ior, 1) := by decide +kernel
theorem dX12_guess_101 : decode cX12_guess 101 = .ok (.istore 7, 2) := by decide +kernel
theorem dX12_guess_103 : decode cX12_guess 103 = .ok (.iinc 8 1, 3) := by decide +kernel
theorem dX12_guess_106 : decode cX12_guess 106 = .ok (.goto (-56), 3) := by decide +kernel
theorem dX12_guess_109 : decode cX12_guess 109 = .ok (.aload_n 0, 1) := by decide +kernel
theorem dX12_guess_110 : decode cX12_guess 110 = .ok (.invokevirtual 317, 3) := by decide +kernel
theorem dX12_guess_113 : decode cX12_guess 113 = .ok (.iconst 0, 1) := by decide +kernel
theorem dX12_guess_114 : decode cX12_guess 114 = .ok (.istore 8, 2) := by decide +kernel
theorem dX12_guess_116 : decode cX12_guess 116 = .ok (.iload 8, 2) := by decide +kernel
theorem dX12_guess_118 : decode cX12_guess 118 = .ok (.aload_n 0, 1) := by decide +kernel
theorem dX12_guess_119 : decode cX12_guess 119 = .ok (.getfield 58, 3) := by decide +kernel
theorem dX12_guess_122 : decode cX12_guess 122 = .ok (.iconst 0, 1) := by decide +kernel
theorem dX12_guess_123 : decode cX12_guess 123 = .ok (.iaload, 1) := by decide +kernel
theorem dX12_guess_124 : decode cX12_guess 124 = .ok (.if_icmp .ge 33, 3) := by decide +kernel
theorem dX12_guess_127 : decode cX12_guess 127 = .ok (.aload_n 0, 1) := by decide +kernel
theorem dX12_guess_128 : decode cX12_guess 128 = .ok (.iload 8, 2) := by decide +kernel
theorem dX12_guess_130 : decode cX12_guess 130 = .ok (.aload_n 0, 1) := by decide +kernel
theorem dX12_guess_131 : decode cX12_guess 131 = .ok (.getfield 74, 3) := by decide +kernel
theorem dX12_guess_134 : decode cX12_guess 134 = .ok (.iload 8, 2) := by decide +kernel
theorem dX12_guess_136 : decode cX12_guess 136 = .ok (.iaload, 1) := by decide +kernel
theorem dX12_guess_137 : decode cX12_guess 137 = .ok (.iload 7, 2) := by decide +kernel
theorem dX12_guess_139 : decode cX12_guess 139 = .ok (.iand, 1) := by decide +kernel
theorem dX12_guess_140 : decode cX12_guess 140 = .ok (.ifCond .eq 7, 3) := by decide +kernel
theorem dX12_guess_143 : decode cX12_guess 143 = .ok (.iconst 2, 1) := by decide +kernel
theorem dX12_guess_144 : decode cX12_guess 144 = .ok (.goto 4, 3) := by decide +kernel
theorem dX12_guess_147 : decode cX12_guess 147 = .ok (.iconst 1, 1) := by decide +kernel
theorem dX12_guess_148 : decode cX12_guess 148 = .ok (.invokevirtual 320, 3) := by decide +kernel
theorem dX12_guess_151 : decode cX12_guess 151 = .ok (.iinc 8 1, 3) := by decide +kernel
theorem dX12_guess_154 : decode cX12_guess 154 = .ok (.goto (-38), 3) := by decide +kernel
theorem dX12_guess_157 : decode cX12_guess 157 = .ok (.aload_n 0, 1) := by decide +kernel
theorem dX12_guess_158 : decode cX12_guess 158 = .ok (.invokevirtual 323, 3) := by decide +kernel
theorem dX12_guess_161 : decode cX12_guess 161 = .ok (.iload_n 2, 1) := by decide +kernel
theorem dX12_guess_162 : decode cX12_guess 162 = .ok (.iconst 3, 1) := by decide +kernel
theorem dX12_guess_163 : decode cX12_guess 163 = .ok (.if_icmp .ne 25, 3) := by decide +kernel
theorem dX12_guess_166 : decode cX12_guess 166 = .ok (.iload 5, 2) := by decide +kernel
theorem dX12_guess_168 : decode cX12_guess 168 = .ok (.aload_n 0, 1) := by decide +kernel
theorem dX12_guess_169 : decode cX12_guess 169 = .ok (.getfield 302, 3) := by decide +kernel
theorem dX12_guess_172 : decode cX12_guess 172 = .ok (.aload_n 0, 1) := by decide +kernel
theorem dX12_guess_173 : decode cX12_guess 173 = .ok (.getfield 287, 3) := by decide +kernel
theorem dX12_guess_176 : decode cX12_guess 176 = .ok (.iconst (-1), 1) := by decide +kernel
theorem dX12_guess_177 : decode cX12_guess 177 = .ok (.ixor, 1) := by decide +kernel
theorem dX12_guess_178 : decode cX12_guess 178 = .ok (.iand, 1) := by decide +kernel
theorem dX12_guess_179 : decode cX12_guess 179 = .ok (.invokestatic 293, 3) := by decide +kernel
theorem dX12_guess_182 : decode cX12_guess 182 = .ok (.iadd, 1) := by decide +kernel
theorem dX12_guess_183 : decode cX12_guess 183 = .ok (.istore 5, 2) := by decide +kernel
theorem dX12_guess_185 : decode cX12_guess 185 = .ok (.goto 48, 3) := by decide +kernel
theorem dX12_guess_188 : decode cX12_guess 188 = .ok (.iload_n 2, 1) := by decide +kernel
theorem dX12_guess_189 : decode cX12_guess 189 = .ok (.ifCond .ne 15, 3) := by decide +kernel
theorem dX12_guess_192 : decode cX12_guess 192 = .ok (.aload_n 0, 1) := by decide +kernel
theorem dX12_guess_193 : decode cX12_guess 193 = .ok (.invokevirtual 345, 3) := by decide +kernel
theorem dX12_guess_196 : decode cX12_guess 196 = .ok (.iload 7, 2) := by decide +kernel
theorem dX12_guess_198 : decode cX12_guess 198 = .ok (.if_icmp .ne 35, 3) := by decide +kernel
theorem dX12_guess_201 : decode cX12_guess 201 = .ok (.goto 29, 3) := by decide +kernel
theorem dX12_guess_204 : decode cX12_guess 204 = .ok (.iload_n 2, 1) := by decide +kernel
theorem dX12_guess_205 : decode cX12_guess 205 = .ok (.iconst 1, 1) := by decide +kernel
theorem dX12_guess_206 : decode cX12_guess 206 = .ok (.if_icmp .ne 15, 3) := by decide +kernel
theorem dX12_guess_209 : decode cX12_guess 209 = .ok (.aload_n 0, 1) := by decide +kernel
theorem dX12_guess_210 : decode cX12_guess 210 = .ok (.getfield 308, 3) := by decide +kernel
theorem dX12_guess_213 : decode cX12_guess 213 = .ok (.iload 7, 2) := by decide +kernel
theorem dX12_guess_215 : decode cX12_guess 215 = .ok (.if_icmp .ne 18, 3) := by decide +kernel
theorem dX12_guess_218 : decode cX12_guess 218 = .ok (.goto 12, 3) := by decide +kernel
theorem dX12_guess_221 : decode cX12_guess 221 = .ok (.aload_n 0, 1) := by decide +kernel
theorem dX12_guess_222 : decode cX12_guess 222 = .ok (.iload 7, 2) := by decide +kernel
theorem dX12_guess_224 : decode cX12_guess 224 = .ok (.invokevirtual 311, 3) := by decide +kernel
theorem dX12_guess_227 : decode cX12_guess 227 = .ok (.ifCond .eq 6, 3) := by decide +kernel
theorem dX12_guess_230 : decode cX12_guess 230 = .ok (.iinc 5 1, 3) := by decide +kernel
theorem dX12_guess_233 : decode cX12_guess 233 = .ok (.iinc 6 1, 3) := by decide +kernel
theorem dX12_guess_236 : decode cX12_guess 236 = .ok (.goto (-198), 3) := by decide +kernel
theorem dX12_guess_239 : decode cX12_guess 239 = .ok (.iload 5, 2) := by decide +kernel
theorem dX12_guess_241 : decode cX12_guess 241 = .ok (.ireturn, 1) := by decide +kernel
theorem dX12_comesTo_0 : decode cX12_comesTo 0 = .ok (.iconst 1, 1) := by decide +kernel
theorem dX12_comesTo_1 : decode cX12_comesTo 1 = .ok (.iload_n 1, 1) := by decide +kernel
theorem dX12_comesTo_2 : decode cX12_comesTo 2 = .ok (.ishl, 1) := by decide +kernel
theorem dX12_comesTo_3 : decode cX12_comesTo 3 = .ok (.istore_n 3, 1) := by decide +kernel
theorem dX12_comesTo_4 : decode cX12_comesTo 4 = .ok (.iconst 0, 1) := by decide +kernel
theorem dX12_comesTo_5 : decode cX12_comesTo 5 = .ok (.istore 4, 2) := by decide +kernel
theorem dX12_comesTo_7 : decode cX12_comesTo 7 = .ok (.iload_n 3, 1) := by decide +kernel
theorem dX12_comesTo_8 : decode cX12_comesTo 8 = .ok (.iload 4, 2) := by decide +kernel
theorem dX12_comesTo_10 : decode cX12_comesTo 10 = .ok (.if_icmp .eq 69, 3) := by decide +kernel
theorem dX12_comesTo_13 : decode cX12_comesTo 13 = .ok (.iload_n 3, 1) := by decide +kernel
theorem dX12_comesTo_14 : decode cX12_comesTo 14 = .ok (.istore 4, 2) := by decide +kernel
theorem dX12_comesTo_16 : decode cX12_comesTo 16 = .ok (.iconst 0, 1) := by decide +kernel
theorem dX12_comesTo_17 : decode cX12_comesTo 17 = .ok (.istore 5, 2) := by decide +kernel
theorem dX12_comesTo_19 : decode cX12_comesTo 19 = .ok (.iload 5, 2) := by decide +kernel
theorem dX12_comesTo_21 : decode cX12_comesTo 21 = .ok (.aload_n 0, 1) := by decide +kernel
theorem dX12_comesTo_22 : decode cX12_comesTo 22 = .ok (.getfield 200, 3) := by decide +kernel
theorem dX12_comesTo_25 : decode cX12_comesTo 25 = .ok (.if_icmp .ge 51, 3) := by decide +kernel
theorem dX12_comesTo_28 : decode cX12_comesTo 28 = .ok (.iconst 1, 1) := by decide +kernel
theorem dX12_comesTo_29 : decode cX12_comesTo 29 = .ok (.aload_n 0, 1) := by decide +kernel
theorem dX12_comesTo_30 : decode cX12_comesTo 30 = .ok (.getfield 40, 3) := by decide +kernel
theorem dX12_comesTo_33 : decode cX12_comesTo 33 = .ok (.iload 5, 2) := by decide +kernel
theorem dX12_comesTo_35 : decode cX12_comesTo 35 = .ok (.iaload, 1) := by decide +kernel
theorem dX12_comesTo_36 : decode cX12_comesTo 36 = .ok (.ishl, 1) := by decide +kernel
theorem dX12_comesTo_37 : decode cX12_comesTo 37 = .ok (.iconst 1, 1) := by decide +kernel
theorem dX12_comesTo_38 : decode cX12_comesTo 38 = .ok (.aload_n 0, 1) := by decide +kernel
theorem dX12_comesTo_39 : decode cX12_comesTo 39 = .ok (.getfield 43, 3) := by decide +kernel
theorem dX12_comesTo_42 : decode cX12_comesTo 42 = .ok (.iload 5, 2) := by decide +kernel
theorem dX12_comesTo_44 : decode cX12_comesTo 44 = .ok (.iaload, 1) := by decide +kernel
theorem dX12_comesTo_45 : decode cX12_comesTo 45 = .ok (.ishl, 1) := by decide +kernel
theorem dX12_comesTo_46 : decode cX12_comesTo 46 = .ok (.ior, 1) := by decide +kernel
theorem dX12_comesTo_47 : decode cX12_comesTo 47 = .ok (.istore 6, 2) := by decide +kernel
theorem dX12_comesTo_49 : decode cX12_comesTo 49 = .ok (.iload_n 2, 1) := by decide +kernel
theorem dX12_comesTo_50 : decode cX12_comesTo 50 = .ok (.iload 5, 2) := by decide +kernel
theorem dX12_comesTo_52 : decode cX12_comesTo 52 = .ok (.invokestatic 257, 3) := by decide +kernel
theorem dX12_comesTo_55 : decode cX12_comesTo 55 = .ok (.ifCond .ne 15, 3) := by decide +kernel
theorem dX12_comesTo_58 : decode cX12_comesTo 58 = .ok (.iload_n 3, 1) := by decide +kernel
theorem dX12_comesTo_59 : decode cX12_comesTo 59 = .ok (.iload 6, 2) := by decide +kernel
theorem dX12_comesTo_61 : decode cX12_comesTo 61 = .ok (.iand, 1) := by decide +kernel
theorem dX12_comesTo_62 : decode cX12_comesTo 62 = .ok (.ifCond .eq 8, 3) := by decide +kernel
theorem dX12_comesTo_65 : decode cX12_comesTo 65 = .ok (.iload_n 3, 1) := by decide +kernel
theorem dX12_comesTo_66 : decode cX12_comesTo 66 = .ok (.iload 6, 2) := by decide +kernel
theorem dX12_comesTo_68 : decode cX12_comesTo 68 = .ok (.ior, 1) := by decide +kernel
theorem dX12_comesTo_69 : decode cX12_comesTo 69 = .ok (.istore_n 3, 1) := by decide +kernel
theorem dX12_comesTo_70 : decode cX12_comesTo 70 = .ok (.iinc 5 1, 3) := by decide +kernel
theorem dX12_comesTo_73 : decode cX12_comesTo 73 = .ok (.goto (-54), 3) := by decide +kernel
theorem dX12_comesTo_76 : decode cX12_comesTo 76 = .ok (.goto (-69), 3) := by decide +kernel
theorem dX12_comesTo_79 : decode cX12_comesTo 79 = .ok (.iload_n 3, 1) := by decide +kernel
theorem dX12_comesTo_80 : decode cX12_comesTo 80 = .ok (.ireturn, 1) := by decide +kernel
theorem dX12_lost_0 : decode cX12_lost 0 = .ok (.aload_n 0, 1) := by decide +kernel
theorem dX12_lost_1 : decode cX12_lost 1 = .ok (.iload_n 1, 1) := by decide +kernel
theorem dX12_lost_2 : decode cX12_lost 2 = .ok (.invokevirtual 390, 3) := by decide +kernel
theorem dX12_lost_5 : decode cX12_lost 5 = .ok (.ifCond .eq 20, 3) := by decide +kernel
theorem dX12_lost_8 : decode cX12_lost 8 = .ok (.aload_n 0, 1) := by decide +kernel
theorem dX12_lost_9 : decode cX12_lost 9 = .ok (.iload_n 2, 1) := by decide +kernel
theorem dX12_lost_10 : decode cX12_lost 10 = .ok (.invokevirtual 338, 3) := by decide +kernel
theorem dX12_lost_13 : decode cX12_lost 13 = .ok (.ifCond .eq 12, 3) := by decide +kernel
theorem dX12_lost_16 : decode cX12_lost 16 = .ok (.aload_n 0, 1) := by decide +kernel
theorem dX12_lost_17 : decode cX12_lost 17 = .ok (.iload_n 1, 1) := by decide +kernel
theorem dX12_lost_18 : decode cX12_lost 18 = .ok (.iload_n 2, 1) := by decide +kernel
theorem dX12_lost_19 : decode cX12_lost 19 = .ok (.invokevirtual 433, 3) := by decide +kernel
theorem dX12_lost_22 : decode cX12_lost 22 = .ok (.goto 4, 3) := by decide +kernel
theorem dX12_lost_25 : decode cX12_lost 25 = .ok (.iconst (-1), 1) := by decide +kernel
theorem dX12_lost_26 : decode cX12_lost 26 = .ok (.ireturn, 1) := by decide +kernel
theorem dX12_split_0 : decode cX12_split 0 = .ok (.aload_n 0, 1) := by decide +kernel
theorem dX12_split_1 : decode cX12_split 1 = .ok (.iload_n 1, 1) := by decide +kernel
theorem dX12_split_2 : decode cX12_split 2 = .ok (.invokevirtual 338, 3) := by decide +kernel
theorem dX12_split_5 : decode cX12_split 5 = .ok (.ifCond .ne 5, 3) := by decide +kernel
theorem dX12_split_8 : decode cX12_split 8 = .ok (.iconst (-1), 1) := by decide +kernel
theorem dX12_split_9 : decode cX12_split 9 = .ok (.ireturn, 1) := by decide +kernel
theorem dX12_split_10 : decode cX12_split 10 = .ok (.iconst 0, 1) := by decide +kernel
theorem dX12_split_11 : decode cX12_split 11 = .ok (.istore_n 2, 1) := by decide +kernel
theorem dX12_split_12 : decode cX12_split 12 = .ok (.iconst 0, 1) := by decide +kernel
theorem dX12_split_13 : decode cX12_split 13 = .ok (.istore_n 3, 1) := by decide +kernel
theorem dX12_split_14 : decode cX12_split 14 = .ok (.iload_n 3, 1) := by decide +kernel
theorem dX12_split_15 : decode cX12_split 15 = .ok (.aload_n 0, 1) := by decide +kernel
theorem dX12_split_16 : decode cX12_split 16 = .ok (.getfield 197, 3) := by decide +kernel
theorem dX12_split_19 : decode cX12_split 19 = .ok (.if_icmp .ge 27, 3) := by decide +kernel
theorem dX12_split_22 : decode cX12_split 22 = .ok (.aload_n 0, 1) := by decide +kernel
theorem dX12_split_23 : decode cX12_split 23 = .ok (.iload_n 3, 1) := by decide +kernel
theorem dX12_split_24 : decode cX12_split 24 = .ok (.iload_n 1, 1) := by decide +kernel
theorem dX12_split_25 : decode cX12_split 25 = .ok (.invokevirtual 433, 3) := by decide +kernel
theorem dX12_split_28 : decode cX12_split 28 = .ok (.iconst 1, 1) := by decide +kernel
theorem dX12_split_29 : decode cX12_split 29 = .ok (.iload_n 3, 1) := by decide +kernel
theorem dX12_split_30 : decode cX12_split 30 = .ok (.ishl, 1) := by decide +kernel
theorem dX12_split_31 : decode cX12_split 31 = .ok (.iconst 1, 1) := by decide +kernel
theorem dX12_split_32 : decode cX12_split 32 = .ok (.isub, 1) := by decide +kernel
theorem dX12_split_33 : decode cX12_split 33 = .ok (.iand, 1) := by decide +kernel
theorem dX12_split_34 : decode cX12_split 34 = .ok (.ifCond .ne 6, 3) := by decide +kernel
theorem dX12_split_37 : decode cX12_split 37 = .ok (.iinc 2 1, 3) := by decide +kernel
theorem dX12_split_40 : decode cX12_split 40 = .ok (.iinc 3 1, 3) := by decide +kernel
theorem dX12_split_43 : decode cX12_split 43 = .ok (.goto (-29), 3) := by decide +kernel
theorem dX12_split_46 : decode cX12_split 46 = .ok (.iload_n 2, 1) := by decide +kernel
theorem dX12_split_47 : decode cX12_split 47 = .ok (.ireturn, 1) := by decide +kernel
theorem dX12_inState_0 : decode cX12_inState 0 = .ok (.aload_n 0, 1) := by decide +kernel
theorem dX12_inState_1 : decode cX12_inState 1 = .ok (.invokevirtual 332, 3) := by decide +kernel
theorem dX12_inState_4 : decode cX12_inState 4 = .ok (.iconst 0, 1) := by decide +kernel
theorem dX12_inState_5 : decode cX12_inState 5 = .ok (.istore_n 2, 1) := by decide +kernel
theorem dX12_inState_6 : decode cX12_inState 6 = .ok (.iconst 0, 1) := by decide +kernel
theorem dX12_inState_7 : decode cX12_inState 7 = .ok (.istore_n 3, 1) := by decide +kernel
theorem dX12_inState_8 : decode cX12_inState 8 = .ok (.iload_n 3, 1) := by decide +kernel
theorem dX12_inState_9 : decode cX12_inState 9 = .ok (.aload_n 0, 1) := by decide +kernel
theorem dX12_inState_10 : decode cX12_inState 10 = .ok (.getfield 200, 3) := by decide +kernel
theorem dX12_inState_13 : decode cX12_inState 13 = .ok (.if_icmp .ge 24, 3) := by decide +kernel
theorem dX12_inState_16 : decode cX12_inState 16 = .ok (.aload_n 0, 1) := by decide +kernel
theorem dX12_inState_17 : decode cX12_inState 17 = .ok (.iload_n 3, 1) := by decide +kernel
theorem dX12_inState_18 : decode cX12_inState 18 = .ok (.invokevirtual 335, 3) := by decide +kernel
theorem dX12_inState_21 : decode cX12_inState 21 = .ok (.iload_n 1, 1) := by decide +kernel
theorem dX12_inState_22 : decode cX12_inState 22 = .ok (.if_icmp .ne 9, 3) := by decide +kernel
theorem dX12_inState_25 : decode cX12_inState 25 = .ok (.iload_n 2, 1) := by decide +kernel
theorem dX12_inState_26 : decode cX12_inState 26 = .ok (.iconst 1, 1) := by decide +kernel
theorem dX12_inState_27 : decode cX12_inState 27 = .ok (.iload_n 3, 1) := by decide +kernel
theorem dX12_inState_28 : decode cX12_inState 28 = .ok (.ishl, 1) := by decide +kernel
theorem dX12_inState_29 : decode cX12_inState 29 = .ok (.ior, 1) := by decide +kernel
theorem dX12_inState_30 : decode cX12_inState 30 = .ok (.istore_n 2, 1) := by decide +kernel
theorem dX12_inState_31 : decode cX12_inState 31 = .ok (.iinc 3 1, 3) := by decide +kernel
theorem dX12_inState_34 : decode cX12_inState 34 = .ok (.goto (-26), 3) := by decide +kernel
theorem dX12_inState_37 : decode cX12_inState 37 = .ok (.iload_n 2, 1) := by decide +kernel
theorem dX12_inState_38 : decode cX12_inState 38 = .ok (.ireturn, 1) := by decide +kernel
theorem dX12_waysThatAre_0 : decode cX12_waysThatAre 0 = .ok (.iconst 0, 1) := by decide +kernel
theorem dX12_waysThatAre_1 : decode cX12_waysThatAre 1 = .ok (.istore_n 2, 1) := by decide +kernel
theorem dX12_waysThatAre_2 : decode cX12_waysThatAre 2 = .ok (.iconst 0, 1) := by decide +kernel
theorem dX12_waysThatAre_3 : decode cX12_waysThatAre 3 = .ok (.istore_n 3, 1) := by decide +kernel
theorem dX12_waysThatAre_4 : decode cX12_waysThatAre 4 = .ok (.iload_n 3, 1) := by decide +kernel
theorem dX12_waysThatAre_5 : decode cX12_waysThatAre 5 = .ok (.aload_n 0, 1) := by decide +kernel
theorem dX12_waysThatAre_6 : decode cX12_waysThatAre 6 = .ok (.getfield 58, 3) := by decide +kernel
theorem dX12_waysThatAre_9 : decode cX12_waysThatAre 9 = .ok (.iconst 0, 1) := by decide +kernel
theorem dX12_waysThatAre_10 : decode cX12_waysThatAre 10 = .ok (.iaload, 1) := by decide +kernel
theorem dX12_waysThatAre_11 : decode cX12_waysThatAre 11 = .ok (.if_icmp .ge 27, 3) := by decide +kernel
theorem dX12_waysThatAre_14 : decode cX12_waysThatAre 14 = .ok (.aload_n 0, 1) := by decide +kernel
theorem dX12_waysThatAre_15 : decode cX12_waysThatAre 15 = .ok (.getfield 58, 3) := by decide +kernel
theorem dX12_waysThatAre_18 : decode cX12_waysThatAre 18 = .ok (.iconst 1, 1) := by decide +kernel
theorem dX12_waysThatAre_19 : decode cX12_waysThatAre 19 = .ok (.iload_n 3, 1) := by decide +kernel
theorem dX12_waysThatAre_20 : decode cX12_waysThatAre 20 = .ok (.iadd, 1) := by decide +kernel
theorem dX12_waysThatAre_21 : decode cX12_waysThatAre 21 = .ok (.iaload, 1) := by decide +kernel
theorem dX12_waysThatAre_22 : decode cX12_waysThatAre 22 = .ok (.iload_n 1, 1) := by decide +kernel
theorem dX12_waysThatAre_23 : decode cX12_waysThatAre 23 = .ok (.if_icmp .ne 9, 3) := by decide +kernel
theorem dX12_waysThatAre_26 : decode cX12_waysThatAre 26 = .ok (.iload_n 2, 1) := by decide +kernel
theorem dX12_waysThatAre_27 : decode cX12_waysThatAre 27 = .ok (.iconst 1, 1) := by decide +kernel
theorem dX12_waysThatAre_28 : decode cX12_waysThatAre 28 = .ok (.iload_n 3, 1) := by decide +kernel
theorem dX12_waysThatAre_29 : decode cX12_waysThatAre 29 = .ok (.ishl, 1) := by decide +kernel
theorem dX12_waysThatAre_30 : decode cX12_waysThatAre 30 = .ok (.ior, 1) := by decide +kernel
theorem dX12_waysThatAre_31 : decode cX12_waysThatAre 31 = .ok (.istore_n 2, 1) := by decide +kernel
theorem dX12_waysThatAre_32 : decode cX12_waysThatAre 32 = .ok (.iinc 3 1, 3) := by decide +kernel
theorem dX12_waysThatAre_35 : decode cX12_waysThatAre 35 = .ok (.goto (-31), 3) := by decide +kernel
theorem dX12_waysThatAre_38 : decode cX12_waysThatAre 38 = .ok (.iload_n 2, 1) := by decide +kernel
theorem dX12_waysThatAre_39 : decode cX12_waysThatAre 39 = .ok (.ireturn, 1) := by decide +kernel
theorem dX12_count_0 : decode cX12_count 0 = .ok (.iload_n 1, 1) := by decide +kernel
theorem dX12_count_1 : decode cX12_count 1 = .ok (.tableswitch 251 0 17 #[87, 92, 97, 104, 113, 119, 125, 131, 137, 143, 148, 153, 158, 203, 227, 232, 237, 242], 87) := by decide +kernel
theorem dX12_count_88 : decode cX12_count 88 = .ok (.aload_n 0, 1) := by decide +kernel
theorem dX12_count_89 : decode cX12_count 89 = .ok (.getfield 197, 3) := by decide +kernel
theorem dX12_count_92 : decode cX12_count 92 = .ok (.ireturn, 1) := by decide +kernel
theorem dX12_count_93 : decode cX12_count 93 = .ok (.aload_n 0, 1) := by decide +kernel
theorem dX12_count_94 : decode cX12_count 94 = .ok (.getfield 200, 3) := by decide +kernel
theorem dX12_count_97 : decode cX12_count 97 = .ok (.ireturn, 1) := by decide +kernel
theorem dX12_count_98 : decode cX12_count 98 = .ok (.aload_n 0, 1) := by decide +kernel
theorem dX12_count_99 : decode cX12_count 99 = .ok (.getfield 58, 3) := by decide +kernel
theorem dX12_count_102 : decode cX12_count 102 = .ok (.iconst 0, 1) := by decide +kernel
theorem dX12_count_103 : decode cX12_count 103 = .ok (.iaload, 1) := by decide +kernel
theorem dX12_count_104 : decode cX12_count 104 = .ok (.ireturn, 1) := by decide +kernel
theorem dX12_count_105 : decode cX12_count 105 = .ok (.aload_n 0, 1) := by decide +kernel
theorem dX12_count_106 : decode cX12_count 106 = .ok (.invokevirtual 332, 3) := by decide +kernel
theorem dX12_count_109 : decode cX12_count 109 = .ok (.aload_n 0, 1) := by decide +kernel
theorem dX12_count_110 : decode cX12_count 110 = .ok (.getfield 287, 3) := by decide +kernel
theorem dX12_count_113 : decode cX12_count 113 = .ok (.ireturn, 1) := by decide +kernel
theorem dX12_count_114 : decode cX12_count 114 = .ok (.aload_n 0, 1) := by decide +kernel
theorem dX12_count_115 : decode cX12_count 115 = .ok (.iconst 1, 1) := by decide +kernel
theorem dX12_count_116 : decode cX12_count 116 = .ok (.invokevirtual 436, 3) := by decide +kernel
theorem dX12_count_119 : decode cX12_count 119 = .ok (.ireturn, 1) := by decide +kernel
theorem dX12_count_120 : decode cX12_count 120 = .ok (.aload_n 0, 1) := by decide +kernel
theorem dX12_count_121 : decode cX12_count 121 = .ok (.iconst 2, 1) := by decide +kernel
theorem dX12_count_122 : decode cX12_count 122 = .ok (.invokevirtual 436, 3) := by decide +kernel
theorem dX12_count_125 : decode cX12_count 125 = .ok (.ireturn, 1) := by decide +kernel
theorem dX12_count_126 : decode cX12_count 126 = .ok (.aload_n 0, 1) := by decide +kernel
theorem dX12_count_127 : decode cX12_count 127 = .ok (.iconst 3, 1) := by decide +kernel
theorem dX12_count_128 : decode cX12_count 128 = .ok (.invokevirtual 436, 3) := by decide +kernel
theorem dX12_count_131 : decode cX12_count 131 = .ok (.ireturn, 1) := by decide +kernel
theorem dX12_count_132 : decode cX12_count 132 = .ok (.aload_n 0, 1) := by decide +kernel
theorem dX12_count_133 : decode cX12_count 133 = .ok (.iconst 1, 1) := by decide +kernel
theorem dX12_count_134 : decode cX12_count 134 = .ok (.invokevirtual 439, 3) := by decide +kernel
theorem dX12_count_137 : decode cX12_count 137 = .ok (.ireturn, 1) := by decide +kernel
theorem dX12_count_138 : decode cX12_count 138 = .ok (.aload_n 0, 1) := by decide +kernel
theorem dX12_count_139 : decode cX12_count 139 = .ok (.iconst 2, 1) := by decide +kernel
theorem dX12_count_140 : decode cX12_count 140 = .ok (.invokevirtual 439, 3) := by decide +kernel
theorem dX12_count_143 : decode cX12_count 143 = .ok (.ireturn, 1) := by decide +kernel
theorem dX12_count_144 : decode cX12_count 144 = .ok (.aload_n 0, 1) := by decide +kernel
theorem dX12_count_145 : decode cX12_count 145 = .ok (.invokevirtual 372, 3) := by decide +kernel
theorem dX12_count_148 : decode cX12_count 148 = .ok (.ireturn, 1) := by decide +kernel
theorem dX12_count_149 : decode cX12_count 149 = .ok (.aload_n 0, 1) := by decide +kernel
theorem dX12_count_150 : decode cX12_count 150 = .ok (.getfield 114, 3) := by decide +kernel
theorem dX12_count_153 : decode cX12_count 153 = .ok (.ireturn, 1) := by decide +kernel
theorem dX12_count_154 : decode cX12_count 154 = .ok (.aload_n 0, 1) := by decide +kernel
theorem dX12_count_155 : decode cX12_count 155 = .ok (.getfield 215, 3) := by decide +kernel
theorem dX12_count_158 : decode cX12_count 158 = .ok (.ireturn, 1) := by decide +kernel
theorem dX12_count_159 : decode cX12_count 159 = .ok (.aload_n 0, 1) := by decide +kernel
theorem dX12_count_160 : decode cX12_count 160 = .ok (.getfield 70, 3) := by decide +kernel
theorem dX12_count_163 : decode cX12_count 163 = .ok (.iconst 0, 1) := by decide +kernel
theorem dX12_count_164 : decode cX12_count 164 = .ok (.baload, 1) := by decide +kernel
theorem dX12_count_165 : decode cX12_count 165 = .ok (.ifCond .eq 7, 3) := by decide +kernel
theorem dX12_count_168 : decode cX12_count 168 = .ok (.iconst 1, 1) := by decide +kernel
theorem dX12_count_169 : decode cX12_count 169 = .ok (.goto 4, 3) := by decide +kernel
theorem dX12_count_172 : decode cX12_count 172 = .ok (.iconst 0, 1) := by decide +kernel
theorem dX12_count_173 : decode cX12_count 173 = .ok (.aload_n 0, 1) := by decide +kernel
theorem dX12_count_174 : decode cX12_count 174 = .ok (.getfield 70, 3) := by decide +kernel
theorem dX12_count_177 : decode cX12_count 177 = .ok (.iconst 1, 1) := by decide +kernel
theorem dX12_count_178 : decode cX12_count 178 = .ok (.baload, 1) := by decide +kernel
theorem dX12_count_179 : decode cX12_count 179 = .ok (.ifCond .eq 7, 3) := by decide +kernel
theorem dX12_count_182 : decode cX12_count 182 = .ok (.iconst 1, 1) := by decide +kernel
theorem dX12_count_183 : decode cX12_count 183 = .ok (.goto 4, 3) := by decide +kernel
theorem dX12_count_186 : decode cX12_count 186 = .ok (.iconst 0, 1) := by decide +kernel
theorem dX12_count_187 : decode cX12_count 187 = .ok (.iadd, 1) := by decide +kernel
theorem dX12_count_188 : decode cX12_count 188 = .ok (.aload_n 0, 1) := by decide +kernel
theorem dX12_count_189 : decode cX12_count 189 = .ok (.getfield 70, 3) := by decide +kernel
theorem dX12_count_192 : decode cX12_count 192 = .ok (.iconst 2, 1) := by decide +kernel
theorem dX12_count_193 : decode cX12_count 193 = .ok (.baload, 1) := by decide +kernel
theorem dX12_count_194 : decode cX12_count 194 = .ok (.ifCond .eq 7, 3) := by decide +kernel
theorem dX12_count_197 : decode cX12_count 197 = .ok (.iconst 1, 1) := by decide +kernel
theorem dX12_count_198 : decode cX12_count 198 = .ok (.goto 4, 3) := by decide +kernel
theorem dX12_count_201 : decode cX12_count 201 = .ok (.iconst 0, 1) := by decide +kernel
theorem dX12_count_202 : decode cX12_count 202 = .ok (.iadd, 1) := by decide +kernel
theorem dX12_count_203 : decode cX12_count 203 = .ok (.ireturn, 1) := by decide +kernel
theorem dX12_count_204 : decode cX12_count 204 = .ok (.aload_n 0, 1) := by decide +kernel
theorem dX12_count_205 : decode cX12_count 205 = .ok (.invokevirtual 332, 3) := by decide +kernel
theorem dX12_count_208 : decode cX12_count 208 = .ok (.aload_n 0, 1) := by decide +kernel
theorem dX12_count_209 : decode cX12_count 209 = .ok (.getfield 308, 3) := by decide +kernel
theorem dX12_count_212 : decode cX12_count 212 = .ok (.ifCond .ge 8, 3) := by decide +kernel
theorem dX12_count_215 : decode cX12_count 215 = .ok (.bipush (-2), 2) := by decide +kernel
theorem dX12_count_217 : decode cX12_count 217 = .ok (.goto 10, 3) := by decide +kernel
theorem dX12_count_220 : decode cX12_count 220 = .ok (.aload_n 0, 1) := by decide +kernel
theorem dX12_count_221 : decode cX12_count 221 = .ok (.getfield 308, 3) := by decide +kernel
theorem dX12_count_224 : decode cX12_count 224 = .ok (.invokestatic 293, 3) := by decide +kernel
theorem dX12_count_227 : decode cX12_count 227 = .ok (.ireturn, 1) := by decide +kernel
theorem dX12_count_228 : decode cX12_count 228 = .ok (.aload_n 0, 1) := by decide +kernel
theorem dX12_count_229 : decode cX12_count 229 = .ok (.getfield 203, 3) := by decide +kernel
theorem dX12_count_232 : decode cX12_count 232 = .ok (.ireturn, 1) := by decide +kernel
theorem dX12_count_233 : decode cX12_count 233 = .ok (.aload_n 0, 1) := by decide +kernel
theorem dX12_count_234 : decode cX12_count 234 = .ok (.getfield 111, 3) := by decide +kernel
theorem dX12_count_237 : decode cX12_count 237 = .ok (.ireturn, 1) := by decide +kernel
theorem dX12_count_238 : decode cX12_count 238 = .ok (.aload_n 0, 1) := by decide +kernel
theorem dX12_count_239 : decode cX12_count 239 = .ok (.getfield 212, 3) := by decide +kernel
theorem dX12_count_242 : decode cX12_count 242 = .ok (.ireturn, 1) := by decide +kernel
theorem dX12_count_243 : decode cX12_count 243 = .ok (.aload_n 0, 1) := by decide +kernel
theorem dX12_count_244 : decode cX12_count 244 = .ok (.invokevirtual 414, 3) := by decide +kernel
theorem dX12_count_247 : decode cX12_count 247 = .ok (.aload_n 0, 1) := by decide +kernel
theorem dX12_count_248 : decode cX12_count 248 = .ok (.getfield 402, 3) := by decide +kernel
theorem dX12_count_251 : decode cX12_count 251 = .ok (.ireturn, 1) := by decide +kernel
theorem dX12_count_252 : decode cX12_count 252 = .ok (.iconst (-1), 1) := by decide +kernel
theorem dX12_count_253 : decode cX12_count 253 = .ok (.ireturn, 1) := by decide +kernel
theorem dJ6_compare_7cf53_0 : decode cJ6_compare_7cf53 0 = .ok (.iload_n 0, 1) := by decide +kernel
theorem dJ6_compare_7cf53_1 : decode cJ6_compare_7cf53 1 = .ok (.iload_n 1, 1) := by decide +kernel
theorem dJ6_compare_7cf53_2 : decode cJ6_compare_7cf53 2 = .ok (.if_icmp .ge 7, 3) := by decide +kernel
theorem dJ6_compare_7cf53_5 : decode cJ6_compare_7cf53 5 = .ok (.iconst (-1), 1) := by decide +kernel
theorem dJ6_compare_7cf53_6 : decode cJ6_compare_7cf53 6 = .ok (.goto 13, 3) := by decide +kernel
theorem dJ6_compare_7cf53_9 : decode cJ6_compare_7cf53 9 = .ok (.iload_n 0, 1) := by decide +kernel
theorem dJ6_compare_7cf53_10 : decode cJ6_compare_7cf53 10 = .ok (.iload_n 1, 1) := by decide +kernel
theorem dJ6_compare_7cf53_11 : decode cJ6_compare_7cf53 11 = .ok (.if_icmp .ne 7, 3) := by decide +kernel
theorem dJ6_compare_7cf53_14 : decode cJ6_compare_7cf53 14 = .ok (.iconst 0, 1) := by decide +kernel
theorem dJ6_compare_7cf53_15 : decode cJ6_compare_7cf53 15 = .ok (.goto 4, 3) := by decide +kernel
theorem dJ6_compare_7cf53_18 : decode cJ6_compare_7cf53 18 = .ok (.iconst 1, 1) := by decide +kernel
theorem dJ6_compare_7cf53_19 : decode cJ6_compare_7cf53 19 = .ok (.ireturn, 1) := by decide +kernel
theorem dJ6_bitCount_0f7a4_0 : decode cJ6_bitCount_0f7a4 0 = .ok (.iload_n 0, 1) := by decide +kernel
theorem dJ6_bitCount_0f7a4_1 : decode cJ6_bitCount_0f7a4 1 = .ok (.iload_n 0, 1) := by decide +kernel
theorem dJ6_bitCount_0f7a4_2 : decode cJ6_bitCount_0f7a4 2 = .ok (.iconst 1, 1) := by decide +kernel
theorem dJ6_bitCount_0f7a4_3 : decode cJ6_bitCount_0f7a4 3 = .ok (.iushr, 1) := by decide +kernel
theorem dJ6_bitCount_0f7a4_4 : decode cJ6_bitCount_0f7a4 4 = .ok (.ldc_w 265, 3) := by decide +kernel
theorem dJ6_bitCount_0f7a4_7 : decode cJ6_bitCount_0f7a4 7 = .ok (.iand, 1) := by decide +kernel
theorem dJ6_bitCount_0f7a4_8 : decode cJ6_bitCount_0f7a4 8 = .ok (.isub, 1) := by decide +kernel
theorem dJ6_bitCount_0f7a4_9 : decode cJ6_bitCount_0f7a4 9 = .ok (.istore_n 0, 1) := by decide +kernel
theorem dJ6_bitCount_0f7a4_10 : decode cJ6_bitCount_0f7a4 10 = .ok (.iload_n 0, 1) := by decide +kernel
theorem dJ6_bitCount_0f7a4_11 : decode cJ6_bitCount_0f7a4 11 = .ok (.ldc_w 266, 3) := by decide +kernel
theorem dJ6_bitCount_0f7a4_14 : decode cJ6_bitCount_0f7a4 14 = .ok (.iand, 1) := by decide +kernel
theorem dJ6_bitCount_0f7a4_15 : decode cJ6_bitCount_0f7a4 15 = .ok (.iload_n 0, 1) := by decide +kernel
theorem dJ6_bitCount_0f7a4_16 : decode cJ6_bitCount_0f7a4 16 = .ok (.iconst 2, 1) := by decide +kernel
theorem dJ6_bitCount_0f7a4_17 : decode cJ6_bitCount_0f7a4 17 = .ok (.iushr, 1) := by decide +kernel
theorem dJ6_bitCount_0f7a4_18 : decode cJ6_bitCount_0f7a4 18 = .ok (.ldc_w 266, 3) := by decide +kernel
theorem dJ6_bitCount_0f7a4_21 : decode cJ6_bitCount_0f7a4 21 = .ok (.iand, 1) := by decide +kernel
theorem dJ6_bitCount_0f7a4_22 : decode cJ6_bitCount_0f7a4 22 = .ok (.iadd, 1) := by decide +kernel
theorem dJ6_bitCount_0f7a4_23 : decode cJ6_bitCount_0f7a4 23 = .ok (.istore_n 0, 1) := by decide +kernel
theorem dJ6_bitCount_0f7a4_24 : decode cJ6_bitCount_0f7a4 24 = .ok (.iload_n 0, 1) := by decide +kernel
theorem dJ6_bitCount_0f7a4_25 : decode cJ6_bitCount_0f7a4 25 = .ok (.iload_n 0, 1) := by decide +kernel
theorem dJ6_bitCount_0f7a4_26 : decode cJ6_bitCount_0f7a4 26 = .ok (.iconst 4, 1) := by decide +kernel
theorem dJ6_bitCount_0f7a4_27 : decode cJ6_bitCount_0f7a4 27 = .ok (.iushr, 1) := by decide +kernel
theorem dJ6_bitCount_0f7a4_28 : decode cJ6_bitCount_0f7a4 28 = .ok (.iadd, 1) := by decide +kernel
theorem dJ6_bitCount_0f7a4_29 : decode cJ6_bitCount_0f7a4 29 = .ok (.ldc_w 267, 3) := by decide +kernel
theorem dJ6_bitCount_0f7a4_32 : decode cJ6_bitCount_0f7a4 32 = .ok (.iand, 1) := by decide +kernel
theorem dJ6_bitCount_0f7a4_33 : decode cJ6_bitCount_0f7a4 33 = .ok (.istore_n 0, 1) := by decide +kernel
theorem dJ6_bitCount_0f7a4_34 : decode cJ6_bitCount_0f7a4 34 = .ok (.iload_n 0, 1) := by decide +kernel
theorem dJ6_bitCount_0f7a4_35 : decode cJ6_bitCount_0f7a4 35 = .ok (.iload_n 0, 1) := by decide +kernel
theorem dJ6_bitCount_0f7a4_36 : decode cJ6_bitCount_0f7a4 36 = .ok (.bipush 8, 2) := by decide +kernel
theorem dJ6_bitCount_0f7a4_38 : decode cJ6_bitCount_0f7a4 38 = .ok (.iushr, 1) := by decide +kernel
theorem dJ6_bitCount_0f7a4_39 : decode cJ6_bitCount_0f7a4 39 = .ok (.iadd, 1) := by decide +kernel
theorem dJ6_bitCount_0f7a4_40 : decode cJ6_bitCount_0f7a4 40 = .ok (.istore_n 0, 1) := by decide +kernel
theorem dJ6_bitCount_0f7a4_41 : decode cJ6_bitCount_0f7a4 41 = .ok (.iload_n 0, 1) := by decide +kernel
theorem dJ6_bitCount_0f7a4_42 : decode cJ6_bitCount_0f7a4 42 = .ok (.iload_n 0, 1) := by decide +kernel
theorem dJ6_bitCount_0f7a4_43 : decode cJ6_bitCount_0f7a4 43 = .ok (.bipush 16, 2) := by decide +kernel
theorem dJ6_bitCount_0f7a4_45 : decode cJ6_bitCount_0f7a4 45 = .ok (.iushr, 1) := by decide +kernel
theorem dJ6_bitCount_0f7a4_46 : decode cJ6_bitCount_0f7a4 46 = .ok (.iadd, 1) := by decide +kernel
theorem dJ6_bitCount_0f7a4_47 : decode cJ6_bitCount_0f7a4 47 = .ok (.istore_n 0, 1) := by decide +kernel
theorem dJ6_bitCount_0f7a4_48 : decode cJ6_bitCount_0f7a4 48 = .ok (.iload_n 0, 1) := by decide +kernel
theorem dJ6_bitCount_0f7a4_49 : decode cJ6_bitCount_0f7a4 49 = .ok (.bipush 63, 2) := by decide +kernel
theorem dJ6_bitCount_0f7a4_51 : decode cJ6_bitCount_0f7a4 51 = .ok (.iand, 1) := by decide +kernel
theorem dJ6_bitCount_0f7a4_52 : decode cJ6_bitCount_0f7a4 52 = .ok (.ireturn, 1) := by decide +kernel
theorem dJ9_max_7cf53_0 : decode cJ9_max_7cf53 0 = .ok (.iload_n 0, 1) := by decide +kernel
theorem dJ9_max_7cf53_1 : decode cJ9_max_7cf53 1 = .ok (.iload_n 1, 1) := by decide +kernel
theorem dJ9_max_7cf53_2 : decode cJ9_max_7cf53 2 = .ok (.if_icmp .lt 7, 3) := by decide +kernel
theorem dJ9_max_7cf53_5 : decode cJ9_max_7cf53 5 = .ok (.iload_n 0, 1) := by decide +kernel
theorem dJ9_max_7cf53_6 : decode cJ9_max_7cf53 6 = .ok (.goto 4, 3) := by decide +kernel
theorem dJ9_max_7cf53_9 : decode cJ9_max_7cf53 9 = .ok (.iload_n 1, 1) := by decide +kernel
theorem dJ9_max_7cf53_10 : decode cJ9_max_7cf53 10 = .ok (.ireturn, 1) := by decide +kernel
theorem dJ9_min_7cf53_0 : decode cJ9_min_7cf53 0 = .ok (.iload_n 0, 1) := by decide +kernel
theorem dJ9_min_7cf53_1 : decode cJ9_min_7cf53 1 = .ok (.iload_n 1, 1) := by decide +kernel
theorem dJ9_min_7cf53_2 : decode cJ9_min_7cf53 2 = .ok (.if_icmp .gt 7, 3) := by decide +kernel
theorem dJ9_min_7cf53_5 : decode cJ9_min_7cf53 5 = .ok (.iload_n 0, 1) := by decide +kernel
theorem dJ9_min_7cf53_6 : decode cJ9_min_7cf53 6 = .ok (.goto 4, 3) := by decide +kernel
theorem dJ9_min_7cf53_9 : decode cJ9_min_7cf53 9 = .ok (.iload_n 1, 1) := by decide +kernel
theorem dJ9_min_7cf53_10 : decode cJ9_min_7cf53 10 = .ok (.ireturn, 1) := by decide +kernel
theorem dJ0_length_8abf5_0 : decode cJ0_length_8abf5 0 = .ok (.aload_n 0, 1) := by decide +kernel
theorem dJ0_length_8abf5_1 : decode cJ0_length_8abf5 1 = .ok (.getfield 9, 3) := by decide +kernel
theorem dJ0_length_8abf5_4 : decode cJ0_length_8abf5 4 = .ok (.arraylength, 1) := by decide +kernel
theorem dJ0_length_8abf5_5 : decode cJ0_length_8abf5 5 = .ok (.aload_n 0, 1) := by decide +kernel
theorem dJ0_length_8abf5_6 : decode cJ0_length_8abf5 6 = .ok (.invokevirtual 335, 3) := by decide +kernel
theorem dJ0_length_8abf5_9 : decode cJ0_length_8abf5 9 = .ok (.ishr, 1) := by decide +kernel
theorem dJ0_length_8abf5_10 : decode cJ0_length_8abf5 10 = .ok (.ireturn, 1) := by decide +kernel
theorem dJ0_charAt_5068e_0 : decode cJ0_charAt_5068e 0 = .ok (.aload_n 0, 1) := by decide +kernel
theorem dJ0_charAt_5068e_1 : decode cJ0_charAt_5068e 1 = .ok (.invokevirtual 492, 3) := by decide +kernel
theorem dJ0_charAt_5068e_4 : decode cJ0_charAt_5068e 4 = .ok (.ifCond .eq 12, 3) := by decide +kernel
theorem dJ0_charAt_5068e_7 : decode cJ0_charAt_5068e 7 = .ok (.aload_n 0, 1) := by decide +kernel
theorem dJ0_charAt_5068e_8 : decode cJ0_charAt_5068e 8 = .ok (.getfield 9, 3) := by decide +kernel
theorem dJ0_charAt_5068e_11 : decode cJ0_charAt_5068e 11 = .ok (.iload_n 1, 1) := by decide +kernel
theorem dJ0_charAt_5068e_12 : decode cJ0_charAt_5068e 12 = .ok (.invokestatic 495, 3) := by decide +kernel
theorem dJ0_charAt_5068e_15 : decode cJ0_charAt_5068e 15 = .ok (.ireturn, 1) := by decide +kernel
theorem dJ0_charAt_5068e_16 : decode cJ0_charAt_5068e 16 = .ok (.aload_n 0, 1) := by decide +kernel
theorem dJ0_charAt_5068e_17 : decode cJ0_charAt_5068e 17 = .ok (.getfield 9, 3) := by decide +kernel
theorem dJ0_charAt_5068e_20 : decode cJ0_charAt_5068e 20 = .ok (.iload_n 1, 1) := by decide +kernel
theorem dJ0_charAt_5068e_21 : decode cJ0_charAt_5068e 21 = .ok (.invokestatic 498, 3) := by decide +kernel
theorem dJ0_charAt_5068e_24 : decode cJ0_charAt_5068e 24 = .ok (.ireturn, 1) := by decide +kernel
theorem dJ0_coder_7d493_0 : decode cJ0_coder_7d493 0 = .ok (.getstatic 38, 3) := by decide +kernel
theorem dJ0_coder_7d493_3 : decode cJ0_coder_7d493 3 = .ok (.ifCond .eq 10, 3) := by decide +kernel
theorem dJ0_coder_7d493_6 : decode cJ0_coder_7d493 6 = .ok (.aload_n 0, 1) := by decide +kernel
theorem dJ0_coder_7d493_7 : decode cJ0_coder_7d493 7 = .ok (.getfield 15, 3) := by decide +kernel
theorem dJ0_coder_7d493_10 : decode cJ0_coder_7d493 10 = .ok (.goto 4, 3) := by decide +kernel
theorem dJ0_coder_7d493_13 : decode cJ0_coder_7d493 13 = .ok (.iconst 1, 1) := by decide +kernel
theorem dJ0_coder_7d493_14 : decode cJ0_coder_7d493 14 = .ok (.ireturn, 1) := by decide +kernel
theorem dJ0_isLatin1_aae02_0 : decode cJ0_isLatin1_aae02 0 = .ok (.getstatic 38, 3) := by decide +kernel
theorem dJ0_isLatin1_aae02_3 : decode cJ0_isLatin1_aae02 3 = .ok (.ifCond .eq 14, 3) := by decide +kernel
theorem dJ0_isLatin1_aae02_6 : decode cJ0_isLatin1_aae02 6 = .ok (.aload_n 0, 1) := by decide +kernel
theorem dJ0_isLatin1_aae02_7 : decode cJ0_isLatin1_aae02 7 = .ok (.getfield 15, 3) := by decide +kernel
theorem dJ0_isLatin1_aae02_10 : decode cJ0_isLatin1_aae02 10 = .ok (.ifCond .ne 7, 3) := by decide +kernel
theorem dJ0_isLatin1_aae02_13 : decode cJ0_isLatin1_aae02 13 = .ok (.iconst 1, 1) := by decide +kernel
theorem dJ0_isLatin1_aae02_14 : decode cJ0_isLatin1_aae02 14 = .ok (.goto 4, 3) := by decide +kernel
theorem dJ0_isLatin1_aae02_17 : decode cJ0_isLatin1_aae02 17 = .ok (.iconst 0, 1) := by decide +kernel
theorem dJ0_isLatin1_aae02_18 : decode cJ0_isLatin1_aae02 18 = .ok (.ireturn, 1) := by decide +kernel
theorem dJ0_checkIndex_df160_0 : decode cJ0_checkIndex_df160 0 = .ok (.iload_n 0, 1) := by decide +kernel
theorem dJ0_checkIndex_df160_1 : decode cJ0_checkIndex_df160 1 = .ok (.iload_n 1, 1) := by decide +kernel
theorem dJ0_checkIndex_df160_2 : decode cJ0_checkIndex_df160 2 = .ok (.getstatic 1053, 3) := by decide +kernel
theorem dJ0_checkIndex_df160_5 : decode cJ0_checkIndex_df160 5 = .ok (.invokestatic 1059, 3) := by decide +kernel
theorem dJ0_checkIndex_df160_8 : decode cJ0_checkIndex_df160 8 = .ok (.pop, 1) := by decide +kernel
theorem dJ0_checkIndex_df160_9 : decode cJ0_checkIndex_df160 9 = .ok (.return_, 1) := by decide +kernel
theorem dJ1_charAt_3b067_0 : decode cJ1_charAt_3b067 0 = .ok (.iload_n 1, 1) := by decide +kernel
theorem dJ1_charAt_3b067_1 : decode cJ1_charAt_3b067 1 = .ok (.aload_n 0, 1) := by decide +kernel
theorem dJ1_charAt_3b067_2 : decode cJ1_charAt_3b067 2 = .ok (.arraylength, 1) := by decide +kernel
theorem dJ1_charAt_3b067_3 : decode cJ1_charAt_3b067 3 = .ok (.invokestatic 9, 3) := by decide +kernel
theorem dJ1_charAt_3b067_6 : decode cJ1_charAt_3b067 6 = .ok (.aload_n 0, 1) := by decide +kernel
theorem dJ1_charAt_3b067_7 : decode cJ1_charAt_3b067 7 = .ok (.iload_n 1, 1) := by decide +kernel
theorem dJ1_charAt_3b067_8 : decode cJ1_charAt_3b067 8 = .ok (.baload, 1) := by decide +kernel
theorem dJ1_charAt_3b067_9 : decode cJ1_charAt_3b067 9 = .ok (.sipush 255, 3) := by decide +kernel
theorem dJ1_charAt_3b067_12 : decode cJ1_charAt_3b067 12 = .ok (.iand, 1) := by decide +kernel
theorem dJ1_charAt_3b067_13 : decode cJ1_charAt_3b067 13 = .ok (.i2c, 1) := by decide +kernel
theorem dJ1_charAt_3b067_14 : decode cJ1_charAt_3b067 14 = .ok (.ireturn, 1) := by decide +kernel
theorem dJ2_getChar_3b067_0 : decode cJ2_getChar_3b067 0 = .ok (.getstatic 44, 3) := by decide +kernel
theorem dJ2_getChar_3b067_3 : decode cJ2_getChar_3b067 3 = .ok (.ifCond .ne 25, 3) := by decide +kernel
theorem dJ2_getChar_3b067_6 : decode cJ2_getChar_3b067 6 = .ok (.iload_n 1, 1) := by decide +kernel
theorem dJ2_getChar_3b067_7 : decode cJ2_getChar_3b067 7 = .ok (.ifCond .lt 11, 3) := by decide +kernel
theorem dJ2_getChar_3b067_10 : decode cJ2_getChar_3b067 10 = .ok (.iload_n 1, 1) := by decide +kernel
theorem dJ2_getChar_3b067_11 : decode cJ2_getChar_3b067 11 = .ok (.aload_n 0, 1) := by decide +kernel
theorem dJ2_getChar_3b067_12 : decode cJ2_getChar_3b067 12 = .ok (.invokestatic 48, 3) := by decide +kernel
theorem dJ2_getChar_3b067_15 : decode cJ2_getChar_3b067 15 = .ok (.if_icmp .lt 13, 3) := by decide +kernel
theorem dJ2_getChar_3b067_18 : decode cJ2_getChar_3b067 18 = .ok (.new 52, 3) := by decide +kernel
theorem dJ2_getChar_3b067_21 : decode cJ2_getChar_3b067 21 = .ok (.dup, 1) := by decide +kernel
theorem dJ2_getChar_3b067_22 : decode cJ2_getChar_3b067 22 = .ok (.ldc 54, 2) := by decide +kernel
theorem dJ2_getChar_3b067_24 : decode cJ2_getChar_3b067 24 = .ok (.invokespecial 56, 3) := by decide +kernel
theorem dJ2_getChar_3b067_27 : decode cJ2_getChar_3b067 27 = .ok (.athrow, 1) := by decide +kernel
theorem dJ2_getChar_3b067_28 : decode cJ2_getChar_3b067 28 = .ok (.iload_n 1, 1) := by decide +kernel
theorem dJ2_getChar_3b067_29 : decode cJ2_getChar_3b067 29 = .ok (.iconst 1, 1) := by decide +kernel
theorem dJ2_getChar_3b067_30 : decode cJ2_getChar_3b067 30 = .ok (.ishl, 1) := by decide +kernel
theorem dJ2_getChar_3b067_31 : decode cJ2_getChar_3b067 31 = .ok (.istore_n 1, 1) := by decide +kernel
theorem dJ2_getChar_3b067_32 : decode cJ2_getChar_3b067 32 = .ok (.aload_n 0, 1) := by decide +kernel
theorem dJ2_getChar_3b067_33 : decode cJ2_getChar_3b067 33 = .ok (.iload_n 1, 1) := by decide +kernel
theorem dJ2_getChar_3b067_34 : decode cJ2_getChar_3b067 34 = .ok (.iinc 1 1, 3) := by decide +kernel
theorem dJ2_getChar_3b067_37 : decode cJ2_getChar_3b067 37 = .ok (.baload, 1) := by decide +kernel
theorem dJ2_getChar_3b067_38 : decode cJ2_getChar_3b067 38 = .ok (.sipush 255, 3) := by decide +kernel
theorem dJ2_getChar_3b067_41 : decode cJ2_getChar_3b067 41 = .ok (.iand, 1) := by decide +kernel
theorem dJ2_getChar_3b067_42 : decode cJ2_getChar_3b067 42 = .ok (.getstatic 59, 3) := by decide +kernel
theorem dJ2_getChar_3b067_45 : decode cJ2_getChar_3b067 45 = .ok (.ishl, 1) := by decide +kernel
theorem dJ2_getChar_3b067_46 : decode cJ2_getChar_3b067 46 = .ok (.aload_n 0, 1) := by decide +kernel
theorem dJ2_getChar_3b067_47 : decode cJ2_getChar_3b067 47 = .ok (.iload_n 1, 1) := by decide +kernel
theorem dJ2_getChar_3b067_48 : decode cJ2_getChar_3b067 48 = .ok (.baload, 1) := by decide +kernel
theorem dJ2_getChar_3b067_49 : decode cJ2_getChar_3b067 49 = .ok (.sipush 255, 3) := by decide +kernel
theorem dJ2_getChar_3b067_52 : decode cJ2_getChar_3b067 52 = .ok (.iand, 1) := by decide +kernel
theorem dJ2_getChar_3b067_53 : decode cJ2_getChar_3b067 53 = .ok (.getstatic 63, 3) := by decide +kernel
theorem dJ2_getChar_3b067_56 : decode cJ2_getChar_3b067 56 = .ok (.ishl, 1) := by decide +kernel
theorem dJ2_getChar_3b067_57 : decode cJ2_getChar_3b067 57 = .ok (.ior, 1) := by decide +kernel
theorem dJ2_getChar_3b067_58 : decode cJ2_getChar_3b067 58 = .ok (.i2c, 1) := by decide +kernel
theorem dJ2_getChar_3b067_59 : decode cJ2_getChar_3b067 59 = .ok (.ireturn, 1) := by decide +kernel
theorem dJ2_length_9d52b_0 : decode cJ2_length_9d52b 0 = .ok (.aload_n 0, 1) := by decide +kernel
theorem dJ2_length_9d52b_1 : decode cJ2_length_9d52b 1 = .ok (.arraylength, 1) := by decide +kernel
theorem dJ2_length_9d52b_2 : decode cJ2_length_9d52b 2 = .ok (.iconst 1, 1) := by decide +kernel
theorem dJ2_length_9d52b_3 : decode cJ2_length_9d52b 3 = .ok (.ishr, 1) := by decide +kernel
theorem dJ2_length_9d52b_4 : decode cJ2_length_9d52b 4 = .ok (.ireturn, 1) := by decide +kernel
theorem dJ2_charAt_3b067_0 : decode cJ2_charAt_3b067 0 = .ok (.iload_n 1, 1) := by decide +kernel
theorem dJ2_charAt_3b067_1 : decode cJ2_charAt_3b067 1 = .ok (.aload_n 0, 1) := by decide +kernel
theorem dJ2_charAt_3b067_2 : decode cJ2_charAt_3b067 2 = .ok (.invokestatic 67, 3) := by decide +kernel
theorem dJ2_charAt_3b067_5 : decode cJ2_charAt_3b067 5 = .ok (.aload_n 0, 1) := by decide +kernel
theorem dJ2_charAt_3b067_6 : decode cJ2_charAt_3b067 6 = .ok (.iload_n 1, 1) := by decide +kernel
theorem dJ2_charAt_3b067_7 : decode cJ2_charAt_3b067 7 = .ok (.invokestatic 71, 3) := by decide +kernel
theorem dJ2_charAt_3b067_10 : decode cJ2_charAt_3b067 10 = .ok (.ireturn, 1) := by decide +kernel
theorem dJ2_checkIndex_2214a_0 : decode cJ2_checkIndex_2214a 0 = .ok (.iload_n 0, 1) := by decide +kernel
theorem dJ2_checkIndex_2214a_1 : decode cJ2_checkIndex_2214a 1 = .ok (.aload_n 1, 1) := by decide +kernel
theorem dJ2_checkIndex_2214a_2 : decode cJ2_checkIndex_2214a 2 = .ok (.invokestatic 48, 3) := by decide +kernel
theorem dJ2_checkIndex_2214a_5 : decode cJ2_checkIndex_2214a 5 = .ok (.invokestatic 414, 3) := by decide +kernel
theorem dJ2_checkIndex_2214a_8 : decode cJ2_checkIndex_2214a 8 = .ok (.return_, 1) := by decide +kernel
theorem dJ7_fill_53178_0 : decode cJ7_fill_53178 0 = .ok (.iconst 0, 1) := by decide +kernel
theorem dJ7_fill_53178_1 : decode cJ7_fill_53178 1 = .ok (.istore_n 2, 1) := by decide +kernel
theorem dJ7_fill_53178_2 : decode cJ7_fill_53178 2 = .ok (.aload_n 0, 1) := by decide +kernel
theorem dJ7_fill_53178_3 : decode cJ7_fill_53178 3 = .ok (.arraylength, 1) := by decide +kernel
theorem dJ7_fill_53178_4 : decode cJ7_fill_53178 4 = .ok (.istore_n 3, 1) := by decide +kernel
theorem dJ7_fill_53178_5 : decode cJ7_fill_53178 5 = .ok (.iload_n 2, 1) := by decide +kernel
theorem dJ7_fill_53178_6 : decode cJ7_fill_53178 6 = .ok (.iload_n 3, 1) := by decide +kernel
theorem dJ7_fill_53178_7 : decode cJ7_fill_53178 7 = .ok (.if_icmp .ge 13, 3) := by decide +kernel
theorem dJ7_fill_53178_10 : decode cJ7_fill_53178 10 = .ok (.aload_n 0, 1) := by decide +kernel
theorem dJ7_fill_53178_11 : decode cJ7_fill_53178 11 = .ok (.iload_n 2, 1) := by decide +kernel
theorem dJ7_fill_53178_12 : decode cJ7_fill_53178 12 = .ok (.iload_n 1, 1) := by decide +kernel
theorem dJ7_fill_53178_13 : decode cJ7_fill_53178 13 = .ok (.iastore, 1) := by decide +kernel
theorem dJ7_fill_53178_14 : decode cJ7_fill_53178 14 = .ok (.iinc 2 1, 3) := by decide +kernel
theorem dJ7_fill_53178_17 : decode cJ7_fill_53178 17 = .ok (.goto (-12), 3) := by decide +kernel
theorem dJ7_fill_53178_20 : decode cJ7_fill_53178 20 = .ok (.return_, 1) := by decide +kernel
theorem dJ7_fill_031fb_0 : decode cJ7_fill_031fb 0 = .ok (.iconst 0, 1) := by decide +kernel
theorem dJ7_fill_031fb_1 : decode cJ7_fill_031fb 1 = .ok (.istore_n 2, 1) := by decide +kernel
theorem dJ7_fill_031fb_2 : decode cJ7_fill_031fb 2 = .ok (.aload_n 0, 1) := by decide +kernel
theorem dJ7_fill_031fb_3 : decode cJ7_fill_031fb 3 = .ok (.arraylength, 1) := by decide +kernel
theorem dJ7_fill_031fb_4 : decode cJ7_fill_031fb 4 = .ok (.istore_n 3, 1) := by decide +kernel
theorem dJ7_fill_031fb_5 : decode cJ7_fill_031fb 5 = .ok (.iload_n 2, 1) := by decide +kernel
theorem dJ7_fill_031fb_6 : decode cJ7_fill_031fb 6 = .ok (.iload_n 3, 1) := by decide +kernel
theorem dJ7_fill_031fb_7 : decode cJ7_fill_031fb 7 = .ok (.if_icmp .ge 13, 3) := by decide +kernel
theorem dJ7_fill_031fb_10 : decode cJ7_fill_031fb 10 = .ok (.aload_n 0, 1) := by decide +kernel
theorem dJ7_fill_031fb_11 : decode cJ7_fill_031fb 11 = .ok (.iload_n 2, 1) := by decide +kernel
theorem dJ7_fill_031fb_12 : decode cJ7_fill_031fb 12 = .ok (.iload_n 1, 1) := by decide +kernel
theorem dJ7_fill_031fb_13 : decode cJ7_fill_031fb 13 = .ok (.bastore, 1) := by decide +kernel
theorem dJ7_fill_031fb_14 : decode cJ7_fill_031fb 14 = .ok (.iinc 2 1, 3) := by decide +kernel
theorem dJ7_fill_031fb_17 : decode cJ7_fill_031fb 17 = .ok (.goto (-12), 3) := by decide +kernel
theorem dJ7_fill_031fb_20 : decode cJ7_fill_031fb 20 = .ok (.return_, 1) := by decide +kernel
theorem dJ3_checkIndex_8e157_0 : decode cJ3_checkIndex_8e157 0 = .ok (.iload_n 0, 1) := by decide +kernel
theorem dJ3_checkIndex_8e157_1 : decode cJ3_checkIndex_8e157 1 = .ok (.ifCond .lt 8, 3) := by decide +kernel
theorem dJ3_checkIndex_8e157_4 : decode cJ3_checkIndex_8e157 4 = .ok (.iload_n 0, 1) := by decide +kernel
theorem dJ3_checkIndex_8e157_5 : decode cJ3_checkIndex_8e157 5 = .ok (.iload_n 1, 1) := by decide +kernel
theorem dJ3_checkIndex_8e157_6 : decode cJ3_checkIndex_8e157 6 = .ok (.if_icmp .lt 10, 3) := by decide +kernel
theorem dJ3_checkIndex_8e157_9 : decode cJ3_checkIndex_8e157 9 = .ok (.aload_n 2, 1) := by decide +kernel
theorem dJ3_checkIndex_8e157_10 : decode cJ3_checkIndex_8e157 10 = .ok (.iload_n 0, 1) := by decide +kernel
theorem dJ3_checkIndex_8e157_11 : decode cJ3_checkIndex_8e157 11 = .ok (.iload_n 1, 1) := by decide +kernel
theorem dJ3_checkIndex_8e157_12 : decode cJ3_checkIndex_8e157 12 = .ok (.invokestatic 95, 3) := by decide +kernel
theorem dJ3_checkIndex_8e157_15 : decode cJ3_checkIndex_8e157 15 = .ok (.athrow, 1) := by decide +kernel
theorem dJ3_checkIndex_8e157_16 : decode cJ3_checkIndex_8e157 16 = .ok (.iload_n 0, 1) := by decide +kernel
theorem dJ3_checkIndex_8e157_17 : decode cJ3_checkIndex_8e157 17 = .ok (.ireturn, 1) := by decide +kernel
theorem dL_law_0 : decode cL_law 0 = .ok (.new 7, 3) := by decide +kernel
theorem dL_law_3 : decode cL_law 3 = .ok (.dup, 1) := by decide +kernel
theorem dL_law_4 : decode cL_law 4 = .ok (.invokespecial 9, 3) := by decide +kernel
theorem dL_law_7 : decode cL_law 7 = .ok (.astore_n 1, 1) := by decide +kernel
theorem dL_law_8 : decode cL_law 8 = .ok (.new 10, 3) := by decide +kernel
theorem dL_law_11 : decode cL_law 11 = .ok (.dup, 1) := by decide +kernel
theorem dL_law_12 : decode cL_law 12 = .ok (.invokespecial 12, 3) := by decide +kernel
theorem dL_law_15 : decode cL_law 15 = .ok (.astore_n 2, 1) := by decide +kernel
theorem dL_law_16 : decode cL_law 16 = .ok (.iconst 0, 1) := by decide +kernel
theorem dL_law_17 : decode cL_law 17 = .ok (.istore_n 3, 1) := by decide +kernel
theorem dL_law_18 : decode cL_law 18 = .ok (.iload_n 3, 1) := by decide +kernel
theorem dL_law_19 : decode cL_law 19 = .ok (.aload_n 0, 1) := by decide +kernel
theorem dL_law_20 : decode cL_law 20 = .ok (.arraylength, 1) := by decide +kernel
theorem dL_law_21 : decode cL_law 21 = .ok (.bipush 6, 2) := by decide +kernel
theorem dL_law_23 : decode cL_law 23 = .ok (.isub, 1) := by decide +kernel
theorem dL_law_24 : decode cL_law 24 = .ok (.if_icmp .gt 1111, 3) := by decide +kernel
theorem dL_law_27 : decode cL_law 27 = .ok (.aload_n 0, 1) := by decide +kernel
theorem dL_law_28 : decode cL_law 28 = .ok (.iload_n 3, 1) := by decide +kernel
theorem dL_law_29 : decode cL_law 29 = .ok (.iaload, 1) := by decide +kernel
theorem dL_law_30 : decode cL_law 30 = .ok (.bipush 63, 2) := by decide +kernel
theorem dL_law_32 : decode cL_law 32 = .ok (.iand, 1) := by decide +kernel
theorem dL_law_33 : decode cL_law 33 = .ok (.tableswitch 1096 0 33 #[151, 214, 237, 250, 263, 296, 339, 352, 385, 418, 451, 474, 497, 520, 533, 557, 580, 603, 626, 639, 662, 685, 718, 767, 780, 819, 852, 885, 938, 971, 1004, 1027, 1050, 1073], 151) := by decide +kernel
theorem dL_law_184 : decode cL_law 184 = .ok (.aload_n 1, 1) := by decide +kernel
theorem dL_law_185 : decode cL_law 185 = .ok (.aload_n 0, 1) := by decide +kernel
theorem dL_law_186 : decode cL_law 186 = .ok (.iload_n 3, 1) := by decide +kernel
theorem dL_law_187 : decode cL_law 187 = .ok (.iconst 1, 1) := by decide +kernel
theorem dL_law_188 : decode cL_law 188 = .ok (.iadd, 1) := by decide +kernel
theorem dL_law_189 : decode cL_law 189 = .ok (.iaload, 1) := by decide +kernel
theorem dL_law_190 : decode cL_law 190 = .ok (.aload_n 0, 1) := by decide +kernel
theorem dL_law_191 : decode cL_law 191 = .ok (.iload_n 3, 1) := by decide +kernel
theorem dL_law_192 : decode cL_law 192 = .ok (.iconst 2, 1) := by decide +kernel
theorem dL_law_193 : decode cL_law 193 = .ok (.iadd, 1) := by decide +kernel
theorem dL_law_194 : decode cL_law 194 = .ok (.iaload, 1) := by decide +kernel
theorem dL_law_195 : decode cL_law 195 = .ok (.aload_n 0, 1) := by decide +kernel
theorem dL_law_196 : decode cL_law 196 = .ok (.iload_n 3, 1) := by decide +kernel
theorem dL_law_197 : decode cL_law 197 = .ok (.iconst 3, 1) := by decide +kernel
theorem dL_law_198 : decode cL_law 198 = .ok (.iadd, 1) := by decide +kernel
theorem dL_law_199 : decode cL_law 199 = .ok (.iaload, 1) := by decide +kernel
theorem dL_law_200 : decode cL_law 200 = .ok (.aload_n 0, 1) := by decide +kernel
theorem dL_law_201 : decode cL_law 201 = .ok (.iload_n 3, 1) := by decide +kernel
theorem dL_law_202 : decode cL_law 202 = .ok (.iconst 4, 1) := by decide +kernel
theorem dL_law_203 : decode cL_law 203 = .ok (.iadd, 1) := by decide +kernel
theorem dL_law_204 : decode cL_law 204 = .ok (.iaload, 1) := by decide +kernel
theorem dL_law_205 : decode cL_law 205 = .ok (.aload_n 0, 1) := by decide +kernel
theorem dL_law_206 : decode cL_law 206 = .ok (.iload_n 3, 1) := by decide +kernel
theorem dL_law_207 : decode cL_law 207 = .ok (.iconst 5, 1) := by decide +kernel
theorem dL_law_208 : decode cL_law 208 = .ok (.iadd, 1) := by decide +kernel
theorem dL_law_209 : decode cL_law 209 = .ok (.iaload, 1) := by decide +kernel
theorem dL_law_210 : decode cL_law 210 = .ok (.invokevirtual 13, 3) := by decide +kernel
theorem dL_law_213 : decode cL_law 213 = .ok (.aload_n 2, 1) := by decide +kernel
theorem dL_law_214 : decode cL_law 214 = .ok (.aload_n 0, 1) := by decide +kernel
theorem dL_law_215 : decode cL_law 215 = .ok (.iload_n 3, 1) := by decide +kernel
theorem dL_law_216 : decode cL_law 216 = .ok (.iconst 1, 1) := by decide +kernel
theorem dL_law_217 : decode cL_law 217 = .ok (.iadd, 1) := by decide +kernel
theorem dL_law_218 : decode cL_law 218 = .ok (.iaload, 1) := by decide +kernel
theorem dL_law_219 : decode cL_law 219 = .ok (.aload_n 0, 1) := by decide +kernel
theorem dL_law_220 : decode cL_law 220 = .ok (.iload_n 3, 1) := by decide +kernel
theorem dL_law_221 : decode cL_law 221 = .ok (.iconst 2, 1) := by decide +kernel
theorem dL_law_222 : decode cL_law 222 = .ok (.iadd, 1) := by decide +kernel
theorem dL_law_223 : decode cL_law 223 = .ok (.iaload, 1) := by decide +kernel
theorem dL_law_224 : decode cL_law 224 = .ok (.aload_n 0, 1) := by decide +kernel
theorem dL_law_225 : decode cL_law 225 = .ok (.iload_n 3, 1) := by decide +kernel
theorem dL_law_226 : decode cL_law 226 = .ok (.iconst 3, 1) := by decide +kernel
theorem dL_law_227 : decode cL_law 227 = .ok (.iadd, 1) := by decide +kernel
theorem dL_law_228 : decode cL_law 228 = .ok (.iaload, 1) := by decide +kernel
theorem dL_law_229 : decode cL_law 229 = .ok (.aload_n 0, 1) := by decide +kernel
theorem dL_law_230 : decode cL_law 230 = .ok (.iload_n 3, 1) := by decide +kernel
theorem dL_law_231 : decode cL_law 231 = .ok (.iconst 4, 1) := by decide +kernel
theorem dL_law_232 : decode cL_law 232 = .ok (.iadd, 1) := by decide +kernel
theorem dL_law_233 : decode cL_law 233 = .ok (.iaload, 1) := by decide +kernel
theorem dL_law_234 : decode cL_law 234 = .ok (.aload_n 0, 1) := by decide +kernel
theorem dL_law_235 : decode cL_law 235 = .ok (.iload_n 3, 1) := by decide +kernel
theorem dL_law_236 : decode cL_law 236 = .ok (.iconst 5, 1) := by decide +kernel
theorem dL_law_237 : decode cL_law 237 = .ok (.iadd, 1) := by decide +kernel
theorem dL_law_238 : decode cL_law 238 = .ok (.iaload, 1) := by decide +kernel
theorem dL_law_239 : decode cL_law 239 = .ok (.invokevirtual 17, 3) := by decide +kernel
theorem dL_law_242 : decode cL_law 242 = .ok (.if_icmp .eq 887, 3) := by decide +kernel
theorem dL_law_245 : decode cL_law 245 = .ok (.iconst 0, 1) := by decide +kernel
theorem dL_law_246 : decode cL_law 246 = .ok (.ireturn, 1) := by decide +kernel
theorem dL_law_247 : decode cL_law 247 = .ok (.aload_n 1, 1) := by decide +kernel
theorem dL_law_248 : decode cL_law 248 = .ok (.aload_n 0, 1) := by decide +kernel
theorem dL_law_249 : decode cL_law 249 = .ok (.iload_n 3, 1) := by decide +kernel
theorem dL_law_250 : decode cL_law 250 = .ok (.iconst 1, 1) := by decide +kernel
theorem dL_law_251 : decode cL_law 251 = .ok (.iadd, 1) := by decide +kernel
theorem dL_law_252 : decode cL_law 252 = .ok (.iaload, 1) := by decide +kernel
theorem dL_law_253 : decode cL_law 253 = .ok (.invokevirtual 18, 3) := by decide +kernel
theorem dL_law_256 : decode cL_law 256 = .ok (.aload_n 2, 1) := by decide +kernel
theorem dL_law_257 : decode cL_law 257 = .ok (.aload_n 0, 1) := by decide +kernel
theorem dL_law_258 : decode cL_law 258 = .ok (.iload_n 3, 1) := by decide +kernel
theorem dL_law_259 : decode cL_law 259 = .ok (.iconst 1, 1) := by decide +kernel
theorem dL_law_260 : decode cL_law 260 = .ok (.iadd, 1) := by decide +kernel
theorem dL_law_261 : decode cL_law 261 = .ok (.iaload, 1) := by decide +kernel
theorem dL_law_262 : decode cL_law 262 = .ok (.invokevirtual 22, 3) := by decide +kernel
theorem dL_law_265 : decode cL_law 265 = .ok (.if_icmp .eq 864, 3) := by decide +kernel
theorem dL_law_268 : decode cL_law 268 = .ok (.iconst 0, 1) := by decide +kernel
theorem dL_law_269 : decode cL_law 269 = .ok (.ireturn, 1) := by decide +kernel
theorem dL_law_270 : decode cL_law 270 = .ok (.aload_n 1, 1) := by decide +kernel
theorem dL_law_271 : decode cL_law 271 = .ok (.invokevirtual 23, 3) := by decide +kernel
theorem dL_law_274 : decode cL_law 274 = .ok (.aload_n 2, 1) := by decide +kernel
theorem dL_law_275 : decode cL_law 275 = .ok (.invokevirtual 27, 3) := by decide +kernel
theorem dL_law_278 : decode cL_law 278 = .ok (.if_icmp .eq 851, 3) := by decide +kernel
theorem dL_law_281 : decode cL_law 281 = .ok (.iconst 0, 1) := by decide +kernel
theorem dL_law_282 : decode cL_law 282 = .ok (.ireturn, 1) := by decide +kernel
theorem dL_law_283 : decode cL_law 283 = .ok (.aload_n 1, 1) := by decide +kernel
theorem dL_law_284 : decode cL_law 284 = .ok (.invokevirtual 28, 3) := by decide +kernel
theorem dL_law_287 : decode cL_law 287 = .ok (.aload_n 2, 1) := by decide +kernel
theorem dL_law_288 : decode cL_law 288 = .ok (.invokevirtual 31, 3) := by decide +kernel
theorem dL_law_291 : decode cL_law 291 = .ok (.if_icmp .eq 838, 3) := by decide +kernel
theorem dL_law_294 : decode cL_law 294 = .ok (.iconst 0, 1) := by decide +kernel
theorem dL_law_295 : decode cL_law 295 = .ok (.ireturn, 1) := by decide +kernel
theorem dL_law_296 : decode cL_law 296 = .ok (.aload_n 1, 1) := by decide +kernel
theorem dL_law_297 : decode cL_law 297 = .ok (.aload_n 0, 1) := by decide +kernel
theorem dL_law_298 : decode cL_law 298 = .ok (.iload_n 3, 1) := by decide +kernel
theorem dL_law_299 : decode cL_law 299 = .ok (.iconst 1, 1) := by decide +kernel
theorem dL_law_300 : decode cL_law 300 = .ok (.iadd, 1) := by decide +kernel
theorem dL_law_301 : decode cL_law 301 = .ok (.iaload, 1) := by decide +kernel
theorem dL_law_302 : decode cL_law 302 = .ok (.aload_n 0, 1) := by decide +kernel
theorem dL_law_303 : decode cL_law 303 = .ok (.iload_n 3, 1) := by decide +kernel
theorem dL_law_304 : decode cL_law 304 = .ok (.iconst 2, 1) := by decide +kernel
theorem dL_law_305 : decode cL_law 305 = .ok (.iadd, 1) := by decide +kernel
theorem dL_law_306 : decode cL_law 306 = .ok (.iaload, 1) := by decide +kernel
theorem dL_law_307 : decode cL_law 307 = .ok (.invokevirtual 32, 3) := by decide +kernel
theorem dL_law_310 : decode cL_law 310 = .ok (.aload_n 2, 1) := by decide +kernel
theorem dL_law_311 : decode cL_law 311 = .ok (.aload_n 0, 1) := by decide +kernel
theorem dL_law_312 : decode cL_law 312 = .ok (.iload_n 3, 1) := by decide +kernel
theorem dL_law_313 : decode cL_law 313 = .ok (.iconst 1, 1) := by decide +kernel
theorem dL_law_314 : decode cL_law 314 = .ok (.iadd, 1) := by decide +kernel
theorem dL_law_315 : decode cL_law 315 = .ok (.iaload, 1) := by decide +kernel
theorem dL_law_316 : decode cL_law 316 = .ok (.aload_n 0, 1) := by decide +kernel
theorem dL_law_317 : decode cL_law 317 = .ok (.iload_n 3, 1) := by decide +kernel
theorem dL_law_318 : decode cL_law 318 = .ok (.iconst 2, 1) := by decide +kernel
theorem dL_law_319 : decode cL_law 319 = .ok (.iadd, 1) := by decide +kernel
theorem dL_law_320 : decode cL_law 320 = .ok (.iaload, 1) := by decide +kernel
theorem dL_law_321 : decode cL_law 321 = .ok (.invokevirtual 36, 3) := by decide +kernel
theorem dL_law_324 : decode cL_law 324 = .ok (.if_icmp .eq 805, 3) := by decide +kernel
theorem dL_law_327 : decode cL_law 327 = .ok (.iconst 0, 1) := by decide +kernel
theorem dL_law_328 : decode cL_law 328 = .ok (.ireturn, 1) := by decide +kernel
theorem dL_law_329 : decode cL_law 329 = .ok (.aload_n 1, 1) := by decide +kernel
theorem dL_law_330 : decode cL_law 330 = .ok (.aload_n 0, 1) := by decide +kernel
theorem dL_law_331 : decode cL_law 331 = .ok (.iload_n 3, 1) := by decide +kernel
theorem dL_law_332 : decode cL_law 332 = .ok (.iconst 1, 1) := by decide +kernel
theorem dL_law_333 : decode cL_law 333 = .ok (.iadd, 1) := by decide +kernel
theorem dL_law_334 : decode cL_law 334 = .ok (.iaload, 1) := by decide +kernel
theorem dL_law_335 : decode cL_law 335 = .ok (.aload_n 0, 1) := by decide +kernel
theorem dL_law_336 : decode cL_law 336 = .ok (.iload_n 3, 1) := by decide +kernel
theorem dL_law_337 : decode cL_law 337 = .ok (.iconst 2, 1) := by decide +kernel
theorem dL_law_338 : decode cL_law 338 = .ok (.iadd, 1) := by decide +kernel
theorem dL_law_339 : decode cL_law 339 = .ok (.iaload, 1) := by decide +kernel
theorem dL_law_340 : decode cL_law 340 = .ok (.aload_n 0, 1) := by decide +kernel
theorem dL_law_341 : decode cL_law 341 = .ok (.iload_n 3, 1) := by decide +kernel
theorem dL_law_342 : decode cL_law 342 = .ok (.iconst 3, 1) := by decide +kernel
theorem dL_law_343 : decode cL_law 343 = .ok (.iadd, 1) := by decide +kernel
theorem dL_law_344 : decode cL_law 344 = .ok (.iaload, 1) := by decide +kernel
theorem dL_law_345 : decode cL_law 345 = .ok (.invokevirtual 37, 3) := by decide +kernel
theorem dL_law_348 : decode cL_law 348 = .ok (.aload_n 2, 1) := by decide +kernel
theorem dL_law_349 : decode cL_law 349 = .ok (.aload_n 0, 1) := by decide +kernel
theorem dL_law_350 : decode cL_law 350 = .ok (.iload_n 3, 1) := by decide +kernel
theorem dL_law_351 : decode cL_law 351 = .ok (.iconst 1, 1) := by decide +kernel
theorem dL_law_352 : decode cL_law 352 = .ok (.iadd, 1) := by decide +kernel
theorem dL_law_353 : decode cL_law 353 = .ok (.iaload, 1) := by decide +kernel
theorem dL_law_354 : decode cL_law 354 = .ok (.aload_n 0, 1) := by decide +kernel
theorem dL_law_355 : decode cL_law 355 = .ok (.iload_n 3, 1) := by decide +kernel
theorem dL_law_356 : decode cL_law 356 = .ok (.iconst 2, 1) := by decide +kernel
theorem dL_law_357 : decode cL_law 357 = .ok (.iadd, 1) := by decide +kernel
theorem dL_law_358 : decode cL_law 358 = .ok (.iaload, 1) := by decide +kernel
theorem dL_law_359 : decode cL_law 359 = .ok (.aload_n 0, 1) := by decide +kernel
theorem dL_law_360 : decode cL_law 360 = .ok (.iload_n 3, 1) := by decide +kernel
theorem dL_law_361 : decode cL_law 361 = .ok (.iconst 3, 1) := by decide +kernel
theorem dL_law_362 : decode cL_law 362 = .ok (.iadd, 1) := by decide +kernel
theorem dL_law_363 : decode cL_law 363 = .ok (.iaload, 1) := by decide +kernel
theorem dL_law_364 : decode cL_law 364 = .ok (.invokevirtual 41, 3) := by decide +kernel
theorem dL_law_367 : decode cL_law 367 = .ok (.if_icmp .eq 762, 3) := by decide +kernel
theorem dL_law_370 : decode cL_law 370 = .ok (.iconst 0, 1) := by decide +kernel
theorem dL_law_371 : decode cL_law 371 = .ok (.ireturn, 1) := by decide +kernel
theorem dL_law_372 : decode cL_law 372 = .ok (.aload_n 1, 1) := by decide +kernel
theorem dL_law_373 : decode cL_law 373 = .ok (.invokevirtual 42, 3) := by decide +kernel
theorem dL_law_376 : decode cL_law 376 = .ok (.aload_n 2, 1) := by decide +kernel
theorem dL_law_377 : decode cL_law 377 = .ok (.invokevirtual 46, 3) := by decide +kernel
theorem dL_law_380 : decode cL_law 380 = .ok (.if_icmp .eq 749, 3) := by decide +kernel
theorem dL_law_383 : decode cL_law 383 = .ok (.iconst 0, 1) := by decide +kernel
theorem dL_law_384 : decode cL_law 384 = .ok (.ireturn, 1) := by decide +kernel
theorem dL_law_385 : decode cL_law 385 = .ok (.aload_n 1, 1) := by decide +kernel
theorem dL_law_386 : decode cL_law 386 = .ok (.aload_n 0, 1) := by decide +kernel
theorem dL_law_387 : decode cL_law 387 = .ok (.iload_n 3, 1) := by decide +kernel
theorem dL_law_388 : decode cL_law 388 = .ok (.iconst 1, 1) := by decide +kernel
theorem dL_law_389 : decode cL_law 389 = .ok (.iadd, 1) := by decide +kernel
theorem dL_law_390 : decode cL_law 390 = .ok (.iaload, 1) := by decide +kernel
theorem dL_law_391 : decode cL_law 391 = .ok (.aload_n 0, 1) := by decide +kernel
theorem dL_law_392 : decode cL_law 392 = .ok (.iload_n 3, 1) := by decide +kernel
theorem dL_law_393 : decode cL_law 393 = .ok (.iconst 2, 1) := by decide +kernel
theorem dL_law_394 : decode cL_law 394 = .ok (.iadd, 1) := by decide +kernel
theorem dL_law_395 : decode cL_law 395 = .ok (.iaload, 1) := by decide +kernel
theorem dL_law_396 : decode cL_law 396 = .ok (.invokevirtual 47, 3) := by decide +kernel
theorem dL_law_399 : decode cL_law 399 = .ok (.aload_n 2, 1) := by decide +kernel
theorem dL_law_400 : decode cL_law 400 = .ok (.aload_n 0, 1) := by decide +kernel
theorem dL_law_401 : decode cL_law 401 = .ok (.iload_n 3, 1) := by decide +kernel
theorem dL_law_402 : decode cL_law 402 = .ok (.iconst 1, 1) := by decide +kernel
theorem dL_law_403 : decode cL_law 403 = .ok (.iadd, 1) := by decide +kernel
theorem dL_law_404 : decode cL_law 404 = .ok (.iaload, 1) := by decide +kernel
theorem dL_law_405 : decode cL_law 405 = .ok (.aload_n 0, 1) := by decide +kernel
theorem dL_law_406 : decode cL_law 406 = .ok (.iload_n 3, 1) := by decide +kernel
theorem dL_law_407 : decode cL_law 407 = .ok (.iconst 2, 1) := by decide +kernel
theorem dL_law_408 : decode cL_law 408 = .ok (.iadd, 1) := by decide +kernel
theorem dL_law_409 : decode cL_law 409 = .ok (.iaload, 1) := by decide +kernel
theorem dL_law_410 : decode cL_law 410 = .ok (.invokevirtual 51, 3) := by decide +kernel
theorem dL_law_413 : decode cL_law 413 = .ok (.if_icmp .eq 716, 3) := by decide +kernel
theorem dL_law_416 : decode cL_law 416 = .ok (.iconst 0, 1) := by decide +kernel
theorem dL_law_417 : decode cL_law 417 = .ok (.ireturn, 1) := by decide +kernel
theorem dL_law_418 : decode cL_law 418 = .ok (.aload_n 1, 1) := by decide +kernel
theorem dL_law_419 : decode cL_law 419 = .ok (.aload_n 0, 1) := by decide +kernel
theorem dL_law_420 : decode cL_law 420 = .ok (.iload_n 3, 1) := by decide +kernel
theorem dL_law_421 : decode cL_law 421 = .ok (.iconst 1, 1) := by decide +kernel
theorem dL_law_422 : decode cL_law 422 = .ok (.iadd, 1) := by decide +kernel
theorem dL_law_423 : decode cL_law 423 = .ok (.iaload, 1) := by decide +kernel
theorem dL_law_424 : decode cL_law 424 = .ok (.aload_n 0, 1) := by decide +kernel
theorem dL_law_425 : decode cL_law 425 = .ok (.iload_n 3, 1) := by decide +kernel
theorem dL_law_426 : decode cL_law 426 = .ok (.iconst 2, 1) := by decide +kernel
theorem dL_law_427 : decode cL_law 427 = .ok (.iadd, 1) := by decide +kernel
theorem dL_law_428 : decode cL_law 428 = .ok (.iaload, 1) := by decide +kernel
theorem dL_law_429 : decode cL_law 429 = .ok (.invokevirtual 52, 3) := by decide +kernel
theorem dL_law_432 : decode cL_law 432 = .ok (.aload_n 2, 1) := by decide +kernel
theorem dL_law_433 : decode cL_law 433 = .ok (.aload_n 0, 1) := by decide +kernel
theorem dL_law_434 : decode cL_law 434 = .ok (.iload_n 3, 1) := by decide +kernel
theorem dL_law_435 : decode cL_law 435 = .ok (.iconst 1, 1) := by decide +kernel
theorem dL_law_436 : decode cL_law 436 = .ok (.iadd, 1) := by decide +kernel
theorem dL_law_437 : decode cL_law 437 = .ok (.iaload, 1) := by decide +kernel
theorem dL_law_438 : decode cL_law 438 = .ok (.aload_n 0, 1) := by decide +kernel
theorem dL_law_439 : decode cL_law 439 = .ok (.iload_n 3, 1) := by decide +kernel
theorem dL_law_440 : decode cL_law 440 = .ok (.iconst 2, 1) := by decide +kernel
theorem dL_law_441 : decode cL_law 441 = .ok (.iadd, 1) := by decide +kernel
theorem dL_law_442 : decode cL_law 442 = .ok (.iaload, 1) := by decide +kernel
theorem dL_law_443 : decode cL_law 443 = .ok (.invokevirtual 55, 3) := by decide +kernel
theorem dL_law_446 : decode cL_law 446 = .ok (.if_icmp .eq 683, 3) := by decide +kernel
theorem dL_law_449 : decode cL_law 449 = .ok (.iconst 0, 1) := by decide +kernel
theorem dL_law_450 : decode cL_law 450 = .ok (.ireturn, 1) := by decide +kernel
theorem dL_law_451 : decode cL_law 451 = .ok (.aload_n 1, 1) := by decide +kernel
theorem dL_law_452 : decode cL_law 452 = .ok (.aload_n 0, 1) := by decide +kernel
theorem dL_law_453 : decode cL_law 453 = .ok (.iload_n 3, 1) := by decide +kernel
theorem dL_law_454 : decode cL_law 454 = .ok (.iconst 1, 1) := by decide +kernel
theorem dL_law_455 : decode cL_law 455 = .ok (.iadd, 1) := by decide +kernel
theorem dL_law_456 : decode cL_law 456 = .ok (.iaload, 1) := by decide +kernel
theorem dL_law_457 : decode cL_law 457 = .ok (.aload_n 0, 1) := by decide +kernel
theorem dL_law_458 : decode cL_law 458 = .ok (.iload_n 3, 1) := by decide +kernel
theorem dL_law_459 : decode cL_law 459 = .ok (.iconst 2, 1) := by decide +kernel
theorem dL_law_460 : decode cL_law 460 = .ok (.iadd, 1) := by decide +kernel
theorem dL_law_461 : decode cL_law 461 = .ok (.iaload, 1) := by decide +kernel
theorem dL_law_462 : decode cL_law 462 = .ok (.invokevirtual 56, 3) := by decide +kernel
theorem dL_law_465 : decode cL_law 465 = .ok (.aload_n 2, 1) := by decide +kernel
theorem dL_law_466 : decode cL_law 466 = .ok (.aload_n 0, 1) := by decide +kernel
theorem dL_law_467 : decode cL_law 467 = .ok (.iload_n 3, 1) := by decide +kernel
theorem dL_law_468 : decode cL_law 468 = .ok (.iconst 1, 1) := by decide +kernel
theorem dL_law_469 : decode cL_law 469 = .ok (.iadd, 1) := by decide +kernel
theorem dL_law_470 : decode cL_law 470 = .ok (.iaload, 1) := by decide +kernel
theorem dL_law_471 : decode cL_law 471 = .ok (.aload_n 0, 1) := by decide +kernel
theorem dL_law_472 : decode cL_law 472 = .ok (.iload_n 3, 1) := by decide +kernel
theorem dL_law_473 : decode cL_law 473 = .ok (.iconst 2, 1) := by decide +kernel
theorem dL_law_474 : decode cL_law 474 = .ok (.iadd, 1) := by decide +kernel
theorem dL_law_475 : decode cL_law 475 = .ok (.iaload, 1) := by decide +kernel
theorem dL_law_476 : decode cL_law 476 = .ok (.invokevirtual 59, 3) := by decide +kernel
theorem dL_law_479 : decode cL_law 479 = .ok (.if_icmp .eq 650, 3) := by decide +kernel
theorem dL_law_482 : decode cL_law 482 = .ok (.iconst 0, 1) := by decide +kernel
theorem dL_law_483 : decode cL_law 483 = .ok (.ireturn, 1) := by decide +kernel
theorem dL_law_484 : decode cL_law 484 = .ok (.aload_n 1, 1) := by decide +kernel
theorem dL_law_485 : decode cL_law 485 = .ok (.aload_n 0, 1) := by decide +kernel
theorem dL_law_486 : decode cL_law 486 = .ok (.iload_n 3, 1) := by decide +kernel
theorem dL_law_487 : decode cL_law 487 = .ok (.iconst 1, 1) := by decide +kernel
theorem dL_law_488 : decode cL_law 488 = .ok (.iadd, 1) := by decide +kernel
theorem dL_law_489 : decode cL_law 489 = .ok (.iaload, 1) := by decide +kernel
theorem dL_law_490 : decode cL_law 490 = .ok (.invokevirtual 60, 3) := by decide +kernel
theorem dL_law_493 : decode cL_law 493 = .ok (.aload_n 2, 1) := by decide +kernel
theorem dL_law_494 : decode cL_law 494 = .ok (.aload_n 0, 1) := by decide +kernel
theorem dL_law_495 : decode cL_law 495 = .ok (.iload_n 3, 1) := by decide +kernel
theorem dL_law_496 : decode cL_law 496 = .ok (.iconst 1, 1) := by decide +kernel
theorem dL_law_497 : decode cL_law 497 = .ok (.iadd, 1) := by decide +kernel
theorem dL_law_498 : decode cL_law 498 = .ok (.iaload, 1) := by decide +kernel
theorem dL_law_499 : decode cL_law 499 = .ok (.invokevirtual 63, 3) := by decide +kernel
theorem dL_law_502 : decode cL_law 502 = .ok (.if_icmp .eq 627, 3) := by decide +kernel
theorem dL_law_505 : decode cL_law 505 = .ok (.iconst 0, 1) := by decide +kernel
theorem dL_law_506 : decode cL_law 506 = .ok (.ireturn, 1) := by decide +kernel
theorem dL_law_507 : decode cL_law 507 = .ok (.aload_n 1, 1) := by decide +kernel
theorem dL_law_508 : decode cL_law 508 = .ok (.aload_n 0, 1) := by decide +kernel
theorem dL_law_509 : decode cL_law 509 = .ok (.iload_n 3, 1) := by decide +kernel
theorem dL_law_510 : decode cL_law 510 = .ok (.iconst 1, 1) := by decide +kernel
theorem dL_law_511 : decode cL_law 511 = .ok (.iadd, 1) := by decide +kernel
theorem dL_law_512 : decode cL_law 512 = .ok (.iaload, 1) := by decide +kernel
theorem dL_law_513 : decode cL_law 513 = .ok (.invokevirtual 64, 3) := by decide +kernel
theorem dL_law_516 : decode cL_law 516 = .ok (.aload_n 2, 1) := by decide +kernel
theorem dL_law_517 : decode cL_law 517 = .ok (.aload_n 0, 1) := by decide +kernel
theorem dL_law_518 : decode cL_law 518 = .ok (.iload_n 3, 1) := by decide +kernel
theorem dL_law_519 : decode cL_law 519 = .ok (.iconst 1, 1) := by decide +kernel
theorem dL_law_520 : decode cL_law 520 = .ok (.iadd, 1) := by decide +kernel
theorem dL_law_521 : decode cL_law 521 = .ok (.iaload, 1) := by decide +kernel
theorem dL_law_522 : decode cL_law 522 = .ok (.invokevirtual 67, 3) := by decide +kernel
theorem dL_law_525 : decode cL_law 525 = .ok (.if_icmp .eq 604, 3) := by decide +kernel
theorem dL_law_528 : decode cL_law 528 = .ok (.iconst 0, 1) := by decide +kernel
theorem dL_law_529 : decode cL_law 529 = .ok (.ireturn, 1) := by decide +kernel
theorem dL_law_530 : decode cL_law 530 = .ok (.aload_n 1, 1) := by decide +kernel
theorem dL_law_531 : decode cL_law 531 = .ok (.aload_n 0, 1) := by decide +kernel
theorem dL_law_532 : decode cL_law 532 = .ok (.iload_n 3, 1) := by decide +kernel
theorem dL_law_533 : decode cL_law 533 = .ok (.iconst 1, 1) := by decide +kernel
theorem dL_law_534 : decode cL_law 534 = .ok (.iadd, 1) := by decide +kernel
theorem dL_law_535 : decode cL_law 535 = .ok (.iaload, 1) := by decide +kernel
theorem dL_law_536 : decode cL_law 536 = .ok (.invokevirtual 68, 3) := by decide +kernel
theorem dL_law_539 : decode cL_law 539 = .ok (.aload_n 2, 1) := by decide +kernel
theorem dL_law_540 : decode cL_law 540 = .ok (.aload_n 0, 1) := by decide +kernel
theorem dL_law_541 : decode cL_law 541 = .ok (.iload_n 3, 1) := by decide +kernel
theorem dL_law_542 : decode cL_law 542 = .ok (.iconst 1, 1) := by decide +kernel
theorem dL_law_543 : decode cL_law 543 = .ok (.iadd, 1) := by decide +kernel
theorem dL_law_544 : decode cL_law 544 = .ok (.iaload, 1) := by decide +kernel
theorem dL_law_545 : decode cL_law 545 = .ok (.invokevirtual 71, 3) := by decide +kernel
theorem dL_law_548 : decode cL_law 548 = .ok (.if_icmp .eq 581, 3) := by decide +kernel
theorem dL_law_551 : decode cL_law 551 = .ok (.iconst 0, 1) := by decide +kernel
theorem dL_law_552 : decode cL_law 552 = .ok (.ireturn, 1) := by decide +kernel
theorem dL_law_553 : decode cL_law 553 = .ok (.aload_n 1, 1) := by decide +kernel
theorem dL_law_554 : decode cL_law 554 = .ok (.invokevirtual 72, 3) := by decide +kernel
theorem dL_law_557 : decode cL_law 557 = .ok (.aload_n 2, 1) := by decide +kernel
theorem dL_law_558 : decode cL_law 558 = .ok (.invokevirtual 75, 3) := by decide +kernel
theorem dL_law_561 : decode cL_law 561 = .ok (.if_icmp .eq 568, 3) := by decide +kernel
theorem dL_law_564 : decode cL_law 564 = .ok (.iconst 0, 1) := by decide +kernel
theorem dL_law_565 : decode cL_law 565 = .ok (.ireturn, 1) := by decide +kernel
theorem dL_law_566 : decode cL_law 566 = .ok (.aload_n 1, 1) := by decide +kernel
theorem dL_law_567 : decode cL_law 567 = .ok (.aload_n 0, 1) := by decide +kernel
theorem dL_law_568 : decode cL_law 568 = .ok (.iload_n 3, 1) := by decide +kernel
theorem dL_law_569 : decode cL_law 569 = .ok (.iconst 1, 1) := by decide +kernel
theorem dL_law_570 : decode cL_law 570 = .ok (.iadd, 1) := by decide +kernel
theorem dL_law_571 : decode cL_law 571 = .ok (.iaload, 1) := by decide +kernel
theorem dL_law_572 : decode cL_law 572 = .ok (.invokevirtual 76, 3) := by decide +kernel
theorem dL_law_575 : decode cL_law 575 = .ok (.aload_n 2, 1) := by decide +kernel
theorem dL_law_576 : decode cL_law 576 = .ok (.aload_n 0, 1) := by decide +kernel
theorem dL_law_577 : decode cL_law 577 = .ok (.iload_n 3, 1) := by decide +kernel
theorem dL_law_578 : decode cL_law 578 = .ok (.iconst 1, 1) := by decide +kernel
theorem dL_law_579 : decode cL_law 579 = .ok (.iadd, 1) := by decide +kernel
theorem dL_law_580 : decode cL_law 580 = .ok (.iaload, 1) := by decide +kernel
theorem dL_law_581 : decode cL_law 581 = .ok (.invokevirtual 80, 3) := by decide +kernel
theorem dL_law_584 : decode cL_law 584 = .ok (.lcmp, 1) := by decide +kernel
theorem dL_law_585 : decode cL_law 585 = .ok (.ifCond .eq 544, 3) := by decide +kernel
theorem dL_law_588 : decode cL_law 588 = .ok (.iconst 0, 1) := by decide +kernel
theorem dL_law_589 : decode cL_law 589 = .ok (.ireturn, 1) := by decide +kernel
theorem dL_law_590 : decode cL_law 590 = .ok (.aload_n 1, 1) := by decide +kernel
theorem dL_law_591 : decode cL_law 591 = .ok (.aload_n 0, 1) := by decide +kernel
theorem dL_law_592 : decode cL_law 592 = .ok (.iload_n 3, 1) := by decide +kernel
theorem dL_law_593 : decode cL_law 593 = .ok (.iconst 1, 1) := by decide +kernel
theorem dL_law_594 : decode cL_law 594 = .ok (.iadd, 1) := by decide +kernel
theorem dL_law_595 : decode cL_law 595 = .ok (.iaload, 1) := by decide +kernel
theorem dL_law_596 : decode cL_law 596 = .ok (.invokevirtual 81, 3) := by decide +kernel
theorem dL_law_599 : decode cL_law 599 = .ok (.aload_n 2, 1) := by decide +kernel
theorem dL_law_600 : decode cL_law 600 = .ok (.aload_n 0, 1) := by decide +kernel
theorem dL_law_601 : decode cL_law 601 = .ok (.iload_n 3, 1) := by decide +kernel
theorem dL_law_602 : decode cL_law 602 = .ok (.iconst 1, 1) := by decide +kernel
theorem dL_law_603 : decode cL_law 603 = .ok (.iadd, 1) := by decide +kernel
theorem dL_law_604 : decode cL_law 604 = .ok (.iaload, 1) := by decide +kernel
theorem dL_law_605 : decode cL_law 605 = .ok (.invokevirtual 84, 3) := by decide +kernel
theorem dL_law_608 : decode cL_law 608 = .ok (.if_icmp .eq 521, 3) := by decide +kernel
theorem dL_law_611 : decode cL_law 611 = .ok (.iconst 0, 1) := by decide +kernel
theorem dL_law_612 : decode cL_law 612 = .ok (.ireturn, 1) := by decide +kernel
theorem dL_law_613 : decode cL_law 613 = .ok (.aload_n 1, 1) := by decide +kernel
theorem dL_law_614 : decode cL_law 614 = .ok (.aload_n 0, 1) := by decide +kernel
theorem dL_law_615 : decode cL_law 615 = .ok (.iload_n 3, 1) := by decide +kernel
theorem dL_law_616 : decode cL_law 616 = .ok (.iconst 1, 1) := by decide +kernel
theorem dL_law_617 : decode cL_law 617 = .ok (.iadd, 1) := by decide +kernel
theorem dL_law_618 : decode cL_law 618 = .ok (.iaload, 1) := by decide +kernel
theorem dL_law_619 : decode cL_law 619 = .ok (.invokevirtual 85, 3) := by decide +kernel
theorem dL_law_622 : decode cL_law 622 = .ok (.aload_n 2, 1) := by decide +kernel
theorem dL_law_623 : decode cL_law 623 = .ok (.aload_n 0, 1) := by decide +kernel
theorem dL_law_624 : decode cL_law 624 = .ok (.iload_n 3, 1) := by decide +kernel
theorem dL_law_625 : decode cL_law 625 = .ok (.iconst 1, 1) := by decide +kernel
theorem dL_law_626 : decode cL_law 626 = .ok (.iadd, 1) := by decide +kernel
theorem dL_law_627 : decode cL_law 627 = .ok (.iaload, 1) := by decide +kernel
theorem dL_law_628 : decode cL_law 628 = .ok (.invokevirtual 88, 3) := by decide +kernel
theorem dL_law_631 : decode cL_law 631 = .ok (.if_icmp .eq 498, 3) := by decide +kernel
theorem dL_law_634 : decode cL_law 634 = .ok (.iconst 0, 1) := by decide +kernel
theorem dL_law_635 : decode cL_law 635 = .ok (.ireturn, 1) := by decide +kernel
theorem dL_law_636 : decode cL_law 636 = .ok (.aload_n 1, 1) := by decide +kernel
theorem dL_law_637 : decode cL_law 637 = .ok (.aload_n 0, 1) := by decide +kernel
theorem dL_law_638 : decode cL_law 638 = .ok (.iload_n 3, 1) := by decide +kernel
theorem dL_law_639 : decode cL_law 639 = .ok (.iconst 1, 1) := by decide +kernel
theorem dL_law_640 : decode cL_law 640 = .ok (.iadd, 1) := by decide +kernel
theorem dL_law_641 : decode cL_law 641 = .ok (.iaload, 1) := by decide +kernel
theorem dL_law_642 : decode cL_law 642 = .ok (.invokevirtual 89, 3) := by decide +kernel
theorem dL_law_645 : decode cL_law 645 = .ok (.aload_n 2, 1) := by decide +kernel
theorem dL_law_646 : decode cL_law 646 = .ok (.aload_n 0, 1) := by decide +kernel
theorem dL_law_647 : decode cL_law 647 = .ok (.iload_n 3, 1) := by decide +kernel
theorem dL_law_648 : decode cL_law 648 = .ok (.iconst 1, 1) := by decide +kernel
theorem dL_law_649 : decode cL_law 649 = .ok (.iadd, 1) := by decide +kernel
theorem dL_law_650 : decode cL_law 650 = .ok (.iaload, 1) := by decide +kernel
theorem dL_law_651 : decode cL_law 651 = .ok (.invokevirtual 92, 3) := by decide +kernel
theorem dL_law_654 : decode cL_law 654 = .ok (.if_icmp .eq 475, 3) := by decide +kernel
theorem dL_law_657 : decode cL_law 657 = .ok (.iconst 0, 1) := by decide +kernel
theorem dL_law_658 : decode cL_law 658 = .ok (.ireturn, 1) := by decide +kernel
theorem dL_law_659 : decode cL_law 659 = .ok (.aload_n 1, 1) := by decide +kernel
theorem dL_law_660 : decode cL_law 660 = .ok (.invokevirtual 93, 3) := by decide +kernel
theorem dL_law_663 : decode cL_law 663 = .ok (.aload_n 2, 1) := by decide +kernel
theorem dL_law_664 : decode cL_law 664 = .ok (.invokevirtual 96, 3) := by decide +kernel
theorem dL_law_667 : decode cL_law 667 = .ok (.if_icmp .eq 462, 3) := by decide +kernel
theorem dL_law_670 : decode cL_law 670 = .ok (.iconst 0, 1) := by decide +kernel
theorem dL_law_671 : decode cL_law 671 = .ok (.ireturn, 1) := by decide +kernel
theorem dL_law_672 : decode cL_law 672 = .ok (.aload_n 1, 1) := by decide +kernel
theorem dL_law_673 : decode cL_law 673 = .ok (.aload_n 0, 1) := by decide +kernel
theorem dL_law_674 : decode cL_law 674 = .ok (.iload_n 3, 1) := by decide +kernel
theorem dL_law_675 : decode cL_law 675 = .ok (.iconst 1, 1) := by decide +kernel
theorem dL_law_676 : decode cL_law 676 = .ok (.iadd, 1) := by decide +kernel
theorem dL_law_677 : decode cL_law 677 = .ok (.iaload, 1) := by decide +kernel
theorem dL_law_678 : decode cL_law 678 = .ok (.invokevirtual 97, 3) := by decide +kernel
theorem dL_law_681 : decode cL_law 681 = .ok (.aload_n 2, 1) := by decide +kernel
theorem dL_law_682 : decode cL_law 682 = .ok (.aload_n 0, 1) := by decide +kernel
theorem dL_law_683 : decode cL_law 683 = .ok (.iload_n 3, 1) := by decide +kernel
theorem dL_law_684 : decode cL_law 684 = .ok (.iconst 1, 1) := by decide +kernel
theorem dL_law_685 : decode cL_law 685 = .ok (.iadd, 1) := by decide +kernel
theorem dL_law_686 : decode cL_law 686 = .ok (.iaload, 1) := by decide +kernel
theorem dL_law_687 : decode cL_law 687 = .ok (.invokevirtual 100, 3) := by decide +kernel
theorem dL_law_690 : decode cL_law 690 = .ok (.if_icmp .eq 439, 3) := by decide +kernel
theorem dL_law_693 : decode cL_law 693 = .ok (.iconst 0, 1) := by decide +kernel
theorem dL_law_694 : decode cL_law 694 = .ok (.ireturn, 1) := by decide +kernel
theorem dL_law_695 : decode cL_law 695 = .ok (.aload_n 1, 1) := by decide +kernel
theorem dL_law_696 : decode cL_law 696 = .ok (.aload_n 0, 1) := by decide +kernel
theorem dL_law_697 : decode cL_law 697 = .ok (.iload_n 3, 1) := by decide +kernel
theorem dL_law_698 : decode cL_law 698 = .ok (.iconst 1, 1) := by decide +kernel
theorem dL_law_699 : decode cL_law 699 = .ok (.iadd, 1) := by decide +kernel
theorem dL_law_700 : decode cL_law 700 = .ok (.iaload, 1) := by decide +kernel
theorem dL_law_701 : decode cL_law 701 = .ok (.invokevirtual 101, 3) := by decide +kernel
theorem dL_law_704 : decode cL_law 704 = .ok (.aload_n 2, 1) := by decide +kernel
theorem dL_law_705 : decode cL_law 705 = .ok (.aload_n 0, 1) := by decide +kernel
theorem dL_law_706 : decode cL_law 706 = .ok (.iload_n 3, 1) := by decide +kernel
theorem dL_law_707 : decode cL_law 707 = .ok (.iconst 1, 1) := by decide +kernel
theorem dL_law_708 : decode cL_law 708 = .ok (.iadd, 1) := by decide +kernel
theorem dL_law_709 : decode cL_law 709 = .ok (.iaload, 1) := by decide +kernel
theorem dL_law_710 : decode cL_law 710 = .ok (.invokevirtual 104, 3) := by decide +kernel
theorem dL_law_713 : decode cL_law 713 = .ok (.if_icmp .eq 416, 3) := by decide +kernel
theorem dL_law_716 : decode cL_law 716 = .ok (.iconst 0, 1) := by decide +kernel
theorem dL_law_717 : decode cL_law 717 = .ok (.ireturn, 1) := by decide +kernel
theorem dL_law_718 : decode cL_law 718 = .ok (.aload_n 1, 1) := by decide +kernel
theorem dL_law_719 : decode cL_law 719 = .ok (.aload_n 0, 1) := by decide +kernel
theorem dL_law_720 : decode cL_law 720 = .ok (.iload_n 3, 1) := by decide +kernel
theorem dL_law_721 : decode cL_law 721 = .ok (.iconst 1, 1) := by decide +kernel
theorem dL_law_722 : decode cL_law 722 = .ok (.iadd, 1) := by decide +kernel
theorem dL_law_723 : decode cL_law 723 = .ok (.iaload, 1) := by decide +kernel
theorem dL_law_724 : decode cL_law 724 = .ok (.aload_n 0, 1) := by decide +kernel
theorem dL_law_725 : decode cL_law 725 = .ok (.iload_n 3, 1) := by decide +kernel
theorem dL_law_726 : decode cL_law 726 = .ok (.iconst 2, 1) := by decide +kernel
theorem dL_law_727 : decode cL_law 727 = .ok (.iadd, 1) := by decide +kernel
theorem dL_law_728 : decode cL_law 728 = .ok (.iaload, 1) := by decide +kernel
theorem dL_law_729 : decode cL_law 729 = .ok (.invokevirtual 105, 3) := by decide +kernel
theorem dL_law_732 : decode cL_law 732 = .ok (.aload_n 2, 1) := by decide +kernel
theorem dL_law_733 : decode cL_law 733 = .ok (.aload_n 0, 1) := by decide +kernel
theorem dL_law_734 : decode cL_law 734 = .ok (.iload_n 3, 1) := by decide +kernel
theorem dL_law_735 : decode cL_law 735 = .ok (.iconst 1, 1) := by decide +kernel
theorem dL_law_736 : decode cL_law 736 = .ok (.iadd, 1) := by decide +kernel
theorem dL_law_737 : decode cL_law 737 = .ok (.iaload, 1) := by decide +kernel
theorem dL_law_738 : decode cL_law 738 = .ok (.aload_n 0, 1) := by decide +kernel
theorem dL_law_739 : decode cL_law 739 = .ok (.iload_n 3, 1) := by decide +kernel
theorem dL_law_740 : decode cL_law 740 = .ok (.iconst 2, 1) := by decide +kernel
theorem dL_law_741 : decode cL_law 741 = .ok (.iadd, 1) := by decide +kernel
theorem dL_law_742 : decode cL_law 742 = .ok (.iaload, 1) := by decide +kernel
theorem dL_law_743 : decode cL_law 743 = .ok (.invokevirtual 108, 3) := by decide +kernel
theorem dL_law_746 : decode cL_law 746 = .ok (.if_icmp .eq 383, 3) := by decide +kernel
theorem dL_law_749 : decode cL_law 749 = .ok (.iconst 0, 1) := by decide +kernel
theorem dL_law_750 : decode cL_law 750 = .ok (.ireturn, 1) := by decide +kernel
theorem dL_law_751 : decode cL_law 751 = .ok (.aload_n 1, 1) := by decide +kernel
theorem dL_law_752 : decode cL_law 752 = .ok (.aload_n 0, 1) := by decide +kernel
theorem dL_law_753 : decode cL_law 753 = .ok (.iload_n 3, 1) := by decide +kernel
theorem dL_law_754 : decode cL_law 754 = .ok (.iconst 1, 1) := by decide +kernel
theorem dL_law_755 : decode cL_law 755 = .ok (.iadd, 1) := by decide +kernel
theorem dL_law_756 : decode cL_law 756 = .ok (.iaload, 1) := by decide +kernel
theorem dL_law_757 : decode cL_law 757 = .ok (.aload_n 0, 1) := by decide +kernel
theorem dL_law_758 : decode cL_law 758 = .ok (.iload_n 3, 1) := by decide +kernel
theorem dL_law_759 : decode cL_law 759 = .ok (.iconst 2, 1) := by decide +kernel
theorem dL_law_760 : decode cL_law 760 = .ok (.iadd, 1) := by decide +kernel
theorem dL_law_761 : decode cL_law 761 = .ok (.iaload, 1) := by decide +kernel
theorem dL_law_762 : decode cL_law 762 = .ok (.ifCond .eq 7, 3) := by decide +kernel
theorem dL_law_765 : decode cL_law 765 = .ok (.iconst 1, 1) := by decide +kernel
theorem dL_law_766 : decode cL_law 766 = .ok (.goto 4, 3) := by decide +kernel
theorem dL_law_769 : decode cL_law 769 = .ok (.iconst 0, 1) := by decide +kernel
theorem dL_law_770 : decode cL_law 770 = .ok (.invokevirtual 109, 3) := by decide +kernel
theorem dL_law_773 : decode cL_law 773 = .ok (.aload_n 2, 1) := by decide +kernel
theorem dL_law_774 : decode cL_law 774 = .ok (.aload_n 0, 1) := by decide +kernel
theorem dL_law_775 : decode cL_law 775 = .ok (.iload_n 3, 1) := by decide +kernel
theorem dL_law_776 : decode cL_law 776 = .ok (.iconst 1, 1) := by decide +kernel
theorem dL_law_777 : decode cL_law 777 = .ok (.iadd, 1) := by decide +kernel
theorem dL_law_778 : decode cL_law 778 = .ok (.iaload, 1) := by decide +kernel
theorem dL_law_779 : decode cL_law 779 = .ok (.aload_n 0, 1) := by decide +kernel
theorem dL_law_780 : decode cL_law 780 = .ok (.iload_n 3, 1) := by decide +kernel
theorem dL_law_781 : decode cL_law 781 = .ok (.iconst 2, 1) := by decide +kernel
theorem dL_law_782 : decode cL_law 782 = .ok (.iadd, 1) := by decide +kernel
theorem dL_law_783 : decode cL_law 783 = .ok (.iaload, 1) := by decide +kernel
theorem dL_law_784 : decode cL_law 784 = .ok (.ifCond .eq 7, 3) := by decide +kernel
theorem dL_law_787 : decode cL_law 787 = .ok (.iconst 1, 1) := by decide +kernel
theorem dL_law_788 : decode cL_law 788 = .ok (.goto 4, 3) := by decide +kernel
theorem dL_law_791 : decode cL_law 791 = .ok (.iconst 0, 1) := by decide +kernel
theorem dL_law_792 : decode cL_law 792 = .ok (.invokevirtual 113, 3) := by decide +kernel
theorem dL_law_795 : decode cL_law 795 = .ok (.if_icmp .eq 334, 3) := by decide +kernel
theorem dL_law_798 : decode cL_law 798 = .ok (.iconst 0, 1) := by decide +kernel
theorem dL_law_799 : decode cL_law 799 = .ok (.ireturn, 1) := by decide +kernel
theorem dL_law_800 : decode cL_law 800 = .ok (.aload_n 1, 1) := by decide +kernel
theorem dL_law_801 : decode cL_law 801 = .ok (.invokevirtual 114, 3) := by decide +kernel
theorem dL_law_804 : decode cL_law 804 = .ok (.aload_n 2, 1) := by decide +kernel
theorem dL_law_805 : decode cL_law 805 = .ok (.invokevirtual 117, 3) := by decide +kernel
theorem dL_law_808 : decode cL_law 808 = .ok (.if_icmp .eq 321, 3) := by decide +kernel
theorem dL_law_811 : decode cL_law 811 = .ok (.iconst 0, 1) := by decide +kernel
theorem dL_law_812 : decode cL_law 812 = .ok (.ireturn, 1) := by decide +kernel
theorem dL_law_813 : decode cL_law 813 = .ok (.aload_n 1, 1) := by decide +kernel
theorem dL_law_814 : decode cL_law 814 = .ok (.aload_n 0, 1) := by decide +kernel
theorem dL_law_815 : decode cL_law 815 = .ok (.iload_n 3, 1) := by decide +kernel
theorem dL_law_816 : decode cL_law 816 = .ok (.iconst 1, 1) := by decide +kernel
theorem dL_law_817 : decode cL_law 817 = .ok (.iadd, 1) := by decide +kernel
theorem dL_law_818 : decode cL_law 818 = .ok (.iaload, 1) := by decide +kernel
theorem dL_law_819 : decode cL_law 819 = .ok (.ifCond .eq 7, 3) := by decide +kernel
theorem dL_law_822 : decode cL_law 822 = .ok (.iconst 1, 1) := by decide +kernel
theorem dL_law_823 : decode cL_law 823 = .ok (.goto 4, 3) := by decide +kernel
theorem dL_law_826 : decode cL_law 826 = .ok (.iconst 0, 1) := by decide +kernel
theorem dL_law_827 : decode cL_law 827 = .ok (.invokevirtual 118, 3) := by decide +kernel
theorem dL_law_830 : decode cL_law 830 = .ok (.aload_n 2, 1) := by decide +kernel
theorem dL_law_831 : decode cL_law 831 = .ok (.aload_n 0, 1) := by decide +kernel
theorem dL_law_832 : decode cL_law 832 = .ok (.iload_n 3, 1) := by decide +kernel
theorem dL_law_833 : decode cL_law 833 = .ok (.iconst 1, 1) := by decide +kernel
theorem dL_law_834 : decode cL_law 834 = .ok (.iadd, 1) := by decide +kernel
theorem dL_law_835 : decode cL_law 835 = .ok (.iaload, 1) := by decide +kernel
theorem dL_law_836 : decode cL_law 836 = .ok (.ifCond .eq 7, 3) := by decide +kernel
theorem dL_law_839 : decode cL_law 839 = .ok (.iconst 1, 1) := by decide +kernel
theorem dL_law_840 : decode cL_law 840 = .ok (.goto 4, 3) := by decide +kernel
theorem dL_law_843 : decode cL_law 843 = .ok (.iconst 0, 1) := by decide +kernel
theorem dL_law_844 : decode cL_law 844 = .ok (.invokevirtual 122, 3) := by decide +kernel
theorem dL_law_847 : decode cL_law 847 = .ok (.if_icmp .eq 282, 3) := by decide +kernel
theorem dL_law_850 : decode cL_law 850 = .ok (.iconst 0, 1) := by decide +kernel
theorem dL_law_851 : decode cL_law 851 = .ok (.ireturn, 1) := by decide +kernel
theorem dL_law_852 : decode cL_law 852 = .ok (.aload_n 1, 1) := by decide +kernel
theorem dL_law_853 : decode cL_law 853 = .ok (.aload_n 0, 1) := by decide +kernel
theorem dL_law_854 : decode cL_law 854 = .ok (.iload_n 3, 1) := by decide +kernel
theorem dL_law_855 : decode cL_law 855 = .ok (.iconst 1, 1) := by decide +kernel
theorem dL_law_856 : decode cL_law 856 = .ok (.iadd, 1) := by decide +kernel
theorem dL_law_857 : decode cL_law 857 = .ok (.iaload, 1) := by decide +kernel
theorem dL_law_858 : decode cL_law 858 = .ok (.aload_n 0, 1) := by decide +kernel
theorem dL_law_859 : decode cL_law 859 = .ok (.iload_n 3, 1) := by decide +kernel
theorem dL_law_860 : decode cL_law 860 = .ok (.iconst 2, 1) := by decide +kernel
theorem dL_law_861 : decode cL_law 861 = .ok (.iadd, 1) := by decide +kernel
theorem dL_law_862 : decode cL_law 862 = .ok (.iaload, 1) := by decide +kernel
theorem dL_law_863 : decode cL_law 863 = .ok (.invokevirtual 123, 3) := by decide +kernel
theorem dL_law_866 : decode cL_law 866 = .ok (.aload_n 2, 1) := by decide +kernel
theorem dL_law_867 : decode cL_law 867 = .ok (.aload_n 0, 1) := by decide +kernel
theorem dL_law_868 : decode cL_law 868 = .ok (.iload_n 3, 1) := by decide +kernel
theorem dL_law_869 : decode cL_law 869 = .ok (.iconst 1, 1) := by decide +kernel
theorem dL_law_870 : decode cL_law 870 = .ok (.iadd, 1) := by decide +kernel
theorem dL_law_871 : decode cL_law 871 = .ok (.iaload, 1) := by decide +kernel
theorem dL_law_872 : decode cL_law 872 = .ok (.aload_n 0, 1) := by decide +kernel
theorem dL_law_873 : decode cL_law 873 = .ok (.iload_n 3, 1) := by decide +kernel
theorem dL_law_874 : decode cL_law 874 = .ok (.iconst 2, 1) := by decide +kernel
theorem dL_law_875 : decode cL_law 875 = .ok (.iadd, 1) := by decide +kernel
theorem dL_law_876 : decode cL_law 876 = .ok (.iaload, 1) := by decide +kernel
theorem dL_law_877 : decode cL_law 877 = .ok (.invokevirtual 126, 3) := by decide +kernel
theorem dL_law_880 : decode cL_law 880 = .ok (.if_icmp .eq 249, 3) := by decide +kernel
theorem dL_law_883 : decode cL_law 883 = .ok (.iconst 0, 1) := by decide +kernel
theorem dL_law_884 : decode cL_law 884 = .ok (.ireturn, 1) := by decide +kernel
theorem dL_law_885 : decode cL_law 885 = .ok (.aload_n 1, 1) := by decide +kernel
theorem dL_law_886 : decode cL_law 886 = .ok (.aload_n 0, 1) := by decide +kernel
theorem dL_law_887 : decode cL_law 887 = .ok (.iload_n 3, 1) := by decide +kernel
theorem dL_law_888 : decode cL_law 888 = .ok (.iconst 1, 1) := by decide +kernel
theorem dL_law_889 : decode cL_law 889 = .ok (.iadd, 1) := by decide +kernel
theorem dL_law_890 : decode cL_law 890 = .ok (.iaload, 1) := by decide +kernel
theorem dL_law_891 : decode cL_law 891 = .ok (.aload_n 0, 1) := by decide +kernel
theorem dL_law_892 : decode cL_law 892 = .ok (.iload_n 3, 1) := by decide +kernel
theorem dL_law_893 : decode cL_law 893 = .ok (.iconst 2, 1) := by decide +kernel
theorem dL_law_894 : decode cL_law 894 = .ok (.iadd, 1) := by decide +kernel
theorem dL_law_895 : decode cL_law 895 = .ok (.iaload, 1) := by decide +kernel
theorem dL_law_896 : decode cL_law 896 = .ok (.invokevirtual 127, 3) := by decide +kernel
theorem dL_law_899 : decode cL_law 899 = .ok (.aload_n 2, 1) := by decide +kernel
theorem dL_law_900 : decode cL_law 900 = .ok (.aload_n 0, 1) := by decide +kernel
theorem dL_law_901 : decode cL_law 901 = .ok (.iload_n 3, 1) := by decide +kernel
theorem dL_law_902 : decode cL_law 902 = .ok (.iconst 1, 1) := by decide +kernel
theorem dL_law_903 : decode cL_law 903 = .ok (.iadd, 1) := by decide +kernel
theorem dL_law_904 : decode cL_law 904 = .ok (.iaload, 1) := by decide +kernel
theorem dL_law_905 : decode cL_law 905 = .ok (.aload_n 0, 1) := by decide +kernel
theorem dL_law_906 : decode cL_law 906 = .ok (.iload_n 3, 1) := by decide +kernel
theorem dL_law_907 : decode cL_law 907 = .ok (.iconst 2, 1) := by decide +kernel
theorem dL_law_908 : decode cL_law 908 = .ok (.iadd, 1) := by decide +kernel
theorem dL_law_909 : decode cL_law 909 = .ok (.iaload, 1) := by decide +kernel
theorem dL_law_910 : decode cL_law 910 = .ok (.invokevirtual 130, 3) := by decide +kernel
theorem dL_law_913 : decode cL_law 913 = .ok (.if_icmp .eq 216, 3) := by decide +kernel
theorem dL_law_916 : decode cL_law 916 = .ok (.iconst 0, 1) := by decide +kernel
theorem dL_law_917 : decode cL_law 917 = .ok (.ireturn, 1) := by decide +kernel
theorem dL_law_918 : decode cL_law 918 = .ok (.aload_n 1, 1) := by decide +kernel
theorem dL_law_919 : decode cL_law 919 = .ok (.aload_n 0, 1) := by decide +kernel
theorem dL_law_920 : decode cL_law 920 = .ok (.iload_n 3, 1) := by decide +kernel
theorem dL_law_921 : decode cL_law 921 = .ok (.iconst 1, 1) := by decide +kernel
theorem dL_law_922 : decode cL_law 922 = .ok (.iadd, 1) := by decide +kernel
theorem dL_law_923 : decode cL_law 923 = .ok (.iaload, 1) := by decide +kernel
theorem dL_law_924 : decode cL_law 924 = .ok (.aload_n 0, 1) := by decide +kernel
theorem dL_law_925 : decode cL_law 925 = .ok (.iload_n 3, 1) := by decide +kernel
theorem dL_law_926 : decode cL_law 926 = .ok (.iconst 2, 1) := by decide +kernel
theorem dL_law_927 : decode cL_law 927 = .ok (.iadd, 1) := by decide +kernel
theorem dL_law_928 : decode cL_law 928 = .ok (.iaload, 1) := by decide +kernel
theorem dL_law_929 : decode cL_law 929 = .ok (.aload_n 0, 1) := by decide +kernel
theorem dL_law_930 : decode cL_law 930 = .ok (.iload_n 3, 1) := by decide +kernel
theorem dL_law_931 : decode cL_law 931 = .ok (.iconst 3, 1) := by decide +kernel
theorem dL_law_932 : decode cL_law 932 = .ok (.iadd, 1) := by decide +kernel
theorem dL_law_933 : decode cL_law 933 = .ok (.iaload, 1) := by decide +kernel
theorem dL_law_934 : decode cL_law 934 = .ok (.aload_n 0, 1) := by decide +kernel
theorem dL_law_935 : decode cL_law 935 = .ok (.iload_n 3, 1) := by decide +kernel
theorem dL_law_936 : decode cL_law 936 = .ok (.iconst 4, 1) := by decide +kernel
theorem dL_law_937 : decode cL_law 937 = .ok (.iadd, 1) := by decide +kernel
theorem dL_law_938 : decode cL_law 938 = .ok (.iaload, 1) := by decide +kernel
theorem dL_law_939 : decode cL_law 939 = .ok (.invokevirtual 131, 3) := by decide +kernel
theorem dL_law_942 : decode cL_law 942 = .ok (.aload_n 2, 1) := by decide +kernel
theorem dL_law_943 : decode cL_law 943 = .ok (.aload_n 0, 1) := by decide +kernel
theorem dL_law_944 : decode cL_law 944 = .ok (.iload_n 3, 1) := by decide +kernel
theorem dL_law_945 : decode cL_law 945 = .ok (.iconst 1, 1) := by decide +kernel
theorem dL_law_946 : decode cL_law 946 = .ok (.iadd, 1) := by decide +kernel
theorem dL_law_947 : decode cL_law 947 = .ok (.iaload, 1) := by decide +kernel
theorem dL_law_948 : decode cL_law 948 = .ok (.aload_n 0, 1) := by decide +kernel
theorem dL_law_949 : decode cL_law 949 = .ok (.iload_n 3, 1) := by decide +kernel
theorem dL_law_950 : decode cL_law 950 = .ok (.iconst 2, 1) := by decide +kernel
theorem dL_law_951 : decode cL_law 951 = .ok (.iadd, 1) := by decide +kernel
theorem dL_law_952 : decode cL_law 952 = .ok (.iaload, 1) := by decide +kernel
theorem dL_law_953 : decode cL_law 953 = .ok (.aload_n 0, 1) := by decide +kernel
theorem dL_law_954 : decode cL_law 954 = .ok (.iload_n 3, 1) := by decide +kernel
theorem dL_law_955 : decode cL_law 955 = .ok (.iconst 3, 1) := by decide +kernel
theorem dL_law_956 : decode cL_law 956 = .ok (.iadd, 1) := by decide +kernel
theorem dL_law_957 : decode cL_law 957 = .ok (.iaload, 1) := by decide +kernel
theorem dL_law_958 : decode cL_law 958 = .ok (.aload_n 0, 1) := by decide +kernel
theorem dL_law_959 : decode cL_law 959 = .ok (.iload_n 3, 1) := by decide +kernel
theorem dL_law_960 : decode cL_law 960 = .ok (.iconst 4, 1) := by decide +kernel
theorem dL_law_961 : decode cL_law 961 = .ok (.iadd, 1) := by decide +kernel
theorem dL_law_962 : decode cL_law 962 = .ok (.iaload, 1) := by decide +kernel
theorem dL_law_963 : decode cL_law 963 = .ok (.invokevirtual 135, 3) := by decide +kernel
theorem dL_law_966 : decode cL_law 966 = .ok (.if_icmp .eq 163, 3) := by decide +kernel
theorem dL_law_969 : decode cL_law 969 = .ok (.iconst 0, 1) := by decide +kernel
theorem dL_law_970 : decode cL_law 970 = .ok (.ireturn, 1) := by decide +kernel
theorem dL_law_971 : decode cL_law 971 = .ok (.aload_n 1, 1) := by decide +kernel
theorem dL_law_972 : decode cL_law 972 = .ok (.aload_n 0, 1) := by decide +kernel
theorem dL_law_973 : decode cL_law 973 = .ok (.iload_n 3, 1) := by decide +kernel
theorem dL_law_974 : decode cL_law 974 = .ok (.iconst 1, 1) := by decide +kernel
theorem dL_law_975 : decode cL_law 975 = .ok (.iadd, 1) := by decide +kernel
theorem dL_law_976 : decode cL_law 976 = .ok (.iaload, 1) := by decide +kernel
theorem dL_law_977 : decode cL_law 977 = .ok (.aload_n 0, 1) := by decide +kernel
theorem dL_law_978 : decode cL_law 978 = .ok (.iload_n 3, 1) := by decide +kernel
theorem dL_law_979 : decode cL_law 979 = .ok (.iconst 2, 1) := by decide +kernel
theorem dL_law_980 : decode cL_law 980 = .ok (.iadd, 1) := by decide +kernel
theorem dL_law_981 : decode cL_law 981 = .ok (.iaload, 1) := by decide +kernel
theorem dL_law_982 : decode cL_law 982 = .ok (.invokevirtual 136, 3) := by decide +kernel
theorem dL_law_985 : decode cL_law 985 = .ok (.aload_n 2, 1) := by decide +kernel
theorem dL_law_986 : decode cL_law 986 = .ok (.aload_n 0, 1) := by decide +kernel
theorem dL_law_987 : decode cL_law 987 = .ok (.iload_n 3, 1) := by decide +kernel
theorem dL_law_988 : decode cL_law 988 = .ok (.iconst 1, 1) := by decide +kernel
theorem dL_law_989 : decode cL_law 989 = .ok (.iadd, 1) := by decide +kernel
theorem dL_law_990 : decode cL_law 990 = .ok (.iaload, 1) := by decide +kernel
theorem dL_law_991 : decode cL_law 991 = .ok (.aload_n 0, 1) := by decide +kernel
theorem dL_law_992 : decode cL_law 992 = .ok (.iload_n 3, 1) := by decide +kernel
theorem dL_law_993 : decode cL_law 993 = .ok (.iconst 2, 1) := by decide +kernel
theorem dL_law_994 : decode cL_law 994 = .ok (.iadd, 1) := by decide +kernel
theorem dL_law_995 : decode cL_law 995 = .ok (.iaload, 1) := by decide +kernel
theorem dL_law_996 : decode cL_law 996 = .ok (.invokevirtual 139, 3) := by decide +kernel
theorem dL_law_999 : decode cL_law 999 = .ok (.if_icmp .eq 130, 3) := by decide +kernel
theorem dL_law_1002 : decode cL_law 1002 = .ok (.iconst 0, 1) := by decide +kernel
theorem dL_law_1003 : decode cL_law 1003 = .ok (.ireturn, 1) := by decide +kernel
theorem dL_law_1004 : decode cL_law 1004 = .ok (.aload_n 1, 1) := by decide +kernel
theorem dL_law_1005 : decode cL_law 1005 = .ok (.aload_n 0, 1) := by decide +kernel
theorem dL_law_1006 : decode cL_law 1006 = .ok (.iload_n 3, 1) := by decide +kernel
theorem dL_law_1007 : decode cL_law 1007 = .ok (.iconst 1, 1) := by decide +kernel
theorem dL_law_1008 : decode cL_law 1008 = .ok (.iadd, 1) := by decide +kernel
theorem dL_law_1009 : decode cL_law 1009 = .ok (.iaload, 1) := by decide +kernel
theorem dL_law_1010 : decode cL_law 1010 = .ok (.aload_n 0, 1) := by decide +kernel
theorem dL_law_1011 : decode cL_law 1011 = .ok (.iload_n 3, 1) := by decide +kernel
theorem dL_law_1012 : decode cL_law 1012 = .ok (.iconst 2, 1) := by decide +kernel
theorem dL_law_1013 : decode cL_law 1013 = .ok (.iadd, 1) := by decide +kernel
theorem dL_law_1014 : decode cL_law 1014 = .ok (.iaload, 1) := by decide +kernel
theorem dL_law_1015 : decode cL_law 1015 = .ok (.invokevirtual 140, 3) := by decide +kernel
theorem dL_law_1018 : decode cL_law 1018 = .ok (.aload_n 2, 1) := by decide +kernel
theorem dL_law_1019 : decode cL_law 1019 = .ok (.aload_n 0, 1) := by decide +kernel
theorem dL_law_1020 : decode cL_law 1020 = .ok (.iload_n 3, 1) := by decide +kernel
theorem dL_law_1021 : decode cL_law 1021 = .ok (.iconst 1, 1) := by decide +kernel
theorem dL_law_1022 : decode cL_law 1022 = .ok (.iadd, 1) := by decide +kernel
theorem dL_law_1023 : decode cL_law 1023 = .ok (.iaload, 1) := by decide +kernel
theorem dL_law_1024 : decode cL_law 1024 = .ok (.aload_n 0, 1) := by decide +kernel
theorem dL_law_1025 : decode cL_law 1025 = .ok (.iload_n 3, 1) := by decide +kernel
theorem dL_law_1026 : decode cL_law 1026 = .ok (.iconst 2, 1) := by decide +kernel
theorem dL_law_1027 : decode cL_law 1027 = .ok (.iadd, 1) := by decide +kernel
theorem dL_law_1028 : decode cL_law 1028 = .ok (.iaload, 1) := by decide +kernel
theorem dL_law_1029 : decode cL_law 1029 = .ok (.invokevirtual 143, 3) := by decide +kernel
theorem dL_law_1032 : decode cL_law 1032 = .ok (.if_icmp .eq 97, 3) := by decide +kernel
theorem dL_law_1035 : decode cL_law 1035 = .ok (.iconst 0, 1) := by decide +kernel
theorem dL_law_1036 : decode cL_law 1036 = .ok (.ireturn, 1) := by decide +kernel
theorem dL_law_1037 : decode cL_law 1037 = .ok (.aload_n 1, 1) := by decide +kernel
theorem dL_law_1038 : decode cL_law 1038 = .ok (.aload_n 0, 1) := by decide +kernel
theorem dL_law_1039 : decode cL_law 1039 = .ok (.iload_n 3, 1) := by decide +kernel
theorem dL_law_1040 : decode cL_law 1040 = .ok (.iconst 1, 1) := by decide +kernel
theorem dL_law_1041 : decode cL_law 1041 = .ok (.iadd, 1) := by decide +kernel
theorem dL_law_1042 : decode cL_law 1042 = .ok (.iaload, 1) := by decide +kernel
theorem dL_law_1043 : decode cL_law 1043 = .ok (.invokevirtual 144, 3) := by decide +kernel
theorem dL_law_1046 : decode cL_law 1046 = .ok (.aload_n 2, 1) := by decide +kernel
theorem dL_law_1047 : decode cL_law 1047 = .ok (.aload_n 0, 1) := by decide +kernel
theorem dL_law_1048 : decode cL_law 1048 = .ok (.iload_n 3, 1) := by decide +kernel
theorem dL_law_1049 : decode cL_law 1049 = .ok (.iconst 1, 1) := by decide +kernel
theorem dL_law_1050 : decode cL_law 1050 = .ok (.iadd, 1) := by decide +kernel
theorem dL_law_1051 : decode cL_law 1051 = .ok (.iaload, 1) := by decide +kernel
theorem dL_law_1052 : decode cL_law 1052 = .ok (.invokevirtual 147, 3) := by decide +kernel
theorem dL_law_1055 : decode cL_law 1055 = .ok (.if_icmp .eq 74, 3) := by decide +kernel
theorem dL_law_1058 : decode cL_law 1058 = .ok (.iconst 0, 1) := by decide +kernel
theorem dL_law_1059 : decode cL_law 1059 = .ok (.ireturn, 1) := by decide +kernel
theorem dL_law_1060 : decode cL_law 1060 = .ok (.aload_n 1, 1) := by decide +kernel
theorem dL_law_1061 : decode cL_law 1061 = .ok (.aload_n 0, 1) := by decide +kernel
theorem dL_law_1062 : decode cL_law 1062 = .ok (.iload_n 3, 1) := by decide +kernel
theorem dL_law_1063 : decode cL_law 1063 = .ok (.iconst 1, 1) := by decide +kernel
theorem dL_law_1064 : decode cL_law 1064 = .ok (.iadd, 1) := by decide +kernel
theorem dL_law_1065 : decode cL_law 1065 = .ok (.iaload, 1) := by decide +kernel
theorem dL_law_1066 : decode cL_law 1066 = .ok (.invokevirtual 148, 3) := by decide +kernel
theorem dL_law_1069 : decode cL_law 1069 = .ok (.aload_n 2, 1) := by decide +kernel
theorem dL_law_1070 : decode cL_law 1070 = .ok (.aload_n 0, 1) := by decide +kernel
theorem dL_law_1071 : decode cL_law 1071 = .ok (.iload_n 3, 1) := by decide +kernel
theorem dL_law_1072 : decode cL_law 1072 = .ok (.iconst 1, 1) := by decide +kernel
theorem dL_law_1073 : decode cL_law 1073 = .ok (.iadd, 1) := by decide +kernel
theorem dL_law_1074 : decode cL_law 1074 = .ok (.iaload, 1) := by decide +kernel
theorem dL_law_1075 : decode cL_law 1075 = .ok (.invokevirtual 152, 3) := by decide +kernel
theorem dL_law_1078 : decode cL_law 1078 = .ok (.if_icmp .eq 51, 3) := by decide +kernel
theorem dL_law_1081 : decode cL_law 1081 = .ok (.iconst 0, 1) := by decide +kernel
theorem dL_law_1082 : decode cL_law 1082 = .ok (.ireturn, 1) := by decide +kernel
theorem dL_law_1083 : decode cL_law 1083 = .ok (.aload_n 1, 1) := by decide +kernel
theorem dL_law_1084 : decode cL_law 1084 = .ok (.aload_n 0, 1) := by decide +kernel
theorem dL_law_1085 : decode cL_law 1085 = .ok (.iload_n 3, 1) := by decide +kernel
theorem dL_law_1086 : decode cL_law 1086 = .ok (.iconst 1, 1) := by decide +kernel
theorem dL_law_1087 : decode cL_law 1087 = .ok (.iadd, 1) := by decide +kernel
theorem dL_law_1088 : decode cL_law 1088 = .ok (.iaload, 1) := by decide +kernel
theorem dL_law_1089 : decode cL_law 1089 = .ok (.invokevirtual 153, 3) := by decide +kernel
theorem dL_law_1092 : decode cL_law 1092 = .ok (.aload_n 2, 1) := by decide +kernel
theorem dL_law_1093 : decode cL_law 1093 = .ok (.aload_n 0, 1) := by decide +kernel
theorem dL_law_1094 : decode cL_law 1094 = .ok (.iload_n 3, 1) := by decide +kernel
theorem dL_law_1095 : decode cL_law 1095 = .ok (.iconst 1, 1) := by decide +kernel
theorem dL_law_1096 : decode cL_law 1096 = .ok (.iadd, 1) := by decide +kernel
theorem dL_law_1097 : decode cL_law 1097 = .ok (.iaload, 1) := by decide +kernel
theorem dL_law_1098 : decode cL_law 1098 = .ok (.invokevirtual 156, 3) := by decide +kernel
theorem dL_law_1101 : decode cL_law 1101 = .ok (.if_icmp .eq 28, 3) := by decide +kernel
theorem dL_law_1104 : decode cL_law 1104 = .ok (.iconst 0, 1) := by decide +kernel
theorem dL_law_1105 : decode cL_law 1105 = .ok (.ireturn, 1) := by decide +kernel
theorem dL_law_1106 : decode cL_law 1106 = .ok (.aload_n 1, 1) := by decide +kernel
theorem dL_law_1107 : decode cL_law 1107 = .ok (.aload_n 0, 1) := by decide +kernel
theorem dL_law_1108 : decode cL_law 1108 = .ok (.iload_n 3, 1) := by decide +kernel
theorem dL_law_1109 : decode cL_law 1109 = .ok (.iconst 1, 1) := by decide +kernel
theorem dL_law_1110 : decode cL_law 1110 = .ok (.iadd, 1) := by decide +kernel
theorem dL_law_1111 : decode cL_law 1111 = .ok (.iaload, 1) := by decide +kernel
theorem dL_law_1112 : decode cL_law 1112 = .ok (.invokevirtual 157, 3) := by decide +kernel
theorem dL_law_1115 : decode cL_law 1115 = .ok (.aload_n 2, 1) := by decide +kernel
theorem dL_law_1116 : decode cL_law 1116 = .ok (.aload_n 0, 1) := by decide +kernel
theorem dL_law_1117 : decode cL_law 1117 = .ok (.iload_n 3, 1) := by decide +kernel
theorem dL_law_1118 : decode cL_law 1118 = .ok (.iconst 1, 1) := by decide +kernel
theorem dL_law_1119 : decode cL_law 1119 = .ok (.iadd, 1) := by decide +kernel
theorem dL_law_1120 : decode cL_law 1120 = .ok (.iaload, 1) := by decide +kernel
theorem dL_law_1121 : decode cL_law 1121 = .ok (.invokevirtual 160, 3) := by decide +kernel
theorem dL_law_1124 : decode cL_law 1124 = .ok (.if_icmp .eq 5, 3) := by decide +kernel
theorem dL_law_1127 : decode cL_law 1127 = .ok (.iconst 0, 1) := by decide +kernel
theorem dL_law_1128 : decode cL_law 1128 = .ok (.ireturn, 1) := by decide +kernel
theorem dL_law_1129 : decode cL_law 1129 = .ok (.iinc 3 6, 3) := by decide +kernel
theorem dL_law_1132 : decode cL_law 1132 = .ok (.goto (-1114), 3) := by decide +kernel
theorem dL_law_1135 : decode cL_law 1135 = .ok (.iconst 1, 1) := by decide +kernel
theorem dL_law_1136 : decode cL_law 1136 = .ok (.ireturn, 1) := by decide +kernel
