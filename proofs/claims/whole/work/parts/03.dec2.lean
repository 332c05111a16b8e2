theorem dX10_changes_30 : decode cX10_changes 30 = .ok (.aload_n 0, 1) := by decide +kernel
theorem dX10_changes_31 : decode cX10_changes 31 = .ok (.getfield 13, 3) := by decide +kernel
theorem dX10_changes_34 : decode cX10_changes 34 = .ok (.iload_n 1, 1) := by decide +kernel
theorem dX10_changes_35 : decode cX10_changes 35 = .ok (.sipush 284, 3) := by decide +kernel
theorem dX10_changes_38 : decode cX10_changes 38 = .ok (.iadd, 1) := by decide +kernel
theorem dX10_changes_39 : decode cX10_changes 39 = .ok (.iaload, 1) := by decide +kernel
theorem dX10_changes_40 : decode cX10_changes 40 = .ok (.iastore, 1) := by decide +kernel
theorem dX10_changes_41 : decode cX10_changes 41 = .ok (.iinc 1 1, 3) := by decide +kernel
theorem dX10_changes_44 : decode cX10_changes 44 = .ok (.goto (-26), 3) := by decide +kernel
theorem dX10_changes_47 : decode cX10_changes 47 = .ok (.aload_n 0, 1) := by decide +kernel
theorem dX10_changes_48 : decode cX10_changes 48 = .ok (.dup, 1) := by decide +kernel
theorem dX10_changes_49 : decode cX10_changes 49 = .ok (.getfield 35, 3) := by decide +kernel
theorem dX10_changes_52 : decode cX10_changes 52 = .ok (.iconst 1, 1) := by decide +kernel
theorem dX10_changes_53 : decode cX10_changes 53 = .ok (.isub, 1) := by decide +kernel
theorem dX10_changes_54 : decode cX10_changes 54 = .ok (.putfield 35, 3) := by decide +kernel
theorem dX10_changes_57 : decode cX10_changes 57 = .ok (.iconst 0, 1) := by decide +kernel
theorem dX10_changes_58 : decode cX10_changes 58 = .ok (.istore_n 1, 1) := by decide +kernel
theorem dX10_changes_59 : decode cX10_changes 59 = .ok (.iload_n 1, 1) := by decide +kernel
theorem dX10_changes_60 : decode cX10_changes 60 = .ok (.sipush 284, 3) := by decide +kernel
theorem dX10_changes_63 : decode cX10_changes 63 = .ok (.if_icmp .ge 30, 3) := by decide +kernel
theorem dX10_changes_66 : decode cX10_changes 66 = .ok (.aload_n 0, 1) := by decide +kernel
theorem dX10_changes_67 : decode cX10_changes 67 = .ok (.getfield 13, 3) := by decide +kernel
theorem dX10_changes_70 : decode cX10_changes 70 = .ok (.sipush 284, 3) := by decide +kernel
theorem dX10_changes_73 : decode cX10_changes 73 = .ok (.aload_n 0, 1) := by decide +kernel
theorem dX10_changes_74 : decode cX10_changes 74 = .ok (.getfield 35, 3) := by decide +kernel
theorem dX10_changes_77 : decode cX10_changes 77 = .ok (.imul, 1) := by decide +kernel
theorem dX10_changes_78 : decode cX10_changes 78 = .ok (.iload_n 1, 1) := by decide +kernel
theorem dX10_changes_79 : decode cX10_changes 79 = .ok (.iadd, 1) := by decide +kernel
theorem dX10_changes_80 : decode cX10_changes 80 = .ok (.aload_n 0, 1) := by decide +kernel
theorem dX10_changes_81 : decode cX10_changes 81 = .ok (.getfield 7, 3) := by decide +kernel
theorem dX10_changes_84 : decode cX10_changes 84 = .ok (.iload_n 1, 1) := by decide +kernel
theorem dX10_changes_85 : decode cX10_changes 85 = .ok (.iaload, 1) := by decide +kernel
theorem dX10_changes_86 : decode cX10_changes 86 = .ok (.iastore, 1) := by decide +kernel
theorem dX10_changes_87 : decode cX10_changes 87 = .ok (.iinc 1 1, 3) := by decide +kernel
theorem dX10_changes_90 : decode cX10_changes 90 = .ok (.goto (-31), 3) := by decide +kernel
theorem dX10_changes_93 : decode cX10_changes 93 = .ok (.aload_n 0, 1) := by decide +kernel
theorem dX10_changes_94 : decode cX10_changes 94 = .ok (.dup, 1) := by decide +kernel
theorem dX10_changes_95 : decode cX10_changes 95 = .ok (.getfield 35, 3) := by decide +kernel
theorem dX10_changes_98 : decode cX10_changes 98 = .ok (.iconst 1, 1) := by decide +kernel
theorem dX10_changes_99 : decode cX10_changes 99 = .ok (.iadd, 1) := by decide +kernel
theorem dX10_changes_100 : decode cX10_changes 100 = .ok (.putfield 35, 3) := by decide +kernel
theorem dX10_changes_103 : decode cX10_changes 103 = .ok (.return_, 1) := by decide +kernel
theorem dX10_of_0 : decode cX10_of 0 = .ok (.aload_n 0, 1) := by decide +kernel
theorem dX10_of_1 : decode cX10_of 1 = .ok (.getfield 7, 3) := by decide +kernel
theorem dX10_of_4 : decode cX10_of 4 = .ok (.bipush 13, 2) := by decide +kernel
theorem dX10_of_6 : decode cX10_of 6 = .ok (.iload_n 1, 1) := by decide +kernel
theorem dX10_of_7 : decode cX10_of 7 = .ok (.imul, 1) := by decide +kernel
theorem dX10_of_8 : decode cX10_of 8 = .ok (.iload_n 2, 1) := by decide +kernel
theorem dX10_of_9 : decode cX10_of 9 = .ok (.iadd, 1) := by decide +kernel
theorem dX10_of_10 : decode cX10_of 10 = .ok (.iaload, 1) := by decide +kernel
theorem dX10_of_11 : decode cX10_of 11 = .ok (.ireturn, 1) := by decide +kernel
theorem dX10_sets_0 : decode cX10_sets 0 = .ok (.aload_n 0, 1) := by decide +kernel
theorem dX10_sets_1 : decode cX10_sets 1 = .ok (.getfield 7, 3) := by decide +kernel
theorem dX10_sets_4 : decode cX10_sets 4 = .ok (.bipush 13, 2) := by decide +kernel
theorem dX10_sets_6 : decode cX10_sets 6 = .ok (.iload_n 1, 1) := by decide +kernel
theorem dX10_sets_7 : decode cX10_sets 7 = .ok (.imul, 1) := by decide +kernel
theorem dX10_sets_8 : decode cX10_sets 8 = .ok (.iload_n 2, 1) := by decide +kernel
theorem dX10_sets_9 : decode cX10_sets 9 = .ok (.iadd, 1) := by decide +kernel
theorem dX10_sets_10 : decode cX10_sets 10 = .ok (.iload_n 3, 1) := by decide +kernel
theorem dX10_sets_11 : decode cX10_sets 11 = .ok (.iastore, 1) := by decide +kernel
theorem dX10_sets_12 : decode cX10_sets 12 = .ok (.return_, 1) := by decide +kernel
theorem dX10_isTurn_0 : decode cX10_isTurn 0 = .ok (.iload_n 1, 1) := by decide +kernel
theorem dX10_isTurn_1 : decode cX10_isTurn 1 = .ok (.ifCond .lt 19, 3) := by decide +kernel
theorem dX10_isTurn_4 : decode cX10_isTurn 4 = .ok (.iload_n 1, 1) := by decide +kernel
theorem dX10_isTurn_5 : decode cX10_isTurn 5 = .ok (.aload_n 0, 1) := by decide +kernel
theorem dX10_isTurn_6 : decode cX10_isTurn 6 = .ok (.getfield 7, 3) := by decide +kernel
theorem dX10_isTurn_9 : decode cX10_isTurn 9 = .ok (.sipush 282, 3) := by decide +kernel
theorem dX10_isTurn_12 : decode cX10_isTurn 12 = .ok (.iaload, 1) := by decide +kernel
theorem dX10_isTurn_13 : decode cX10_isTurn 13 = .ok (.if_icmp .ge 7, 3) := by decide +kernel
theorem dX10_isTurn_16 : decode cX10_isTurn 16 = .ok (.iconst 1, 1) := by decide +kernel
theorem dX10_isTurn_17 : decode cX10_isTurn 17 = .ok (.goto 4, 3) := by decide +kernel
theorem dX10_isTurn_20 : decode cX10_isTurn 20 = .ok (.iconst 0, 1) := by decide +kernel
theorem dX10_isTurn_21 : decode cX10_isTurn 21 = .ok (.ireturn, 1) := by decide +kernel
theorem dX10_isVoice_0 : decode cX10_isVoice 0 = .ok (.iload_n 1, 1) := by decide +kernel
theorem dX10_isVoice_1 : decode cX10_isVoice 1 = .ok (.iconst 0, 1) := by decide +kernel
theorem dX10_isVoice_2 : decode cX10_isVoice 2 = .ok (.iconst 5, 1) := by decide +kernel
theorem dX10_isVoice_3 : decode cX10_isVoice 3 = .ok (.invokestatic 39, 3) := by decide +kernel
theorem dX10_isVoice_6 : decode cX10_isVoice 6 = .ok (.ifCond .eq 20, 3) := by decide +kernel
theorem dX10_isVoice_9 : decode cX10_isVoice 9 = .ok (.aload_n 0, 1) := by decide +kernel
theorem dX10_isVoice_10 : decode cX10_isVoice 10 = .ok (.getfield 7, 3) := by decide +kernel
theorem dX10_isVoice_13 : decode cX10_isVoice 13 = .ok (.sipush 276, 3) := by decide +kernel
theorem dX10_isVoice_16 : decode cX10_isVoice 16 = .ok (.iload_n 1, 1) := by decide +kernel
theorem dX10_isVoice_17 : decode cX10_isVoice 17 = .ok (.iadd, 1) := by decide +kernel
theorem dX10_isVoice_18 : decode cX10_isVoice 18 = .ok (.iaload, 1) := by decide +kernel
theorem dX10_isVoice_19 : decode cX10_isVoice 19 = .ok (.ifCond .le 7, 3) := by decide +kernel
theorem dX10_isVoice_22 : decode cX10_isVoice 22 = .ok (.iconst 1, 1) := by decide +kernel
theorem dX10_isVoice_23 : decode cX10_isVoice 23 = .ok (.goto 4, 3) := by decide +kernel
theorem dX10_isVoice_26 : decode cX10_isVoice 26 = .ok (.iconst 0, 1) := by decide +kernel
theorem dX10_isVoice_27 : decode cX10_isVoice 27 = .ok (.ireturn, 1) := by decide +kernel
theorem dX10_isTerm_0 : decode cX10_isTerm 0 = .ok (.iload_n 0, 1) := by decide +kernel
theorem dX10_isTerm_1 : decode cX10_isTerm 1 = .ok (.iconst 0, 1) := by decide +kernel
theorem dX10_isTerm_2 : decode cX10_isTerm 2 = .ok (.bipush 15, 2) := by decide +kernel
theorem dX10_isTerm_4 : decode cX10_isTerm 4 = .ok (.invokestatic 39, 3) := by decide +kernel
theorem dX10_isTerm_7 : decode cX10_isTerm 7 = .ok (.ireturn, 1) := by decide +kernel
theorem dX10_far_0 : decode cX10_far 0 = .ok (.iload_n 0, 1) := by decide +kernel
theorem dX10_far_1 : decode cX10_far 1 = .ok (.iload_n 1, 1) := by decide +kernel
theorem dX10_far_2 : decode cX10_far 2 = .ok (.if_icmp .ge 9, 3) := by decide +kernel
theorem dX10_far_5 : decode cX10_far 5 = .ok (.iload_n 1, 1) := by decide +kernel
theorem dX10_far_6 : decode cX10_far 6 = .ok (.iload_n 0, 1) := by decide +kernel
theorem dX10_far_7 : decode cX10_far 7 = .ok (.isub, 1) := by decide +kernel
theorem dX10_far_8 : decode cX10_far 8 = .ok (.goto 6, 3) := by decide +kernel
theorem dX10_far_11 : decode cX10_far 11 = .ok (.iload_n 0, 1) := by decide +kernel
theorem dX10_far_12 : decode cX10_far 12 = .ok (.iload_n 1, 1) := by decide +kernel
theorem dX10_far_13 : decode cX10_far 13 = .ok (.isub, 1) := by decide +kernel
theorem dX10_far_14 : decode cX10_far 14 = .ok (.ireturn, 1) := by decide +kernel
theorem dX10_voiceFor_0 : decode cX10_voiceFor 0 = .ok (.iconst (-1), 1) := by decide +kernel
theorem dX10_voiceFor_1 : decode cX10_voiceFor 1 = .ok (.istore_n 2, 1) := by decide +kernel
theorem dX10_voiceFor_2 : decode cX10_voiceFor 2 = .ok (.iconst 0, 1) := by decide +kernel
theorem dX10_voiceFor_3 : decode cX10_voiceFor 3 = .ok (.istore_n 3, 1) := by decide +kernel
theorem dX10_voiceFor_4 : decode cX10_voiceFor 4 = .ok (.iload_n 3, 1) := by decide +kernel
theorem dX10_voiceFor_5 : decode cX10_voiceFor 5 = .ok (.bipush 6, 2) := by decide +kernel
theorem dX10_voiceFor_7 : decode cX10_voiceFor 7 = .ok (.if_icmp .ge 100, 3) := by decide +kernel
theorem dX10_voiceFor_10 : decode cX10_voiceFor 10 = .ok (.aload_n 0, 1) := by decide +kernel
theorem dX10_voiceFor_11 : decode cX10_voiceFor 11 = .ok (.getfield 7, 3) := by decide +kernel
theorem dX10_voiceFor_14 : decode cX10_voiceFor 14 = .ok (.sipush 276, 3) := by decide +kernel
theorem dX10_voiceFor_17 : decode cX10_voiceFor 17 = .ok (.iload_n 3, 1) := by decide +kernel
theorem dX10_voiceFor_18 : decode cX10_voiceFor 18 = .ok (.iadd, 1) := by decide +kernel
theorem dX10_voiceFor_19 : decode cX10_voiceFor 19 = .ok (.iaload, 1) := by decide +kernel
theorem dX10_voiceFor_20 : decode cX10_voiceFor 20 = .ok (.ifCond .le 32, 3) := by decide +kernel
theorem dX10_voiceFor_23 : decode cX10_voiceFor 23 = .ok (.aload_n 0, 1) := by decide +kernel
theorem dX10_voiceFor_24 : decode cX10_voiceFor 24 = .ok (.getfield 7, 3) := by decide +kernel
theorem dX10_voiceFor_27 : decode cX10_voiceFor 27 = .ok (.sipush 276, 3) := by decide +kernel
theorem dX10_voiceFor_30 : decode cX10_voiceFor 30 = .ok (.iload_n 3, 1) := by decide +kernel
theorem dX10_voiceFor_31 : decode cX10_voiceFor 31 = .ok (.iadd, 1) := by decide +kernel
theorem dX10_voiceFor_32 : decode cX10_voiceFor 32 = .ok (.iaload, 1) := by decide +kernel
theorem dX10_voiceFor_33 : decode cX10_voiceFor 33 = .ok (.iload_n 1, 1) := by decide +kernel
theorem dX10_voiceFor_34 : decode cX10_voiceFor 34 = .ok (.invokestatic 43, 3) := by decide +kernel
theorem dX10_voiceFor_37 : decode cX10_voiceFor 37 = .ok (.aload_n 0, 1) := by decide +kernel
theorem dX10_voiceFor_38 : decode cX10_voiceFor 38 = .ok (.getfield 7, 3) := by decide +kernel
theorem dX10_voiceFor_41 : decode cX10_voiceFor 41 = .ok (.sipush 283, 3) := by decide +kernel
theorem dX10_voiceFor_44 : decode cX10_voiceFor 44 = .ok (.iaload, 1) := by decide +kernel
theorem dX10_voiceFor_45 : decode cX10_voiceFor 45 = .ok (.if_icmp .gt 7, 3) := by decide +kernel
theorem dX10_voiceFor_48 : decode cX10_voiceFor 48 = .ok (.iconst 1, 1) := by decide +kernel
theorem dX10_voiceFor_49 : decode cX10_voiceFor 49 = .ok (.goto 4, 3) := by decide +kernel
theorem dX10_voiceFor_52 : decode cX10_voiceFor 52 = .ok (.iconst 0, 1) := by decide +kernel
theorem dX10_voiceFor_53 : decode cX10_voiceFor 53 = .ok (.istore 4, 2) := by decide +kernel
theorem dX10_voiceFor_55 : decode cX10_voiceFor 55 = .ok (.iload 4, 2) := by decide +kernel
theorem dX10_voiceFor_57 : decode cX10_voiceFor 57 = .ok (.ifCond .eq 42, 3) := by decide +kernel
theorem dX10_voiceFor_60 : decode cX10_voiceFor 60 = .ok (.iload_n 2, 1) := by decide +kernel
theorem dX10_voiceFor_61 : decode cX10_voiceFor 61 = .ok (.ifCond .lt 34, 3) := by decide +kernel
theorem dX10_voiceFor_64 : decode cX10_voiceFor 64 = .ok (.aload_n 0, 1) := by decide +kernel
theorem dX10_voiceFor_65 : decode cX10_voiceFor 65 = .ok (.getfield 7, 3) := by decide +kernel
theorem dX10_voiceFor_68 : decode cX10_voiceFor 68 = .ok (.sipush 276, 3) := by decide +kernel
theorem dX10_voiceFor_71 : decode cX10_voiceFor 71 = .ok (.iload_n 3, 1) := by decide +kernel
theorem dX10_voiceFor_72 : decode cX10_voiceFor 72 = .ok (.iadd, 1) := by decide +kernel
theorem dX10_voiceFor_73 : decode cX10_voiceFor 73 = .ok (.iaload, 1) := by decide +kernel
theorem dX10_voiceFor_74 : decode cX10_voiceFor 74 = .ok (.iload_n 1, 1) := by decide +kernel
theorem dX10_voiceFor_75 : decode cX10_voiceFor 75 = .ok (.invokestatic 43, 3) := by decide +kernel
theorem dX10_voiceFor_78 : decode cX10_voiceFor 78 = .ok (.aload_n 0, 1) := by decide +kernel
theorem dX10_voiceFor_79 : decode cX10_voiceFor 79 = .ok (.getfield 7, 3) := by decide +kernel
theorem dX10_voiceFor_82 : decode cX10_voiceFor 82 = .ok (.sipush 276, 3) := by decide +kernel
theorem dX10_voiceFor_85 : decode cX10_voiceFor 85 = .ok (.iload_n 2, 1) := by decide +kernel
theorem dX10_voiceFor_86 : decode cX10_voiceFor 86 = .ok (.iadd, 1) := by decide +kernel
theorem dX10_voiceFor_87 : decode cX10_voiceFor 87 = .ok (.iaload, 1) := by decide +kernel
theorem dX10_voiceFor_88 : decode cX10_voiceFor 88 = .ok (.iload_n 1, 1) := by decide +kernel
theorem dX10_voiceFor_89 : decode cX10_voiceFor 89 = .ok (.invokestatic 43, 3) := by decide +kernel
theorem dX10_voiceFor_92 : decode cX10_voiceFor 92 = .ok (.if_icmp .ge 7, 3) := by decide +kernel
theorem dX10_voiceFor_95 : decode cX10_voiceFor 95 = .ok (.iload_n 3, 1) := by decide +kernel
theorem dX10_voiceFor_96 : decode cX10_voiceFor 96 = .ok (.goto 4, 3) := by decide +kernel
theorem dX10_voiceFor_99 : decode cX10_voiceFor 99 = .ok (.iload_n 2, 1) := by decide +kernel
theorem dX10_voiceFor_100 : decode cX10_voiceFor 100 = .ok (.istore_n 2, 1) := by decide +kernel
theorem dX10_voiceFor_101 : decode cX10_voiceFor 101 = .ok (.iinc 3 1, 3) := by decide +kernel
theorem dX10_voiceFor_104 : decode cX10_voiceFor 104 = .ok (.goto (-100), 3) := by decide +kernel
theorem dX10_voiceFor_107 : decode cX10_voiceFor 107 = .ok (.iload_n 2, 1) := by decide +kernel
theorem dX10_voiceFor_108 : decode cX10_voiceFor 108 = .ok (.ireturn, 1) := by decide +kernel
theorem dX10_opens_0 : decode cX10_opens 0 = .ok (.aload_n 0, 1) := by decide +kernel
theorem dX10_opens_1 : decode cX10_opens 1 = .ok (.getfield 7, 3) := by decide +kernel
theorem dX10_opens_4 : decode cX10_opens 4 = .ok (.sipush 282, 3) := by decide +kernel
theorem dX10_opens_7 : decode cX10_opens 7 = .ok (.iaload, 1) := by decide +kernel
theorem dX10_opens_8 : decode cX10_opens 8 = .ok (.istore_n 2, 1) := by decide +kernel
theorem dX10_opens_9 : decode cX10_opens 9 = .ok (.iload_n 2, 1) := by decide +kernel
theorem dX10_opens_10 : decode cX10_opens 10 = .ok (.ifCond .le 21, 3) := by decide +kernel
theorem dX10_opens_13 : decode cX10_opens 13 = .ok (.aload_n 0, 1) := by decide +kernel
theorem dX10_opens_14 : decode cX10_opens 14 = .ok (.iload_n 2, 1) := by decide +kernel
theorem dX10_opens_15 : decode cX10_opens 15 = .ok (.iconst 1, 1) := by decide +kernel
theorem dX10_opens_16 : decode cX10_opens 16 = .ok (.isub, 1) := by decide +kernel
theorem dX10_opens_17 : decode cX10_opens 17 = .ok (.iconst 0, 1) := by decide +kernel
theorem dX10_opens_18 : decode cX10_opens 18 = .ok (.invokevirtual 47, 3) := by decide +kernel
theorem dX10_opens_21 : decode cX10_opens 21 = .ok (.iload_n 1, 1) := by decide +kernel
theorem dX10_opens_22 : decode cX10_opens 22 = .ok (.if_icmp .le 9, 3) := by decide +kernel
theorem dX10_opens_25 : decode cX10_opens 25 = .ok (.iinc 2 (-1), 3) := by decide +kernel
theorem dX10_opens_28 : decode cX10_opens 28 = .ok (.goto (-19), 3) := by decide +kernel
theorem dX10_opens_31 : decode cX10_opens 31 = .ok (.bipush 13, 2) := by decide +kernel
theorem dX10_opens_33 : decode cX10_opens 33 = .ok (.aload_n 0, 1) := by decide +kernel
theorem dX10_opens_34 : decode cX10_opens 34 = .ok (.getfield 7, 3) := by decide +kernel
theorem dX10_opens_37 : decode cX10_opens 37 = .ok (.sipush 282, 3) := by decide +kernel
theorem dX10_opens_40 : decode cX10_opens 40 = .ok (.iaload, 1) := by decide +kernel
theorem dX10_opens_41 : decode cX10_opens 41 = .ok (.imul, 1) := by decide +kernel
theorem dX10_opens_42 : decode cX10_opens 42 = .ok (.iconst 1, 1) := by decide +kernel
theorem dX10_opens_43 : decode cX10_opens 43 = .ok (.isub, 1) := by decide +kernel
theorem dX10_opens_44 : decode cX10_opens 44 = .ok (.istore_n 3, 1) := by decide +kernel
theorem dX10_opens_45 : decode cX10_opens 45 = .ok (.iload_n 3, 1) := by decide +kernel
theorem dX10_opens_46 : decode cX10_opens 46 = .ok (.bipush 13, 2) := by decide +kernel
theorem dX10_opens_48 : decode cX10_opens 48 = .ok (.iload_n 2, 1) := by decide +kernel
theorem dX10_opens_49 : decode cX10_opens 49 = .ok (.imul, 1) := by decide +kernel
theorem dX10_opens_50 : decode cX10_opens 50 = .ok (.if_icmp .lt 24, 3) := by decide +kernel
theorem dX10_opens_53 : decode cX10_opens 53 = .ok (.aload_n 0, 1) := by decide +kernel
theorem dX10_opens_54 : decode cX10_opens 54 = .ok (.getfield 7, 3) := by decide +kernel
theorem dX10_opens_57 : decode cX10_opens 57 = .ok (.iload_n 3, 1) := by decide +kernel
theorem dX10_opens_58 : decode cX10_opens 58 = .ok (.bipush 13, 2) := by decide +kernel
theorem dX10_opens_60 : decode cX10_opens 60 = .ok (.iadd, 1) := by decide +kernel
theorem dX10_opens_61 : decode cX10_opens 61 = .ok (.aload_n 0, 1) := by decide +kernel
theorem dX10_opens_62 : decode cX10_opens 62 = .ok (.getfield 7, 3) := by decide +kernel
theorem dX10_opens_65 : decode cX10_opens 65 = .ok (.iload_n 3, 1) := by decide +kernel
theorem dX10_opens_66 : decode cX10_opens 66 = .ok (.iaload, 1) := by decide +kernel
theorem dX10_opens_67 : decode cX10_opens 67 = .ok (.iastore, 1) := by decide +kernel
theorem dX10_opens_68 : decode cX10_opens 68 = .ok (.iinc 3 (-1), 3) := by decide +kernel
theorem dX10_opens_71 : decode cX10_opens 71 = .ok (.goto (-26), 3) := by decide +kernel
theorem dX10_opens_74 : decode cX10_opens 74 = .ok (.aload_n 0, 1) := by decide +kernel
theorem dX10_opens_75 : decode cX10_opens 75 = .ok (.getfield 7, 3) := by decide +kernel
theorem dX10_opens_78 : decode cX10_opens 78 = .ok (.sipush 282, 3) := by decide +kernel
theorem dX10_opens_81 : decode cX10_opens 81 = .ok (.dup2, 1) := by decide +kernel
theorem dX10_opens_82 : decode cX10_opens 82 = .ok (.iaload, 1) := by decide +kernel
theorem dX10_opens_83 : decode cX10_opens 83 = .ok (.iconst 1, 1) := by decide +kernel
theorem dX10_opens_84 : decode cX10_opens 84 = .ok (.iadd, 1) := by decide +kernel
theorem dX10_opens_85 : decode cX10_opens 85 = .ok (.iastore, 1) := by decide +kernel
theorem dX10_opens_86 : decode cX10_opens 86 = .ok (.iload_n 2, 1) := by decide +kernel
theorem dX10_opens_87 : decode cX10_opens 87 = .ok (.ireturn, 1) := by decide +kernel
theorem dX10_turn_0 : decode cX10_turn 0 = .ok (.iload_n 1, 1) := by decide +kernel
theorem dX10_turn_1 : decode cX10_turn 1 = .ok (.iconst 0, 1) := by decide +kernel
theorem dX10_turn_2 : decode cX10_turn 2 = .ok (.sipush 1998, 3) := by decide +kernel
theorem dX10_turn_5 : decode cX10_turn 5 = .ok (.invokestatic 39, 3) := by decide +kernel
theorem dX10_turn_8 : decode cX10_turn 8 = .ok (.ifCond .eq 28, 3) := by decide +kernel
theorem dX10_turn_11 : decode cX10_turn 11 = .ok (.iload_n 2, 1) := by decide +kernel
theorem dX10_turn_12 : decode cX10_turn 12 = .ok (.iload_n 1, 1) := by decide +kernel
theorem dX10_turn_13 : decode cX10_turn 13 = .ok (.iconst 1, 1) := by decide +kernel
theorem dX10_turn_14 : decode cX10_turn 14 = .ok (.iadd, 1) := by decide +kernel
theorem dX10_turn_15 : decode cX10_turn 15 = .ok (.sipush 1999, 3) := by decide +kernel
theorem dX10_turn_18 : decode cX10_turn 18 = .ok (.invokestatic 39, 3) := by decide +kernel
theorem dX10_turn_21 : decode cX10_turn 21 = .ok (.ifCond .eq 15, 3) := by decide +kernel
theorem dX10_turn_24 : decode cX10_turn 24 = .ok (.iload_n 3, 1) := by decide +kernel
theorem dX10_turn_25 : decode cX10_turn 25 = .ok (.bipush 50, 2) := by decide +kernel
theorem dX10_turn_27 : decode cX10_turn 27 = .ok (.sipush 500, 3) := by decide +kernel
theorem dX10_turn_30 : decode cX10_turn 30 = .ok (.invokestatic 39, 3) := by decide +kernel
theorem dX10_turn_33 : decode cX10_turn 33 = .ok (.ifCond .ne 6, 3) := by decide +kernel
theorem dX10_turn_36 : decode cX10_turn 36 = .ok (.ldc 50, 2) := by decide +kernel
theorem dX10_turn_38 : decode cX10_turn 38 = .ok (.ireturn, 1) := by decide +kernel
theorem dX10_turn_39 : decode cX10_turn 39 = .ok (.aload_n 0, 1) := by decide +kernel
theorem dX10_turn_40 : decode cX10_turn 40 = .ok (.getfield 7, 3) := by decide +kernel
theorem dX10_turn_43 : decode cX10_turn 43 = .ok (.sipush 282, 3) := by decide +kernel
theorem dX10_turn_46 : decode cX10_turn 46 = .ok (.iaload, 1) := by decide +kernel
theorem dX10_turn_47 : decode cX10_turn 47 = .ok (.bipush 20, 2) := by decide +kernel
theorem dX10_turn_49 : decode cX10_turn 49 = .ok (.if_icmp .ne 6, 3) := by decide +kernel
theorem dX10_turn_52 : decode cX10_turn 52 = .ok (.ldc 51, 2) := by decide +kernel
theorem dX10_turn_54 : decode cX10_turn 54 = .ok (.ireturn, 1) := by decide +kernel
theorem dX10_turn_55 : decode cX10_turn 55 = .ok (.aload_n 0, 1) := by decide +kernel
theorem dX10_turn_56 : decode cX10_turn 56 = .ok (.invokevirtual 52, 3) := by decide +kernel
theorem dX10_turn_59 : decode cX10_turn 59 = .ok (.aload_n 0, 1) := by decide +kernel
theorem dX10_turn_60 : decode cX10_turn 60 = .ok (.iload_n 1, 1) := by decide +kernel
theorem dX10_turn_61 : decode cX10_turn 61 = .ok (.invokevirtual 55, 3) := by decide +kernel
theorem dX10_turn_64 : decode cX10_turn 64 = .ok (.istore 4, 2) := by decide +kernel
theorem dX10_turn_66 : decode cX10_turn 66 = .ok (.aload_n 0, 1) := by decide +kernel
theorem dX10_turn_67 : decode cX10_turn 67 = .ok (.iload 4, 2) := by decide +kernel
theorem dX10_turn_69 : decode cX10_turn 69 = .ok (.iconst 0, 1) := by decide +kernel
theorem dX10_turn_70 : decode cX10_turn 70 = .ok (.iload_n 1, 1) := by decide +kernel
theorem dX10_turn_71 : decode cX10_turn 71 = .ok (.invokevirtual 59, 3) := by decide +kernel
theorem dX10_turn_74 : decode cX10_turn 74 = .ok (.aload_n 0, 1) := by decide +kernel
theorem dX10_turn_75 : decode cX10_turn 75 = .ok (.iload 4, 2) := by decide +kernel
theorem dX10_turn_77 : decode cX10_turn 77 = .ok (.iconst 1, 1) := by decide +kernel
theorem dX10_turn_78 : decode cX10_turn 78 = .ok (.iload_n 2, 1) := by decide +kernel
theorem dX10_turn_79 : decode cX10_turn 79 = .ok (.invokevirtual 59, 3) := by decide +kernel
theorem dX10_turn_82 : decode cX10_turn 82 = .ok (.aload_n 0, 1) := by decide +kernel
theorem dX10_turn_83 : decode cX10_turn 83 = .ok (.iload 4, 2) := by decide +kernel
theorem dX10_turn_85 : decode cX10_turn 85 = .ok (.iconst 2, 1) := by decide +kernel
theorem dX10_turn_86 : decode cX10_turn 86 = .ok (.iload_n 3, 1) := by decide +kernel
theorem dX10_turn_87 : decode cX10_turn 87 = .ok (.invokevirtual 59, 3) := by decide +kernel
theorem dX10_turn_90 : decode cX10_turn 90 = .ok (.aload_n 0, 1) := by decide +kernel
theorem dX10_turn_91 : decode cX10_turn 91 = .ok (.iload 4, 2) := by decide +kernel
theorem dX10_turn_93 : decode cX10_turn 93 = .ok (.iconst 3, 1) := by decide +kernel
theorem dX10_turn_94 : decode cX10_turn 94 = .ok (.aload_n 0, 1) := by decide +kernel
theorem dX10_turn_95 : decode cX10_turn 95 = .ok (.iload_n 3, 1) := by decide +kernel
theorem dX10_turn_96 : decode cX10_turn 96 = .ok (.invokevirtual 63, 3) := by decide +kernel
theorem dX10_turn_99 : decode cX10_turn 99 = .ok (.invokevirtual 59, 3) := by decide +kernel
theorem dX10_turn_102 : decode cX10_turn 102 = .ok (.aload_n 0, 1) := by decide +kernel
theorem dX10_turn_103 : decode cX10_turn 103 = .ok (.iload 4, 2) := by decide +kernel
theorem dX10_turn_105 : decode cX10_turn 105 = .ok (.iconst 4, 1) := by decide +kernel
theorem dX10_turn_106 : decode cX10_turn 106 = .ok (.iconst 0, 1) := by decide +kernel
theorem dX10_turn_107 : decode cX10_turn 107 = .ok (.invokevirtual 59, 3) := by decide +kernel
theorem dX10_turn_110 : decode cX10_turn 110 = .ok (.iload 4, 2) := by decide +kernel
theorem dX10_turn_112 : decode cX10_turn 112 = .ok (.ireturn, 1) := by decide +kernel
theorem dX10_say_0 : decode cX10_say 0 = .ok (.aload_n 0, 1) := by decide +kernel
theorem dX10_say_1 : decode cX10_say 1 = .ok (.iload_n 1, 1) := by decide +kernel
theorem dX10_say_2 : decode cX10_say 2 = .ok (.invokevirtual 66, 3) := by decide +kernel
theorem dX10_say_5 : decode cX10_say 5 = .ok (.ifCond .eq 10, 3) := by decide +kernel
theorem dX10_say_8 : decode cX10_say 8 = .ok (.iload_n 2, 1) := by decide +kernel
theorem dX10_say_9 : decode cX10_say 9 = .ok (.invokestatic 70, 3) := by decide +kernel
theorem dX10_say_12 : decode cX10_say 12 = .ok (.ifCond .ne 6, 3) := by decide +kernel
theorem dX10_say_15 : decode cX10_say 15 = .ok (.ldc 50, 2) := by decide +kernel
theorem dX10_say_17 : decode cX10_say 17 = .ok (.ireturn, 1) := by decide +kernel
theorem dX10_say_18 : decode cX10_say 18 = .ok (.aload_n 0, 1) := by decide +kernel
theorem dX10_say_19 : decode cX10_say 19 = .ok (.iload_n 1, 1) := by decide +kernel
theorem dX10_say_20 : decode cX10_say 20 = .ok (.iconst 4, 1) := by decide +kernel
theorem dX10_say_21 : decode cX10_say 21 = .ok (.invokevirtual 47, 3) := by decide +kernel
theorem dX10_say_24 : decode cX10_say 24 = .ok (.istore_n 3, 1) := by decide +kernel
theorem dX10_say_25 : decode cX10_say 25 = .ok (.iload_n 3, 1) := by decide +kernel
theorem dX10_say_26 : decode cX10_say 26 = .ok (.bipush 8, 2) := by decide +kernel
theorem dX10_say_28 : decode cX10_say 28 = .ok (.if_icmp .ne 6, 3) := by decide +kernel
theorem dX10_say_31 : decode cX10_say 31 = .ok (.ldc 51, 2) := by decide +kernel
theorem dX10_say_33 : decode cX10_say 33 = .ok (.ireturn, 1) := by decide +kernel
theorem dX10_say_34 : decode cX10_say 34 = .ok (.aload_n 0, 1) := by decide +kernel
theorem dX10_say_35 : decode cX10_say 35 = .ok (.invokevirtual 52, 3) := by decide +kernel
theorem dX10_say_38 : decode cX10_say 38 = .ok (.aload_n 0, 1) := by decide +kernel
theorem dX10_say_39 : decode cX10_say 39 = .ok (.iload_n 1, 1) := by decide +kernel
theorem dX10_say_40 : decode cX10_say 40 = .ok (.iconst 5, 1) := by decide +kernel
theorem dX10_say_41 : decode cX10_say 41 = .ok (.iload_n 3, 1) := by decide +kernel
theorem dX10_say_42 : decode cX10_say 42 = .ok (.iadd, 1) := by decide +kernel
theorem dX10_say_43 : decode cX10_say 43 = .ok (.iload_n 2, 1) := by decide +kernel
theorem dX10_say_44 : decode cX10_say 44 = .ok (.invokevirtual 59, 3) := by decide +kernel
theorem dX10_say_47 : decode cX10_say 47 = .ok (.aload_n 0, 1) := by decide +kernel
theorem dX10_say_48 : decode cX10_say 48 = .ok (.iload_n 1, 1) := by decide +kernel
theorem dX10_say_49 : decode cX10_say 49 = .ok (.iconst 4, 1) := by decide +kernel
theorem dX10_say_50 : decode cX10_say 50 = .ok (.iload_n 3, 1) := by decide +kernel
theorem dX10_say_51 : decode cX10_say 51 = .ok (.iconst 1, 1) := by decide +kernel
theorem dX10_say_52 : decode cX10_say 52 = .ok (.iadd, 1) := by decide +kernel
theorem dX10_say_53 : decode cX10_say 53 = .ok (.invokevirtual 59, 3) := by decide +kernel
theorem dX10_say_56 : decode cX10_say 56 = .ok (.iload_n 3, 1) := by decide +kernel
theorem dX10_say_57 : decode cX10_say 57 = .ok (.iconst 1, 1) := by decide +kernel
theorem dX10_say_58 : decode cX10_say 58 = .ok (.iadd, 1) := by decide +kernel
theorem dX10_say_59 : decode cX10_say 59 = .ok (.ireturn, 1) := by decide +kernel
theorem dX10_part_0 : decode cX10_part 0 = .ok (.aload_n 0, 1) := by decide +kernel
theorem dX10_part_1 : decode cX10_part 1 = .ok (.iload_n 1, 1) := by decide +kernel
theorem dX10_part_2 : decode cX10_part 2 = .ok (.invokevirtual 66, 3) := by decide +kernel
theorem dX10_part_5 : decode cX10_part 5 = .ok (.ifCond .eq 37, 3) := by decide +kernel
theorem dX10_part_8 : decode cX10_part 8 = .ok (.iload_n 2, 1) := by decide +kernel
theorem dX10_part_9 : decode cX10_part 9 = .ok (.aload_n 0, 1) := by decide +kernel
theorem dX10_part_10 : decode cX10_part 10 = .ok (.iload_n 1, 1) := by decide +kernel
theorem dX10_part_11 : decode cX10_part 11 = .ok (.iconst 0, 1) := by decide +kernel
theorem dX10_part_12 : decode cX10_part 12 = .ok (.invokevirtual 47, 3) := by decide +kernel
theorem dX10_part_15 : decode cX10_part 15 = .ok (.if_icmp .le 27, 3) := by decide +kernel
theorem dX10_part_18 : decode cX10_part 18 = .ok (.iload_n 2, 1) := by decide +kernel
theorem dX10_part_19 : decode cX10_part 19 = .ok (.aload_n 0, 1) := by decide +kernel
theorem dX10_part_20 : decode cX10_part 20 = .ok (.iload_n 1, 1) := by decide +kernel
theorem dX10_part_21 : decode cX10_part 21 = .ok (.iconst 1, 1) := by decide +kernel
theorem dX10_part_22 : decode cX10_part 22 = .ok (.invokevirtual 47, 3) := by decide +kernel
theorem dX10_part_25 : decode cX10_part 25 = .ok (.if_icmp .ge 17, 3) := by decide +kernel
theorem dX10_part_28 : decode cX10_part 28 = .ok (.iload_n 3, 1) := by decide +kernel
theorem dX10_part_29 : decode cX10_part 29 = .ok (.iconst 0, 1) := by decide +kernel
theorem dX10_part_30 : decode cX10_part 30 = .ok (.aload_n 0, 1) := by decide +kernel
theorem dX10_part_31 : decode cX10_part 31 = .ok (.iload_n 1, 1) := by decide +kernel
theorem dX10_part_32 : decode cX10_part 32 = .ok (.iconst 4, 1) := by decide +kernel
theorem dX10_part_33 : decode cX10_part 33 = .ok (.invokevirtual 47, 3) := by decide +kernel
theorem dX10_part_36 : decode cX10_part 36 = .ok (.invokestatic 39, 3) := by decide +kernel
theorem dX10_part_39 : decode cX10_part 39 = .ok (.ifCond .ne 6, 3) := by decide +kernel
theorem dX10_part_42 : decode cX10_part 42 = .ok (.ldc 50, 2) := by decide +kernel
theorem dX10_part_44 : decode cX10_part 44 = .ok (.ireturn, 1) := by decide +kernel
theorem dX10_part_45 : decode cX10_part 45 = .ok (.aload_n 0, 1) := by decide +kernel
theorem dX10_part_46 : decode cX10_part 46 = .ok (.getfield 7, 3) := by decide +kernel
theorem dX10_part_49 : decode cX10_part 49 = .ok (.sipush 282, 3) := by decide +kernel
theorem dX10_part_52 : decode cX10_part 52 = .ok (.iaload, 1) := by decide +kernel
theorem dX10_part_53 : decode cX10_part 53 = .ok (.bipush 20, 2) := by decide +kernel
theorem dX10_part_55 : decode cX10_part 55 = .ok (.if_icmp .ne 6, 3) := by decide +kernel
theorem dX10_part_58 : decode cX10_part 58 = .ok (.ldc 51, 2) := by decide +kernel
theorem dX10_part_60 : decode cX10_part 60 = .ok (.ireturn, 1) := by decide +kernel
theorem dX10_part_61 : decode cX10_part 61 = .ok (.aload_n 0, 1) := by decide +kernel
theorem dX10_part_62 : decode cX10_part 62 = .ok (.invokevirtual 52, 3) := by decide +kernel
theorem dX10_part_65 : decode cX10_part 65 = .ok (.iconst 0, 1) := by decide +kernel
theorem dX10_part_66 : decode cX10_part 66 = .ok (.istore 4, 2) := by decide +kernel
theorem dX10_part_68 : decode cX10_part 68 = .ok (.iload 4, 2) := by decide +kernel
theorem dX10_part_70 : decode cX10_part 70 = .ok (.bipush 13, 2) := by decide +kernel
theorem dX10_part_72 : decode cX10_part 72 = .ok (.if_icmp .ge 23, 3) := by decide +kernel
theorem dX10_part_75 : decode cX10_part 75 = .ok (.aload_n 0, 1) := by decide +kernel
theorem dX10_part_76 : decode cX10_part 76 = .ok (.getfield 22, 3) := by decide +kernel
theorem dX10_part_79 : decode cX10_part 79 = .ok (.iload 4, 2) := by decide +kernel
theorem dX10_part_81 : decode cX10_part 81 = .ok (.aload_n 0, 1) := by decide +kernel
theorem dX10_part_82 : decode cX10_part 82 = .ok (.iload_n 1, 1) := by decide +kernel
theorem dX10_part_83 : decode cX10_part 83 = .ok (.iload 4, 2) := by decide +kernel
theorem dX10_part_85 : decode cX10_part 85 = .ok (.invokevirtual 47, 3) := by decide +kernel
theorem dX10_part_88 : decode cX10_part 88 = .ok (.iastore, 1) := by decide +kernel
theorem dX10_part_89 : decode cX10_part 89 = .ok (.iinc 4 1, 3) := by decide +kernel
theorem dX10_part_92 : decode cX10_part 92 = .ok (.goto (-24), 3) := by decide +kernel
theorem dX10_part_95 : decode cX10_part 95 = .ok (.aload_n 0, 1) := by decide +kernel
theorem dX10_part_96 : decode cX10_part 96 = .ok (.iload_n 1, 1) := by decide +kernel
theorem dX10_part_97 : decode cX10_part 97 = .ok (.iconst 1, 1) := by decide +kernel
theorem dX10_part_98 : decode cX10_part 98 = .ok (.iload_n 2, 1) := by decide +kernel
theorem dX10_part_99 : decode cX10_part 99 = .ok (.invokevirtual 59, 3) := by decide +kernel
theorem dX10_part_102 : decode cX10_part 102 = .ok (.aload_n 0, 1) := by decide +kernel
theorem dX10_part_103 : decode cX10_part 103 = .ok (.iload_n 1, 1) := by decide +kernel
theorem dX10_part_104 : decode cX10_part 104 = .ok (.iconst 4, 1) := by decide +kernel
theorem dX10_part_105 : decode cX10_part 105 = .ok (.iload_n 3, 1) := by decide +kernel
theorem dX10_part_106 : decode cX10_part 106 = .ok (.invokevirtual 59, 3) := by decide +kernel
theorem dX10_part_109 : decode cX10_part 109 = .ok (.aload_n 0, 1) := by decide +kernel
theorem dX10_part_110 : decode cX10_part 110 = .ok (.iload_n 2, 1) := by decide +kernel
theorem dX10_part_111 : decode cX10_part 111 = .ok (.invokevirtual 55, 3) := by decide +kernel
theorem dX10_part_114 : decode cX10_part 114 = .ok (.istore 4, 2) := by decide +kernel
theorem dX10_part_116 : decode cX10_part 116 = .ok (.iconst 0, 1) := by decide +kernel
theorem dX10_part_117 : decode cX10_part 117 = .ok (.istore 5, 2) := by decide +kernel
theorem dX10_part_119 : decode cX10_part 119 = .ok (.iload 5, 2) := by decide +kernel
theorem dX10_part_121 : decode cX10_part 121 = .ok (.bipush 13, 2) := by decide +kernel
theorem dX10_part_123 : decode cX10_part 123 = .ok (.if_icmp .ge 24, 3) := by decide +kernel
theorem dX10_part_126 : decode cX10_part 126 = .ok (.aload_n 0, 1) := by decide +kernel
theorem dX10_part_127 : decode cX10_part 127 = .ok (.iload 4, 2) := by decide +kernel
theorem dX10_part_129 : decode cX10_part 129 = .ok (.iload 5, 2) := by decide +kernel
theorem dX10_part_131 : decode cX10_part 131 = .ok (.aload_n 0, 1) := by decide +kernel
theorem dX10_part_132 : decode cX10_part 132 = .ok (.getfield 22, 3) := by decide +kernel
theorem dX10_part_135 : decode cX10_part 135 = .ok (.iload 5, 2) := by decide +kernel
theorem dX10_part_137 : decode cX10_part 137 = .ok (.iaload, 1) := by decide +kernel
theorem dX10_part_138 : decode cX10_part 138 = .ok (.invokevirtual 59, 3) := by decide +kernel
theorem dX10_part_141 : decode cX10_part 141 = .ok (.iinc 5 1, 3) := by decide +kernel
theorem dX10_part_144 : decode cX10_part 144 = .ok (.goto (-25), 3) := by decide +kernel
theorem dX10_part_147 : decode cX10_part 147 = .ok (.aload_n 0, 1) := by decide +kernel
theorem dX10_part_148 : decode cX10_part 148 = .ok (.iload 4, 2) := by decide +kernel
theorem dX10_part_150 : decode cX10_part 150 = .ok (.iconst 0, 1) := by decide +kernel
theorem dX10_part_151 : decode cX10_part 151 = .ok (.iload_n 2, 1) := by decide +kernel
theorem dX10_part_152 : decode cX10_part 152 = .ok (.invokevirtual 59, 3) := by decide +kernel
theorem dX10_part_155 : decode cX10_part 155 = .ok (.aload_n 0, 1) := by decide +kernel
theorem dX10_part_156 : decode cX10_part 156 = .ok (.iload 4, 2) := by decide +kernel
theorem dX10_part_158 : decode cX10_part 158 = .ok (.iconst 4, 1) := by decide +kernel
theorem dX10_part_159 : decode cX10_part 159 = .ok (.aload_n 0, 1) := by decide +kernel
theorem dX10_part_160 : decode cX10_part 160 = .ok (.getfield 22, 3) := by decide +kernel
theorem dX10_part_163 : decode cX10_part 163 = .ok (.iconst 4, 1) := by decide +kernel
theorem dX10_part_164 : decode cX10_part 164 = .ok (.iaload, 1) := by decide +kernel
theorem dX10_part_165 : decode cX10_part 165 = .ok (.iload_n 3, 1) := by decide +kernel
theorem dX10_part_166 : decode cX10_part 166 = .ok (.isub, 1) := by decide +kernel
theorem dX10_part_167 : decode cX10_part 167 = .ok (.invokevirtual 59, 3) := by decide +kernel
theorem dX10_part_170 : decode cX10_part 170 = .ok (.iload_n 3, 1) := by decide +kernel
theorem dX10_part_171 : decode cX10_part 171 = .ok (.istore 5, 2) := by decide +kernel
theorem dX10_part_173 : decode cX10_part 173 = .ok (.iload 5, 2) := by decide +kernel
theorem dX10_part_175 : decode cX10_part 175 = .ok (.aload_n 0, 1) := by decide +kernel
theorem dX10_part_176 : decode cX10_part 176 = .ok (.getfield 22, 3) := by decide +kernel
theorem dX10_part_179 : decode cX10_part 179 = .ok (.iconst 4, 1) := by decide +kernel
theorem dX10_part_180 : decode cX10_part 180 = .ok (.iaload, 1) := by decide +kernel
theorem dX10_part_181 : decode cX10_part 181 = .ok (.if_icmp .ge 30, 3) := by decide +kernel
theorem dX10_part_184 : decode cX10_part 184 = .ok (.aload_n 0, 1) := by decide +kernel
theorem dX10_part_185 : decode cX10_part 185 = .ok (.iload 4, 2) := by decide +kernel
theorem dX10_part_187 : decode cX10_part 187 = .ok (.iconst 5, 1) := by decide +kernel
theorem dX10_part_188 : decode cX10_part 188 = .ok (.iload 5, 2) := by decide +kernel
theorem dX10_part_190 : decode cX10_part 190 = .ok (.iadd, 1) := by decide +kernel
theorem dX10_part_191 : decode cX10_part 191 = .ok (.iload_n 3, 1) := by decide +kernel
theorem dX10_part_192 : decode cX10_part 192 = .ok (.isub, 1) := by decide +kernel
theorem dX10_part_193 : decode cX10_part 193 = .ok (.aload_n 0, 1) := by decide +kernel
theorem dX10_part_194 : decode cX10_part 194 = .ok (.getfield 22, 3) := by decide +kernel
theorem dX10_part_197 : decode cX10_part 197 = .ok (.iconst 5, 1) := by decide +kernel
theorem dX10_part_198 : decode cX10_part 198 = .ok (.iload 5, 2) := by decide +kernel
theorem dX10_part_200 : decode cX10_part 200 = .ok (.iadd, 1) := by decide +kernel
theorem dX10_part_201 : decode cX10_part 201 = .ok (.iaload, 1) := by decide +kernel
theorem dX10_part_202 : decode cX10_part 202 = .ok (.invokevirtual 59, 3) := by decide +kernel
theorem dX10_part_205 : decode cX10_part 205 = .ok (.iinc 5 1, 3) := by decide +kernel
theorem dX10_part_208 : decode cX10_part 208 = .ok (.goto (-35), 3) := by decide +kernel
theorem dX10_part_211 : decode cX10_part 211 = .ok (.iload 4, 2) := by decide +kernel
theorem dX10_part_213 : decode cX10_part 213 = .ok (.ireturn, 1) := by decide +kernel
theorem dX10_remove_0 : decode cX10_remove 0 = .ok (.aload_n 0, 1) := by decide +kernel
theorem dX10_remove_1 : decode cX10_remove 1 = .ok (.iload_n 1, 1) := by decide +kernel
theorem dX10_remove_2 : decode cX10_remove 2 = .ok (.invokevirtual 66, 3) := by decide +kernel
theorem dX10_remove_5 : decode cX10_remove 5 = .ok (.ifCond .ne 6, 3) := by decide +kernel
theorem dX10_remove_8 : decode cX10_remove 8 = .ok (.ldc 50, 2) := by decide +kernel
theorem dX10_remove_10 : decode cX10_remove 10 = .ok (.ireturn, 1) := by decide +kernel
theorem dX10_remove_11 : decode cX10_remove 11 = .ok (.aload_n 0, 1) := by decide +kernel
theorem dX10_remove_12 : decode cX10_remove 12 = .ok (.invokevirtual 52, 3) := by decide +kernel
theorem dX10_remove_15 : decode cX10_remove 15 = .ok (.aload_n 0, 1) := by decide +kernel
theorem dX10_remove_16 : decode cX10_remove 16 = .ok (.getfield 7, 3) := by decide +kernel
theorem dX10_remove_19 : decode cX10_remove 19 = .ok (.sipush 282, 3) := by decide +kernel
theorem dX10_remove_22 : decode cX10_remove 22 = .ok (.dup2, 1) := by decide +kernel
theorem dX10_remove_23 : decode cX10_remove 23 = .ok (.iaload, 1) := by decide +kernel
theorem dX10_remove_24 : decode cX10_remove 24 = .ok (.iconst 1, 1) := by decide +kernel
theorem dX10_remove_25 : decode cX10_remove 25 = .ok (.isub, 1) := by decide +kernel
theorem dX10_remove_26 : decode cX10_remove 26 = .ok (.iastore, 1) := by decide +kernel
theorem dX10_remove_27 : decode cX10_remove 27 = .ok (.bipush 13, 2) := by decide +kernel
theorem dX10_remove_29 : decode cX10_remove 29 = .ok (.iload_n 1, 1) := by decide +kernel
theorem dX10_remove_30 : decode cX10_remove 30 = .ok (.imul, 1) := by decide +kernel
theorem dX10_remove_31 : decode cX10_remove 31 = .ok (.istore_n 2, 1) := by decide +kernel
theorem dX10_remove_32 : decode cX10_remove 32 = .ok (.iload_n 2, 1) := by decide +kernel
theorem dX10_remove_33 : decode cX10_remove 33 = .ok (.bipush 13, 2) := by decide +kernel
theorem dX10_remove_35 : decode cX10_remove 35 = .ok (.aload_n 0, 1) := by decide +kernel
theorem dX10_remove_36 : decode cX10_remove 36 = .ok (.getfield 7, 3) := by decide +kernel
theorem dX10_remove_39 : decode cX10_remove 39 = .ok (.sipush 282, 3) := by decide +kernel
theorem dX10_remove_42 : decode cX10_remove 42 = .ok (.iaload, 1) := by decide +kernel
theorem dX10_remove_43 : decode cX10_remove 43 = .ok (.imul, 1) := by decide +kernel
theorem dX10_remove_44 : decode cX10_remove 44 = .ok (.if_icmp .ge 24, 3) := by decide +kernel
theorem dX10_remove_47 : decode cX10_remove 47 = .ok (.aload_n 0, 1) := by decide +kernel
theorem dX10_remove_48 : decode cX10_remove 48 = .ok (.getfield 7, 3) := by decide +kernel
theorem dX10_remove_51 : decode cX10_remove 51 = .ok (.iload_n 2, 1) := by decide +kernel
theorem dX10_remove_52 : decode cX10_remove 52 = .ok (.aload_n 0, 1) := by decide +kernel
theorem dX10_remove_53 : decode cX10_remove 53 = .ok (.getfield 7, 3) := by decide +kernel
theorem dX10_remove_56 : decode cX10_remove 56 = .ok (.iload_n 2, 1) := by decide +kernel
theorem dX10_remove_57 : decode cX10_remove 57 = .ok (.bipush 13, 2) := by decide +kernel
theorem dX10_remove_59 : decode cX10_remove 59 = .ok (.iadd, 1) := by decide +kernel
theorem dX10_remove_60 : decode cX10_remove 60 = .ok (.iaload, 1) := by decide +kernel
theorem dX10_remove_61 : decode cX10_remove 61 = .ok (.iastore, 1) := by decide +kernel
theorem dX10_remove_62 : decode cX10_remove 62 = .ok (.iinc 2 1, 3) := by decide +kernel
theorem dX10_remove_65 : decode cX10_remove 65 = .ok (.goto (-33), 3) := by decide +kernel
theorem dX10_remove_68 : decode cX10_remove 68 = .ok (.aload_n 0, 1) := by decide +kernel
theorem dX10_remove_69 : decode cX10_remove 69 = .ok (.getfield 7, 3) := by decide +kernel
theorem dX10_remove_72 : decode cX10_remove 72 = .ok (.sipush 282, 3) := by decide +kernel
theorem dX10_remove_75 : decode cX10_remove 75 = .ok (.iaload, 1) := by decide +kernel
theorem dX10_remove_76 : decode cX10_remove 76 = .ok (.ireturn, 1) := by decide +kernel
theorem dX10_shown_0 : decode cX10_shown 0 = .ok (.iload_n 1, 1) := by decide +kernel
theorem dX10_shown_1 : decode cX10_shown 1 = .ok (.istore_n 2, 1) := by decide +kernel
theorem dX10_shown_2 : decode cX10_shown 2 = .ok (.aload_n 0, 1) := by decide +kernel
theorem dX10_shown_3 : decode cX10_shown 3 = .ok (.getfield 7, 3) := by decide +kernel
theorem dX10_shown_6 : decode cX10_shown 6 = .ok (.sipush 260, 3) := by decide +kernel
theorem dX10_shown_9 : decode cX10_shown 9 = .ok (.iload_n 2, 1) := by decide +kernel
theorem dX10_shown_10 : decode cX10_shown 10 = .ok (.iadd, 1) := by decide +kernel
theorem dX10_shown_11 : decode cX10_shown 11 = .ok (.iaload, 1) := by decide +kernel
theorem dX10_shown_12 : decode cX10_shown 12 = .ok (.ifCond .lt 17, 3) := by decide +kernel
theorem dX10_shown_15 : decode cX10_shown 15 = .ok (.aload_n 0, 1) := by decide +kernel
theorem dX10_shown_16 : decode cX10_shown 16 = .ok (.getfield 7, 3) := by decide +kernel
theorem dX10_shown_19 : decode cX10_shown 19 = .ok (.sipush 260, 3) := by decide +kernel
theorem dX10_shown_22 : decode cX10_shown 22 = .ok (.iload_n 2, 1) := by decide +kernel
theorem dX10_shown_23 : decode cX10_shown 23 = .ok (.iadd, 1) := by decide +kernel
theorem dX10_shown_24 : decode cX10_shown 24 = .ok (.iaload, 1) := by decide +kernel
theorem dX10_shown_25 : decode cX10_shown 25 = .ok (.istore_n 2, 1) := by decide +kernel
theorem dX10_shown_26 : decode cX10_shown 26 = .ok (.goto (-24), 3) := by decide +kernel
theorem dX10_shown_29 : decode cX10_shown 29 = .ok (.iload_n 2, 1) := by decide +kernel
theorem dX10_shown_30 : decode cX10_shown 30 = .ok (.ireturn, 1) := by decide +kernel
theorem dX10_isOn_0 : decode cX10_isOn 0 = .ok (.iload_n 2, 1) := by decide +kernel
theorem dX10_isOn_1 : decode cX10_isOn 1 = .ok (.istore_n 3, 1) := by decide +kernel
theorem dX10_isOn_2 : decode cX10_isOn 2 = .ok (.iload_n 3, 1) := by decide +kernel
theorem dX10_isOn_3 : decode cX10_isOn 3 = .ok (.iload_n 1, 1) := by decide +kernel
theorem dX10_isOn_4 : decode cX10_isOn 4 = .ok (.if_icmp .eq 30, 3) := by decide +kernel
theorem dX10_isOn_7 : decode cX10_isOn 7 = .ok (.aload_n 0, 1) := by decide +kernel
theorem dX10_isOn_8 : decode cX10_isOn 8 = .ok (.getfield 7, 3) := by decide +kernel
theorem dX10_isOn_11 : decode cX10_isOn 11 = .ok (.sipush 260, 3) := by decide +kernel
theorem dX10_isOn_14 : decode cX10_isOn 14 = .ok (.iload_n 3, 1) := by decide +kernel
theorem dX10_isOn_15 : decode cX10_isOn 15 = .ok (.iadd, 1) := by decide +kernel
theorem dX10_isOn_16 : decode cX10_isOn 16 = .ok (.iaload, 1) := by decide +kernel
theorem dX10_isOn_17 : decode cX10_isOn 17 = .ok (.ifCond .lt 17, 3) := by decide +kernel
theorem dX10_isOn_20 : decode cX10_isOn 20 = .ok (.aload_n 0, 1) := by decide +kernel
theorem dX10_isOn_21 : decode cX10_isOn 21 = .ok (.getfield 7, 3) := by decide +kernel
theorem dX10_isOn_24 : decode cX10_isOn 24 = .ok (.sipush 260, 3) := by decide +kernel
theorem dX10_isOn_27 : decode cX10_isOn 27 = .ok (.iload_n 3, 1) := by decide +kernel
theorem dX10_isOn_28 : decode cX10_isOn 28 = .ok (.iadd, 1) := by decide +kernel
theorem dX10_isOn_29 : decode cX10_isOn 29 = .ok (.iaload, 1) := by decide +kernel
theorem dX10_isOn_30 : decode cX10_isOn 30 = .ok (.istore_n 3, 1) := by decide +kernel
theorem dX10_isOn_31 : decode cX10_isOn 31 = .ok (.goto (-29), 3) := by decide +kernel
theorem dX10_isOn_34 : decode cX10_isOn 34 = .ok (.iload_n 3, 1) := by decide +kernel
theorem dX10_isOn_35 : decode cX10_isOn 35 = .ok (.iload_n 1, 1) := by decide +kernel
theorem dX10_isOn_36 : decode cX10_isOn 36 = .ok (.if_icmp .ne 7, 3) := by decide +kernel
theorem dX10_isOn_39 : decode cX10_isOn 39 = .ok (.iconst 1, 1) := by decide +kernel
theorem dX10_isOn_40 : decode cX10_isOn 40 = .ok (.goto 4, 3) := by decide +kernel
theorem dX10_isOn_43 : decode cX10_isOn 43 = .ok (.iconst 0, 1) := by decide +kernel
theorem dX10_isOn_44 : decode cX10_isOn 44 = .ok (.ireturn, 1) := by decide +kernel
theorem dX10_turnsTo_0 : decode cX10_turnsTo 0 = .ok (.aload_n 0, 1) := by decide +kernel
theorem dX10_turnsTo_1 : decode cX10_turnsTo 1 = .ok (.getfield 7, 3) := by decide +kernel
theorem dX10_turnsTo_4 : decode cX10_turnsTo 4 = .ok (.sipush 260, 3) := by decide +kernel
theorem dX10_turnsTo_7 : decode cX10_turnsTo 7 = .ok (.iload_n 1, 1) := by decide +kernel
theorem dX10_turnsTo_8 : decode cX10_turnsTo 8 = .ok (.iadd, 1) := by decide +kernel
theorem dX10_turnsTo_9 : decode cX10_turnsTo 9 = .ok (.iaload, 1) := by decide +kernel
theorem dX10_turnsTo_10 : decode cX10_turnsTo 10 = .ok (.istore 4, 2) := by decide +kernel
theorem dX10_turnsTo_12 : decode cX10_turnsTo 12 = .ok (.iconst 0, 1) := by decide +kernel
theorem dX10_turnsTo_13 : decode cX10_turnsTo 13 = .ok (.istore 5, 2) := by decide +kernel
theorem dX10_turnsTo_15 : decode cX10_turnsTo 15 = .ok (.iload 5, 2) := by decide +kernel
theorem dX10_turnsTo_17 : decode cX10_turnsTo 17 = .ok (.bipush 16, 2) := by decide +kernel
theorem dX10_turnsTo_19 : decode cX10_turnsTo 19 = .ok (.if_icmp .ge 22, 3) := by decide +kernel
theorem dX10_turnsTo_22 : decode cX10_turnsTo 22 = .ok (.aload_n 0, 1) := by decide +kernel
theorem dX10_turnsTo_23 : decode cX10_turnsTo 23 = .ok (.getfield 25, 3) := by decide +kernel
theorem dX10_turnsTo_26 : decode cX10_turnsTo 26 = .ok (.iload 5, 2) := by decide +kernel
theorem dX10_turnsTo_28 : decode cX10_turnsTo 28 = .ok (.aload_n 0, 1) := by decide +kernel
theorem dX10_turnsTo_29 : decode cX10_turnsTo 29 = .ok (.iload 5, 2) := by decide +kernel
theorem dX10_turnsTo_31 : decode cX10_turnsTo 31 = .ok (.invokevirtual 73, 3) := by decide +kernel
theorem dX10_turnsTo_34 : decode cX10_turnsTo 34 = .ok (.iastore, 1) := by decide +kernel
theorem dX10_turnsTo_35 : decode cX10_turnsTo 35 = .ok (.iinc 5 1, 3) := by decide +kernel
theorem dX10_turnsTo_38 : decode cX10_turnsTo 38 = .ok (.goto (-23), 3) := by decide +kernel
theorem dX10_turnsTo_41 : decode cX10_turnsTo 41 = .ok (.aload_n 0, 1) := by decide +kernel
theorem dX10_turnsTo_42 : decode cX10_turnsTo 42 = .ok (.getfield 7, 3) := by decide +kernel
theorem dX10_turnsTo_45 : decode cX10_turnsTo 45 = .ok (.sipush 260, 3) := by decide +kernel
theorem dX10_turnsTo_48 : decode cX10_turnsTo 48 = .ok (.iload_n 1, 1) := by decide +kernel
theorem dX10_turnsTo_49 : decode cX10_turnsTo 49 = .ok (.iadd, 1) := by decide +kernel
theorem dX10_turnsTo_50 : decode cX10_turnsTo 50 = .ok (.iload_n 2, 1) := by decide +kernel
theorem dX10_turnsTo_51 : decode cX10_turnsTo 51 = .ok (.iastore, 1) := by decide +kernel
theorem dX10_turnsTo_52 : decode cX10_turnsTo 52 = .ok (.iconst 0, 1) := by decide +kernel
theorem dX10_turnsTo_53 : decode cX10_turnsTo 53 = .ok (.istore 5, 2) := by decide +kernel
theorem dX10_turnsTo_55 : decode cX10_turnsTo 55 = .ok (.iconst 0, 1) := by decide +kernel
theorem dX10_turnsTo_56 : decode cX10_turnsTo 56 = .ok (.istore 6, 2) := by decide +kernel
theorem dX10_turnsTo_58 : decode cX10_turnsTo 58 = .ok (.iload 6, 2) := by decide +kernel
theorem dX10_turnsTo_60 : decode cX10_turnsTo 60 = .ok (.aload_n 0, 1) := by decide +kernel
theorem dX10_turnsTo_61 : decode cX10_turnsTo 61 = .ok (.getfield 7, 3) := by decide +kernel
theorem dX10_turnsTo_64 : decode cX10_turnsTo 64 = .ok (.sipush 282, 3) := by decide +kernel
theorem dX10_turnsTo_67 : decode cX10_turnsTo 67 = .ok (.iaload, 1) := by decide +kernel
theorem dX10_turnsTo_68 : decode cX10_turnsTo 68 = .ok (.if_icmp .ge 72, 3) := by decide +kernel
theorem dX10_turnsTo_71 : decode cX10_turnsTo 71 = .ok (.iconst 0, 1) := by decide +kernel
theorem dX10_turnsTo_72 : decode cX10_turnsTo 72 = .ok (.istore 7, 2) := by decide +kernel
theorem dX10_turnsTo_74 : decode cX10_turnsTo 74 = .ok (.iload 7, 2) := by decide +kernel
theorem dX10_turnsTo_76 : decode cX10_turnsTo 76 = .ok (.aload_n 0, 1) := by decide +kernel
theorem dX10_turnsTo_77 : decode cX10_turnsTo 77 = .ok (.iload 6, 2) := by decide +kernel
theorem dX10_turnsTo_79 : decode cX10_turnsTo 79 = .ok (.iconst 4, 1) := by decide +kernel
theorem dX10_turnsTo_80 : decode cX10_turnsTo 80 = .ok (.invokevirtual 47, 3) := by decide +kernel
theorem dX10_turnsTo_83 : decode cX10_turnsTo 83 = .ok (.if_icmp .ge 51, 3) := by decide +kernel
theorem dX10_turnsTo_86 : decode cX10_turnsTo 86 = .ok (.iload 5, 2) := by decide +kernel
theorem dX10_turnsTo_88 : decode cX10_turnsTo 88 = .ok (.aload_n 0, 1) := by decide +kernel
theorem dX10_turnsTo_89 : decode cX10_turnsTo 89 = .ok (.aload_n 0, 1) := by decide +kernel
theorem dX10_turnsTo_90 : decode cX10_turnsTo 90 = .ok (.iload 6, 2) := by decide +kernel
theorem dX10_turnsTo_92 : decode cX10_turnsTo 92 = .ok (.iconst 5, 1) := by decide +kernel
theorem dX10_turnsTo_93 : decode cX10_turnsTo 93 = .ok (.iload 7, 2) := by decide +kernel
theorem dX10_turnsTo_95 : decode cX10_turnsTo 95 = .ok (.iadd, 1) := by decide +kernel
theorem dX10_turnsTo_96 : decode cX10_turnsTo 96 = .ok (.invokevirtual 47, 3) := by decide +kernel
theorem dX10_turnsTo_99 : decode cX10_turnsTo 99 = .ok (.invokevirtual 73, 3) := by decide +kernel
theorem dX10_turnsTo_102 : decode cX10_turnsTo 102 = .ok (.aload_n 0, 1) := by decide +kernel
theorem dX10_turnsTo_103 : decode cX10_turnsTo 103 = .ok (.getfield 25, 3) := by decide +kernel
theorem dX10_turnsTo_106 : decode cX10_turnsTo 106 = .ok (.aload_n 0, 1) := by decide +kernel
theorem dX10_turnsTo_107 : decode cX10_turnsTo 107 = .ok (.iload 6, 2) := by decide +kernel
theorem dX10_turnsTo_109 : decode cX10_turnsTo 109 = .ok (.iconst 5, 1) := by decide +kernel
theorem dX10_turnsTo_110 : decode cX10_turnsTo 110 = .ok (.iload 7, 2) := by decide +kernel
theorem dX10_turnsTo_112 : decode cX10_turnsTo 112 = .ok (.iadd, 1) := by decide +kernel
theorem dX10_turnsTo_113 : decode cX10_turnsTo 113 = .ok (.invokevirtual 47, 3) := by decide +kernel
theorem dX10_turnsTo_116 : decode cX10_turnsTo 116 = .ok (.iaload, 1) := by decide +kernel
theorem dX10_turnsTo_117 : decode cX10_turnsTo 117 = .ok (.if_icmp .eq 7, 3) := by decide +kernel
theorem dX10_turnsTo_120 : decode cX10_turnsTo 120 = .ok (.iconst 1, 1) := by decide +kernel
theorem dX10_turnsTo_121 : decode cX10_turnsTo 121 = .ok (.goto 4, 3) := by decide +kernel
theorem dX10_turnsTo_124 : decode cX10_turnsTo 124 = .ok (.iconst 0, 1) := by decide +kernel
theorem dX10_turnsTo_125 : decode cX10_turnsTo 125 = .ok (.iadd, 1) := by decide +kernel
theorem dX10_turnsTo_126 : decode cX10_turnsTo 126 = .ok (.istore 5, 2) := by decide +kernel
theorem dX10_turnsTo_128 : decode cX10_turnsTo 128 = .ok (.iinc 7 1, 3) := by decide +kernel
theorem dX10_turnsTo_131 : decode cX10_turnsTo 131 = .ok (.goto (-57), 3) := by decide +kernel
theorem dX10_turnsTo_134 : decode cX10_turnsTo 134 = .ok (.iinc 6 1, 3) := by decide +kernel
theorem dX10_turnsTo_137 : decode cX10_turnsTo 137 = .ok (.goto (-79), 3) := by decide +kernel
theorem dX10_turnsTo_140 : decode cX10_turnsTo 140 = .ok (.aload_n 0, 1) := by decide +kernel
theorem dX10_turnsTo_141 : decode cX10_turnsTo 141 = .ok (.getfield 7, 3) := by decide +kernel
theorem dX10_turnsTo_144 : decode cX10_turnsTo 144 = .ok (.sipush 260, 3) := by decide +kernel
theorem dX10_turnsTo_147 : decode cX10_turnsTo 147 = .ok (.iload_n 1, 1) := by decide +kernel
theorem dX10_turnsTo_148 : decode cX10_turnsTo 148 = .ok (.iadd, 1) := by decide +kernel
theorem dX10_turnsTo_149 : decode cX10_turnsTo 149 = .ok (.iload_n 3, 1) := by decide +kernel
theorem dX10_turnsTo_150 : decode cX10_turnsTo 150 = .ok (.ifCond .eq 7, 3) := by decide +kernel
theorem dX10_turnsTo_153 : decode cX10_turnsTo 153 = .ok (.iload_n 2, 1) := by decide +kernel
theorem dX10_turnsTo_154 : decode cX10_turnsTo 154 = .ok (.goto 5, 3) := by decide +kernel
theorem dX10_turnsTo_157 : decode cX10_turnsTo 157 = .ok (.iload 4, 2) := by decide +kernel
theorem dX10_turnsTo_159 : decode cX10_turnsTo 159 = .ok (.iastore, 1) := by decide +kernel
theorem dX10_turnsTo_160 : decode cX10_turnsTo 160 = .ok (.iload 5, 2) := by decide +kernel
theorem dX10_turnsTo_162 : decode cX10_turnsTo 162 = .ok (.ireturn, 1) := by decide +kernel
theorem dX10_mayCorrect_0 : decode cX10_mayCorrect 0 = .ok (.iload_n 1, 1) := by decide +kernel
theorem dX10_mayCorrect_1 : decode cX10_mayCorrect 1 = .ok (.invokestatic 70, 3) := by decide +kernel
theorem dX10_mayCorrect_4 : decode cX10_mayCorrect 4 = .ok (.ifCond .eq 15, 3) := by decide +kernel
theorem dX10_mayCorrect_7 : decode cX10_mayCorrect 7 = .ok (.iload_n 2, 1) := by decide +kernel
theorem dX10_mayCorrect_8 : decode cX10_mayCorrect 8 = .ok (.invokestatic 70, 3) := by decide +kernel
theorem dX10_mayCorrect_11 : decode cX10_mayCorrect 11 = .ok (.ifCond .eq 8, 3) := by decide +kernel
theorem dX10_mayCorrect_14 : decode cX10_mayCorrect 14 = .ok (.iload_n 1, 1) := by decide +kernel
theorem dX10_mayCorrect_15 : decode cX10_mayCorrect 15 = .ok (.iload_n 2, 1) := by decide +kernel
theorem dX10_mayCorrect_16 : decode cX10_mayCorrect 16 = .ok (.if_icmp .ne 8, 3) := by decide +kernel
theorem dX10_mayCorrect_19 : decode cX10_mayCorrect 19 = .ok (.ldc 50, 2) := by decide +kernel
theorem dX10_mayCorrect_21 : decode cX10_mayCorrect 21 = .ok (.goto 18, 3) := by decide +kernel
theorem dX10_mayCorrect_24 : decode cX10_mayCorrect 24 = .ok (.aload_n 0, 1) := by decide +kernel
theorem dX10_mayCorrect_25 : decode cX10_mayCorrect 25 = .ok (.iload_n 1, 1) := by decide +kernel
theorem dX10_mayCorrect_26 : decode cX10_mayCorrect 26 = .ok (.iload_n 2, 1) := by decide +kernel
theorem dX10_mayCorrect_27 : decode cX10_mayCorrect 27 = .ok (.invokevirtual 76, 3) := by decide +kernel
theorem dX10_mayCorrect_30 : decode cX10_mayCorrect 30 = .ok (.ifCond .eq 8, 3) := by decide +kernel
theorem dX10_mayCorrect_33 : decode cX10_mayCorrect 33 = .ok (.ldc 80, 2) := by decide +kernel
theorem dX10_mayCorrect_35 : decode cX10_mayCorrect 35 = .ok (.goto 4, 3) := by decide +kernel
theorem dX10_mayCorrect_38 : decode cX10_mayCorrect 38 = .ok (.iconst 0, 1) := by decide +kernel
theorem dX10_mayCorrect_39 : decode cX10_mayCorrect 39 = .ok (.ireturn, 1) := by decide +kernel
theorem dX10_correct_0 : decode cX10_correct 0 = .ok (.aload_n 0, 1) := by decide +kernel
theorem dX10_correct_1 : decode cX10_correct 1 = .ok (.iload_n 1, 1) := by decide +kernel
theorem dX10_correct_2 : decode cX10_correct 2 = .ok (.iload_n 2, 1) := by decide +kernel
theorem dX10_correct_3 : decode cX10_correct 3 = .ok (.invokevirtual 81, 3) := by decide +kernel
theorem dX10_correct_6 : decode cX10_correct 6 = .ok (.istore_n 3, 1) := by decide +kernel
theorem dX10_correct_7 : decode cX10_correct 7 = .ok (.iload_n 3, 1) := by decide +kernel
theorem dX10_correct_8 : decode cX10_correct 8 = .ok (.ifCond .ge 5, 3) := by decide +kernel
theorem dX10_correct_11 : decode cX10_correct 11 = .ok (.iload_n 3, 1) := by decide +kernel
theorem dX10_correct_12 : decode cX10_correct 12 = .ok (.ireturn, 1) := by decide +kernel
theorem dX10_correct_13 : decode cX10_correct 13 = .ok (.aload_n 0, 1) := by decide +kernel
theorem dX10_correct_14 : decode cX10_correct 14 = .ok (.invokevirtual 52, 3) := by decide +kernel
theorem dX10_correct_17 : decode cX10_correct 17 = .ok (.aload_n 0, 1) := by decide +kernel
theorem dX10_correct_18 : decode cX10_correct 18 = .ok (.iload_n 1, 1) := by decide +kernel
theorem dX10_correct_19 : decode cX10_correct 19 = .ok (.iload_n 2, 1) := by decide +kernel
theorem dX10_correct_20 : decode cX10_correct 20 = .ok (.iconst 1, 1) := by decide +kernel
theorem dX10_correct_21 : decode cX10_correct 21 = .ok (.invokevirtual 84, 3) := by decide +kernel
theorem dX10_correct_24 : decode cX10_correct 24 = .ok (.ireturn, 1) := by decide +kernel
theorem dX10_uncorrect_0 : decode cX10_uncorrect 0 = .ok (.iload_n 1, 1) := by decide +kernel
theorem dX10_uncorrect_1 : decode cX10_uncorrect 1 = .ok (.invokestatic 70, 3) := by decide +kernel
theorem dX10_uncorrect_4 : decode cX10_uncorrect 4 = .ok (.ifCond .ne 6, 3) := by decide +kernel
theorem dX10_uncorrect_7 : decode cX10_uncorrect 7 = .ok (.ldc 50, 2) := by decide +kernel
theorem dX10_uncorrect_9 : decode cX10_uncorrect 9 = .ok (.ireturn, 1) := by decide +kernel
theorem dX10_uncorrect_10 : decode cX10_uncorrect 10 = .ok (.aload_n 0, 1) := by decide +kernel
theorem dX10_uncorrect_11 : decode cX10_uncorrect 11 = .ok (.getfield 7, 3) := by decide +kernel
theorem dX10_uncorrect_14 : decode cX10_uncorrect 14 = .ok (.sipush 260, 3) := by decide +kernel
theorem dX10_uncorrect_17 : decode cX10_uncorrect 17 = .ok (.iload_n 1, 1) := by decide +kernel
theorem dX10_uncorrect_18 : decode cX10_uncorrect 18 = .ok (.iadd, 1) := by decide +kernel
theorem dX10_uncorrect_19 : decode cX10_uncorrect 19 = .ok (.iaload, 1) := by decide +kernel
theorem dX10_uncorrect_20 : decode cX10_uncorrect 20 = .ok (.ifCond .ge 6, 3) := by decide +kernel
theorem dX10_uncorrect_23 : decode cX10_uncorrect 23 = .ok (.ldc 80, 2) := by decide +kernel
theorem dX10_uncorrect_25 : decode cX10_uncorrect 25 = .ok (.ireturn, 1) := by decide +kernel
theorem dX10_uncorrect_26 : decode cX10_uncorrect 26 = .ok (.aload_n 0, 1) := by decide +kernel
theorem dX10_uncorrect_27 : decode cX10_uncorrect 27 = .ok (.invokevirtual 52, 3) := by decide +kernel
theorem dX10_uncorrect_30 : decode cX10_uncorrect 30 = .ok (.aload_n 0, 1) := by decide +kernel
theorem dX10_uncorrect_31 : decode cX10_uncorrect 31 = .ok (.iload_n 1, 1) := by decide +kernel
theorem dX10_uncorrect_32 : decode cX10_uncorrect 32 = .ok (.iconst (-1), 1) := by decide +kernel
theorem dX10_uncorrect_33 : decode cX10_uncorrect 33 = .ok (.iconst 1, 1) := by decide +kernel
theorem dX10_uncorrect_34 : decode cX10_uncorrect 34 = .ok (.invokevirtual 84, 3) := by decide +kernel
theorem dX10_uncorrect_37 : decode cX10_uncorrect 37 = .ok (.ireturn, 1) := by decide +kernel
theorem dX10_speaker_0 : decode cX10_speaker 0 = .ok (.iload_n 1, 1) := by decide +kernel
theorem dX10_speaker_1 : decode cX10_speaker 1 = .ok (.bipush 50, 2) := by decide +kernel
theorem dX10_speaker_3 : decode cX10_speaker 3 = .ok (.sipush 500, 3) := by decide +kernel
theorem dX10_speaker_6 : decode cX10_speaker 6 = .ok (.invokestatic 39, 3) := by decide +kernel
theorem dX10_speaker_9 : decode cX10_speaker 9 = .ok (.ifCond .ne 6, 3) := by decide +kernel
theorem dX10_speaker_12 : decode cX10_speaker 12 = .ok (.ldc 50, 2) := by decide +kernel
theorem dX10_speaker_14 : decode cX10_speaker 14 = .ok (.ireturn, 1) := by decide +kernel
theorem dX10_speaker_15 : decode cX10_speaker 15 = .ok (.iconst 0, 1) := by decide +kernel
theorem dX10_speaker_16 : decode cX10_speaker 16 = .ok (.istore_n 2, 1) := by decide +kernel
theorem dX10_speaker_17 : decode cX10_speaker 17 = .ok (.iload_n 2, 1) := by decide +kernel
theorem dX10_speaker_18 : decode cX10_speaker 18 = .ok (.bipush 6, 2) := by decide +kernel
theorem dX10_speaker_20 : decode cX10_speaker 20 = .ok (.if_icmp .ge 22, 3) := by decide +kernel
theorem dX10_speaker_23 : decode cX10_speaker 23 = .ok (.aload_n 0, 1) := by decide +kernel
theorem dX10_speaker_24 : decode cX10_speaker 24 = .ok (.getfield 7, 3) := by decide +kernel
theorem dX10_speaker_27 : decode cX10_speaker 27 = .ok (.sipush 276, 3) := by decide +kernel
theorem dX10_speaker_30 : decode cX10_speaker 30 = .ok (.iload_n 2, 1) := by decide +kernel
theorem dX10_speaker_31 : decode cX10_speaker 31 = .ok (.iadd, 1) := by decide +kernel
theorem dX10_speaker_32 : decode cX10_speaker 32 = .ok (.iaload, 1) := by decide +kernel
theorem dX10_speaker_33 : decode cX10_speaker 33 = .ok (.ifCond .le 9, 3) := by decide +kernel
theorem dX10_speaker_36 : decode cX10_speaker 36 = .ok (.iinc 2 1, 3) := by decide +kernel
theorem dX10_speaker_39 : decode cX10_speaker 39 = .ok (.goto (-22), 3) := by decide +kernel
theorem dX10_speaker_42 : decode cX10_speaker 42 = .ok (.iload_n 2, 1) := by decide +kernel
theorem dX10_speaker_43 : decode cX10_speaker 43 = .ok (.bipush 6, 2) := by decide +kernel
theorem dX10_speaker_45 : decode cX10_speaker 45 = .ok (.if_icmp .ne 6, 3) := by decide +kernel
theorem dX10_speaker_48 : decode cX10_speaker 48 = .ok (.ldc 51, 2) := by decide +kernel
theorem dX10_speaker_50 : decode cX10_speaker 50 = .ok (.ireturn, 1) := by decide +kernel
theorem dX10_speaker_51 : decode cX10_speaker 51 = .ok (.aload_n 0, 1) := by decide +kernel
theorem dX10_speaker_52 : decode cX10_speaker 52 = .ok (.invokevirtual 52, 3) := by decide +kernel
theorem dX10_speaker_55 : decode cX10_speaker 55 = .ok (.aload_n 0, 1) := by decide +kernel
theorem dX10_speaker_56 : decode cX10_speaker 56 = .ok (.getfield 7, 3) := by decide +kernel
theorem dX10_speaker_59 : decode cX10_speaker 59 = .ok (.sipush 276, 3) := by decide +kernel
theorem dX10_speaker_62 : decode cX10_speaker 62 = .ok (.iload_n 2, 1) := by decide +kernel
theorem dX10_speaker_63 : decode cX10_speaker 63 = .ok (.iadd, 1) := by decide +kernel
theorem dX10_speaker_64 : decode cX10_speaker 64 = .ok (.iload_n 1, 1) := by decide +kernel
theorem dX10_speaker_65 : decode cX10_speaker 65 = .ok (.iastore, 1) := by decide +kernel
theorem dX10_speaker_66 : decode cX10_speaker 66 = .ok (.iload_n 2, 1) := by decide +kernel
theorem dX10_speaker_67 : decode cX10_speaker 67 = .ok (.ireturn, 1) := by decide +kernel
theorem dX10_turnsOf_0 : decode cX10_turnsOf 0 = .ok (.iconst 0, 1) := by decide +kernel
theorem dX10_turnsOf_1 : decode cX10_turnsOf 1 = .ok (.istore_n 2, 1) := by decide +kernel
theorem dX10_turnsOf_2 : decode cX10_turnsOf 2 = .ok (.iconst 0, 1) := by decide +kernel
theorem dX10_turnsOf_3 : decode cX10_turnsOf 3 = .ok (.istore_n 3, 1) := by decide +kernel
theorem dX10_turnsOf_4 : decode cX10_turnsOf 4 = .ok (.iload_n 3, 1) := by decide +kernel
theorem dX10_turnsOf_5 : decode cX10_turnsOf 5 = .ok (.aload_n 0, 1) := by decide +kernel
theorem dX10_turnsOf_6 : decode cX10_turnsOf 6 = .ok (.getfield 7, 3) := by decide +kernel
theorem dX10_turnsOf_9 : decode cX10_turnsOf 9 = .ok (.sipush 282, 3) := by decide +kernel
theorem dX10_turnsOf_12 : decode cX10_turnsOf 12 = .ok (.iaload, 1) := by decide +kernel
theorem dX10_turnsOf_13 : decode cX10_turnsOf 13 = .ok (.if_icmp .ge 27, 3) := by decide +kernel
theorem dX10_turnsOf_16 : decode cX10_turnsOf 16 = .ok (.iload_n 2, 1) := by decide +kernel
theorem dX10_turnsOf_17 : decode cX10_turnsOf 17 = .ok (.aload_n 0, 1) := by decide +kernel
theorem dX10_turnsOf_18 : decode cX10_turnsOf 18 = .ok (.iload_n 3, 1) := by decide +kernel
theorem dX10_turnsOf_19 : decode cX10_turnsOf 19 = .ok (.iconst 3, 1) := by decide +kernel
theorem dX10_turnsOf_20 : decode cX10_turnsOf 20 = .ok (.invokevirtual 47, 3) := by decide +kernel
theorem dX10_turnsOf_23 : decode cX10_turnsOf 23 = .ok (.iload_n 1, 1) := by decide +kernel
theorem dX10_turnsOf_24 : decode cX10_turnsOf 24 = .ok (.if_icmp .ne 7, 3) := by decide +kernel
theorem dX10_turnsOf_27 : decode cX10_turnsOf 27 = .ok (.iconst 1, 1) := by decide +kernel
theorem dX10_turnsOf_28 : decode cX10_turnsOf 28 = .ok (.goto 4, 3) := by decide +kernel
theorem dX10_turnsOf_31 : decode cX10_turnsOf 31 = .ok (.iconst 0, 1) := by decide +kernel
theorem dX10_turnsOf_32 : decode cX10_turnsOf 32 = .ok (.iadd, 1) := by decide +kernel
theorem dX10_turnsOf_33 : decode cX10_turnsOf 33 = .ok (.istore_n 2, 1) := by decide +kernel
theorem dX10_turnsOf_34 : decode cX10_turnsOf 34 = .ok (.iinc 3 1, 3) := by decide +kernel
theorem dX10_turnsOf_37 : decode cX10_turnsOf 37 = .ok (.goto (-33), 3) := by decide +kernel
theorem dX10_turnsOf_40 : decode cX10_turnsOf 40 = .ok (.iload_n 2, 1) := by decide +kernel
theorem dX10_turnsOf_41 : decode cX10_turnsOf 41 = .ok (.ireturn, 1) := by decide +kernel
theorem dX10_tunes_0 : decode cX10_tunes 0 = .ok (.iconst 0, 1) := by decide +kernel
theorem dX10_tunes_1 : decode cX10_tunes 1 = .ok (.istore_n 2, 1) := by decide +kernel
theorem dX10_tunes_2 : decode cX10_tunes 2 = .ok (.iconst 0, 1) := by decide +kernel
theorem dX10_tunes_3 : decode cX10_tunes 3 = .ok (.istore_n 3, 1) := by decide +kernel
theorem dX10_tunes_4 : decode cX10_tunes 4 = .ok (.iload_n 3, 1) := by decide +kernel
theorem dX10_tunes_5 : decode cX10_tunes 5 = .ok (.aload_n 0, 1) := by decide +kernel
theorem dX10_tunes_6 : decode cX10_tunes 6 = .ok (.getfield 7, 3) := by decide +kernel
theorem dX10_tunes_9 : decode cX10_tunes 9 = .ok (.sipush 282, 3) := by decide +kernel
theorem dX10_tunes_12 : decode cX10_tunes 12 = .ok (.iaload, 1) := by decide +kernel
theorem dX10_tunes_13 : decode cX10_tunes 13 = .ok (.if_icmp .ge 32, 3) := by decide +kernel
theorem dX10_tunes_16 : decode cX10_tunes 16 = .ok (.iload_n 2, 1) := by decide +kernel
theorem dX10_tunes_17 : decode cX10_tunes 17 = .ok (.aload_n 0, 1) := by decide +kernel
theorem dX10_tunes_18 : decode cX10_tunes 18 = .ok (.iload_n 3, 1) := by decide +kernel
theorem dX10_tunes_19 : decode cX10_tunes 19 = .ok (.iconst 3, 1) := by decide +kernel
theorem dX10_tunes_20 : decode cX10_tunes 20 = .ok (.invokevirtual 47, 3) := by decide +kernel
theorem dX10_tunes_23 : decode cX10_tunes 23 = .ok (.iload_n 1, 1) := by decide +kernel
theorem dX10_tunes_24 : decode cX10_tunes 24 = .ok (.if_icmp .ne 12, 3) := by decide +kernel
theorem dX10_tunes_27 : decode cX10_tunes 27 = .ok (.aload_n 0, 1) := by decide +kernel
theorem dX10_tunes_28 : decode cX10_tunes 28 = .ok (.iload_n 3, 1) := by decide +kernel
theorem dX10_tunes_29 : decode cX10_tunes 29 = .ok (.iconst 2, 1) := by decide +kernel
theorem dX10_tunes_30 : decode cX10_tunes 30 = .ok (.invokevirtual 47, 3) := by decide +kernel
theorem dX10_tunes_33 : decode cX10_tunes 33 = .ok (.goto 4, 3) := by decide +kernel
theorem dX10_tunes_36 : decode cX10_tunes 36 = .ok (.iconst 0, 1) := by decide +kernel
theorem dX10_tunes_37 : decode cX10_tunes 37 = .ok (.iadd, 1) := by decide +kernel
theorem dX10_tunes_38 : decode cX10_tunes 38 = .ok (.istore_n 2, 1) := by decide +kernel
theorem dX10_tunes_39 : decode cX10_tunes 39 = .ok (.iinc 3 1, 3) := by decide +kernel
theorem dX10_tunes_42 : decode cX10_tunes 42 = .ok (.goto (-38), 3) := by decide +kernel
theorem dX10_tunes_45 : decode cX10_tunes 45 = .ok (.aload_n 0, 1) := by decide +kernel
theorem dX10_tunes_46 : decode cX10_tunes 46 = .ok (.iload_n 1, 1) := by decide +kernel
theorem dX10_tunes_47 : decode cX10_tunes 47 = .ok (.invokevirtual 88, 3) := by decide +kernel
theorem dX10_tunes_50 : decode cX10_tunes 50 = .ok (.istore_n 3, 1) := by decide +kernel
theorem dX10_tunes_51 : decode cX10_tunes 51 = .ok (.aload_n 0, 1) := by decide +kernel
theorem dX10_tunes_52 : decode cX10_tunes 52 = .ok (.getfield 7, 3) := by decide +kernel
theorem dX10_tunes_55 : decode cX10_tunes 55 = .ok (.sipush 276, 3) := by decide +kernel
theorem dX10_tunes_58 : decode cX10_tunes 58 = .ok (.iload_n 1, 1) := by decide +kernel
theorem dX10_tunes_59 : decode cX10_tunes 59 = .ok (.iadd, 1) := by decide +kernel
theorem dX10_tunes_60 : decode cX10_tunes 60 = .ok (.iload_n 3, 1) := by decide +kernel
theorem dX10_tunes_61 : decode cX10_tunes 61 = .ok (.ifCond .ne 16, 3) := by decide +kernel
theorem dX10_tunes_64 : decode cX10_tunes 64 = .ok (.aload_n 0, 1) := by decide +kernel
theorem dX10_tunes_65 : decode cX10_tunes 65 = .ok (.getfield 7, 3) := by decide +kernel
theorem dX10_tunes_68 : decode cX10_tunes 68 = .ok (.sipush 276, 3) := by decide +kernel
theorem dX10_tunes_71 : decode cX10_tunes 71 = .ok (.iload_n 1, 1) := by decide +kernel
theorem dX10_tunes_72 : decode cX10_tunes 72 = .ok (.iadd, 1) := by decide +kernel
theorem dX10_tunes_73 : decode cX10_tunes 73 = .ok (.iaload, 1) := by decide +kernel
theorem dX10_tunes_74 : decode cX10_tunes 74 = .ok (.goto 6, 3) := by decide +kernel
theorem dX10_tunes_77 : decode cX10_tunes 77 = .ok (.iload_n 2, 1) := by decide +kernel
theorem dX10_tunes_78 : decode cX10_tunes 78 = .ok (.iload_n 3, 1) := by decide +kernel
theorem dX10_tunes_79 : decode cX10_tunes 79 = .ok (.idiv, 1) := by decide +kernel
theorem dX10_tunes_80 : decode cX10_tunes 80 = .ok (.iastore, 1) := by decide +kernel
theorem dX10_tunes_81 : decode cX10_tunes 81 = .ok (.return_, 1) := by decide +kernel
theorem dX10_give_0 : decode cX10_give 0 = .ok (.aload_n 0, 1) := by decide +kernel
theorem dX10_give_1 : decode cX10_give 1 = .ok (.iload_n 1, 1) := by decide +kernel
theorem dX10_give_2 : decode cX10_give 2 = .ok (.invokevirtual 66, 3) := by decide +kernel
theorem dX10_give_5 : decode cX10_give 5 = .ok (.ifCond .eq 11, 3) := by decide +kernel
theorem dX10_give_8 : decode cX10_give 8 = .ok (.aload_n 0, 1) := by decide +kernel
theorem dX10_give_9 : decode cX10_give 9 = .ok (.iload_n 2, 1) := by decide +kernel
theorem dX10_give_10 : decode cX10_give 10 = .ok (.invokevirtual 91, 3) := by decide +kernel
theorem dX10_give_13 : decode cX10_give 13 = .ok (.ifCond .ne 6, 3) := by decide +kernel
theorem dX10_give_16 : decode cX10_give 16 = .ok (.ldc 50, 2) := by decide +kernel
theorem dX10_give_18 : decode cX10_give 18 = .ok (.ireturn, 1) := by decide +kernel
theorem dX10_give_19 : decode cX10_give 19 = .ok (.aload_n 0, 1) := by decide +kernel
theorem dX10_give_20 : decode cX10_give 20 = .ok (.iload_n 1, 1) := by decide +kernel
theorem dX10_give_21 : decode cX10_give 21 = .ok (.iconst 3, 1) := by decide +kernel
theorem dX10_give_22 : decode cX10_give 22 = .ok (.invokevirtual 47, 3) := by decide +kernel
theorem dX10_give_25 : decode cX10_give 25 = .ok (.iload_n 2, 1) := by decide +kernel
theorem dX10_give_26 : decode cX10_give 26 = .ok (.if_icmp .ne 6, 3) := by decide +kernel
theorem dX10_give_29 : decode cX10_give 29 = .ok (.ldc 80, 2) := by decide +kernel
theorem dX10_give_31 : decode cX10_give 31 = .ok (.ireturn, 1) := by decide +kernel
theorem dX10_give_32 : decode cX10_give 32 = .ok (.aload_n 0, 1) := by decide +kernel
theorem dX10_give_33 : decode cX10_give 33 = .ok (.invokevirtual 52, 3) := by decide +kernel
theorem dX10_give_36 : decode cX10_give 36 = .ok (.aload_n 0, 1) := by decide +kernel
theorem dX10_give_37 : decode cX10_give 37 = .ok (.iload_n 1, 1) := by decide +kernel
theorem dX10_give_38 : decode cX10_give 38 = .ok (.iconst 3, 1) := by decide +kernel
theorem dX10_give_39 : decode cX10_give 39 = .ok (.iload_n 2, 1) := by decide +kernel
theorem dX10_give_40 : decode cX10_give 40 = .ok (.invokevirtual 59, 3) := by decide +kernel
theorem dX10_give_43 : decode cX10_give 43 = .ok (.aload_n 0, 1) := by decide +kernel
theorem dX10_give_44 : decode cX10_give 44 = .ok (.iload_n 2, 1) := by decide +kernel
theorem dX10_give_45 : decode cX10_give 45 = .ok (.invokevirtual 94, 3) := by decide +kernel
theorem dX10_give_48 : decode cX10_give 48 = .ok (.aload_n 0, 1) := by decide +kernel
theorem dX10_give_49 : decode cX10_give 49 = .ok (.getfield 7, 3) := by decide +kernel
theorem dX10_give_52 : decode cX10_give 52 = .ok (.sipush 276, 3) := by decide +kernel
theorem dX10_give_55 : decode cX10_give 55 = .ok (.iload_n 2, 1) := by decide +kernel
theorem dX10_give_56 : decode cX10_give 56 = .ok (.iadd, 1) := by decide +kernel
theorem dX10_give_57 : decode cX10_give 57 = .ok (.iaload, 1) := by decide +kernel
theorem dX10_give_58 : decode cX10_give 58 = .ok (.ireturn, 1) := by decide +kernel
theorem dX10_join_0 : decode cX10_join 0 = .ok (.aload_n 0, 1) := by decide +kernel
theorem dX10_join_1 : decode cX10_join 1 = .ok (.iload_n 1, 1) := by decide +kernel
theorem dX10_join_2 : decode cX10_join 2 = .ok (.invokevirtual 91, 3) := by decide +kernel
theorem dX10_join_5 : decode cX10_join 5 = .ok (.ifCond .eq 16, 3) := by decide +kernel
theorem dX10_join_8 : decode cX10_join 8 = .ok (.aload_n 0, 1) := by decide +kernel
theorem dX10_join_9 : decode cX10_join 9 = .ok (.iload_n 2, 1) := by decide +kernel
theorem dX10_join_10 : decode cX10_join 10 = .ok (.invokevirtual 91, 3) := by decide +kernel
theorem dX10_join_13 : decode cX10_join 13 = .ok (.ifCond .eq 8, 3) := by decide +kernel
theorem dX10_join_16 : decode cX10_join 16 = .ok (.iload_n 1, 1) := by decide +kernel
theorem dX10_join_17 : decode cX10_join 17 = .ok (.iload_n 2, 1) := by decide +kernel
theorem dX10_join_18 : decode cX10_join 18 = .ok (.if_icmp .ne 6, 3) := by decide +kernel
theorem dX10_join_21 : decode cX10_join 21 = .ok (.ldc 50, 2) := by decide +kernel
theorem dX10_join_23 : decode cX10_join 23 = .ok (.ireturn, 1) := by decide +kernel
theorem dX10_join_24 : decode cX10_join 24 = .ok (.aload_n 0, 1) := by decide +kernel
theorem dX10_join_25 : decode cX10_join 25 = .ok (.invokevirtual 52, 3) := by decide +kernel
theorem dX10_join_28 : decode cX10_join 28 = .ok (.iconst 0, 1) := by decide +kernel
theorem dX10_join_29 : decode cX10_join 29 = .ok (.istore_n 3, 1) := by decide +kernel
theorem dX10_join_30 : decode cX10_join 30 = .ok (.iload_n 3, 1) := by decide +kernel
theorem dX10_join_31 : decode cX10_join 31 = .ok (.aload_n 0, 1) := by decide +kernel
theorem dX10_join_32 : decode cX10_join 32 = .ok (.getfield 7, 3) := by decide +kernel
theorem dX10_join_35 : decode cX10_join 35 = .ok (.sipush 282, 3) := by decide +kernel
theorem dX10_join_38 : decode cX10_join 38 = .ok (.iaload, 1) := by decide +kernel
theorem dX10_join_39 : decode cX10_join 39 = .ok (.if_icmp .ge 35, 3) := by decide +kernel
theorem dX10_join_42 : decode cX10_join 42 = .ok (.aload_n 0, 1) := by decide +kernel
theorem dX10_join_43 : decode cX10_join 43 = .ok (.iload_n 3, 1) := by decide +kernel
theorem dX10_join_44 : decode cX10_join 44 = .ok (.iconst 3, 1) := by decide +kernel
theorem dX10_join_45 : decode cX10_join 45 = .ok (.aload_n 0, 1) := by decide +kernel
theorem dX10_join_46 : decode cX10_join 46 = .ok (.iload_n 3, 1) := by decide +kernel
theorem dX10_join_47 : decode cX10_join 47 = .ok (.iconst 3, 1) := by decide +kernel
theorem dX10_join_48 : decode cX10_join 48 = .ok (.invokevirtual 47, 3) := by decide +kernel
theorem dX10_join_51 : decode cX10_join 51 = .ok (.iload_n 1, 1) := by decide +kernel
theorem dX10_join_52 : decode cX10_join 52 = .ok (.if_icmp .ne 7, 3) := by decide +kernel
theorem dX10_join_55 : decode cX10_join 55 = .ok (.iload_n 2, 1) := by decide +kernel
theorem dX10_join_56 : decode cX10_join 56 = .ok (.goto 9, 3) := by decide +kernel
theorem dX10_join_59 : decode cX10_join 59 = .ok (.aload_n 0, 1) := by decide +kernel
theorem dX10_join_60 : decode cX10_join 60 = .ok (.iload_n 3, 1) := by decide +kernel
theorem dX10_join_61 : decode cX10_join 61 = .ok (.iconst 3, 1) := by decide +kernel
theorem dX10_join_62 : decode cX10_join 62 = .ok (.invokevirtual 47, 3) := by decide +kernel
theorem dX10_join_65 : decode cX10_join 65 = .ok (.invokevirtual 59, 3) := by decide +kernel
theorem dX10_join_68 : decode cX10_join 68 = .ok (.iinc 3 1, 3) := by decide +kernel
theorem dX10_join_71 : decode cX10_join 71 = .ok (.goto (-41), 3) := by decide +kernel
theorem dX10_join_74 : decode cX10_join 74 = .ok (.aload_n 0, 1) := by decide +kernel
theorem dX10_join_75 : decode cX10_join 75 = .ok (.getfield 7, 3) := by decide +kernel
theorem dX10_join_78 : decode cX10_join 78 = .ok (.sipush 276, 3) := by decide +kernel
theorem dX10_join_81 : decode cX10_join 81 = .ok (.iload_n 1, 1) := by decide +kernel
theorem dX10_join_82 : decode cX10_join 82 = .ok (.iadd, 1) := by decide +kernel
theorem dX10_join_83 : decode cX10_join 83 = .ok (.iconst 0, 1) := by decide +kernel
theorem dX10_join_84 : decode cX10_join 84 = .ok (.iastore, 1) := by decide +kernel
theorem dX10_join_85 : decode cX10_join 85 = .ok (.aload_n 0, 1) := by decide +kernel
theorem dX10_join_86 : decode cX10_join 86 = .ok (.iload_n 2, 1) := by decide +kernel
theorem dX10_join_87 : decode cX10_join 87 = .ok (.invokevirtual 94, 3) := by decide +kernel
theorem dX10_join_90 : decode cX10_join 90 = .ok (.aload_n 0, 1) := by decide +kernel
theorem dX10_join_91 : decode cX10_join 91 = .ok (.iload_n 2, 1) := by decide +kernel
theorem dX10_join_92 : decode cX10_join 92 = .ok (.invokevirtual 88, 3) := by decide +kernel
theorem dX10_join_95 : decode cX10_join 95 = .ok (.ireturn, 1) := by decide +kernel
theorem dX10_set_0 : decode cX10_set 0 = .ok (.iload_n 1, 1) := by decide +kernel
theorem dX10_set_1 : decode cX10_set 1 = .ok (.ifCond .ne 14, 3) := by decide +kernel
theorem dX10_set_4 : decode cX10_set 4 = .ok (.iload_n 2, 1) := by decide +kernel
theorem dX10_set_5 : decode cX10_set 5 = .ok (.iconst 0, 1) := by decide +kernel
theorem dX10_set_6 : decode cX10_set 6 = .ok (.sipush 200, 3) := by decide +kernel
theorem dX10_set_9 : decode cX10_set 9 = .ok (.invokestatic 39, 3) := by decide +kernel
theorem dX10_set_12 : decode cX10_set 12 = .ok (.ifCond .ne 6, 3) := by decide +kernel
theorem dX10_set_15 : decode cX10_set 15 = .ok (.ldc 50, 2) := by decide +kernel
theorem dX10_set_17 : decode cX10_set 17 = .ok (.ireturn, 1) := by decide +kernel
theorem dX10_set_18 : decode cX10_set 18 = .ok (.aload_n 0, 1) := by decide +kernel
theorem dX10_set_19 : decode cX10_set 19 = .ok (.invokevirtual 52, 3) := by decide +kernel
theorem dX10_set_22 : decode cX10_set 22 = .ok (.aload_n 0, 1) := by decide +kernel
theorem dX10_set_23 : decode cX10_set 23 = .ok (.getfield 7, 3) := by decide +kernel
theorem dX10_set_26 : decode cX10_set 26 = .ok (.sipush 283, 3) := by decide +kernel
theorem dX10_set_29 : decode cX10_set 29 = .ok (.iaload, 1) := by decide +kernel
theorem dX10_set_30 : decode cX10_set 30 = .ok (.istore_n 3, 1) := by decide +kernel
theorem dX10_set_31 : decode cX10_set 31 = .ok (.aload_n 0, 1) := by decide +kernel
theorem dX10_set_32 : decode cX10_set 32 = .ok (.getfield 7, 3) := by decide +kernel
theorem dX10_set_35 : decode cX10_set 35 = .ok (.sipush 283, 3) := by decide +kernel
theorem dX10_set_38 : decode cX10_set 38 = .ok (.iload_n 2, 1) := by decide +kernel
theorem dX10_set_39 : decode cX10_set 39 = .ok (.iastore, 1) := by decide +kernel
theorem dX10_set_40 : decode cX10_set 40 = .ok (.iload_n 3, 1) := by decide +kernel
theorem dX10_set_41 : decode cX10_set 41 = .ok (.ireturn, 1) := by decide +kernel
theorem dX10_overlap_0 : decode cX10_overlap 0 = .ok (.iload_n 1, 1) := by decide +kernel
theorem dX10_overlap_1 : decode cX10_overlap 1 = .ok (.iload_n 2, 1) := by decide +kernel
theorem dX10_overlap_2 : decode cX10_overlap 2 = .ok (.if_icmp .eq 37, 3) := by decide +kernel
theorem dX10_overlap_5 : decode cX10_overlap 5 = .ok (.aload_n 0, 1) := by decide +kernel
theorem dX10_overlap_6 : decode cX10_overlap 6 = .ok (.iload_n 1, 1) := by decide +kernel
theorem dX10_overlap_7 : decode cX10_overlap 7 = .ok (.iconst 0, 1) := by decide +kernel
theorem dX10_overlap_8 : decode cX10_overlap 8 = .ok (.invokevirtual 47, 3) := by decide +kernel
theorem dX10_overlap_11 : decode cX10_overlap 11 = .ok (.aload_n 0, 1) := by decide +kernel
theorem dX10_overlap_12 : decode cX10_overlap 12 = .ok (.iload_n 2, 1) := by decide +kernel
theorem dX10_overlap_13 : decode cX10_overlap 13 = .ok (.iconst 1, 1) := by decide +kernel
theorem dX10_overlap_14 : decode cX10_overlap 14 = .ok (.invokevirtual 47, 3) := by decide +kernel
theorem dX10_overlap_17 : decode cX10_overlap 17 = .ok (.if_icmp .ge 22, 3) := by decide +kernel
theorem dX10_overlap_20 : decode cX10_overlap 20 = .ok (.aload_n 0, 1) := by decide +kernel
theorem dX10_overlap_21 : decode cX10_overlap 21 = .ok (.iload_n 2, 1) := by decide +kernel
theorem dX10_overlap_22 : decode cX10_overlap 22 = .ok (.iconst 0, 1) := by decide +kernel
theorem dX10_overlap_23 : decode cX10_overlap 23 = .ok (.invokevirtual 47, 3) := by decide +kernel
theorem dX10_overlap_26 : decode cX10_overlap 26 = .ok (.aload_n 0, 1) := by decide +kernel
theorem dX10_overlap_27 : decode cX10_overlap 27 = .ok (.iload_n 1, 1) := by decide +kernel
theorem dX10_overlap_28 : decode cX10_overlap 28 = .ok (.iconst 1, 1) := by decide +kernel
theorem dX10_overlap_29 : decode cX10_overlap 29 = .ok (.invokevirtual 47, 3) := by decide +kernel
theorem dX10_overlap_32 : decode cX10_overlap 32 = .ok (.if_icmp .ge 7, 3) := by decide +kernel
theorem dX10_overlap_35 : decode cX10_overlap 35 = .ok (.iconst 1, 1) := by decide +kernel
theorem dX10_overlap_36 : decode cX10_overlap 36 = .ok (.goto 4, 3) := by decide +kernel
theorem dX10_overlap_39 : decode cX10_overlap 39 = .ok (.iconst 0, 1) := by decide +kernel
theorem dX10_overlap_40 : decode cX10_overlap 40 = .ok (.ireturn, 1) := by decide +kernel
theorem dX10_interrupt_0 : decode cX10_interrupt 0 = .ok (.aload_n 0, 1) := by decide +kernel
theorem dX10_interrupt_1 : decode cX10_interrupt 1 = .ok (.iload_n 1, 1) := by decide +kernel
theorem dX10_interrupt_2 : decode cX10_interrupt 2 = .ok (.iconst 0, 1) := by decide +kernel
theorem dX10_interrupt_3 : decode cX10_interrupt 3 = .ok (.invokevirtual 47, 3) := by decide +kernel
theorem dX10_interrupt_6 : decode cX10_interrupt 6 = .ok (.aload_n 0, 1) := by decide +kernel
theorem dX10_interrupt_7 : decode cX10_interrupt 7 = .ok (.iload_n 2, 1) := by decide +kernel
theorem dX10_interrupt_8 : decode cX10_interrupt 8 = .ok (.iconst 0, 1) := by decide +kernel
theorem dX10_interrupt_9 : decode cX10_interrupt 9 = .ok (.invokevirtual 47, 3) := by decide +kernel
theorem dX10_interrupt_12 : decode cX10_interrupt 12 = .ok (.if_icmp .le 22, 3) := by decide +kernel
theorem dX10_interrupt_15 : decode cX10_interrupt 15 = .ok (.aload_n 0, 1) := by decide +kernel
theorem dX10_interrupt_16 : decode cX10_interrupt 16 = .ok (.iload_n 1, 1) := by decide +kernel
theorem dX10_interrupt_17 : decode cX10_interrupt 17 = .ok (.iconst 0, 1) := by decide +kernel
theorem dX10_interrupt_18 : decode cX10_interrupt 18 = .ok (.invokevirtual 47, 3) := by decide +kernel
theorem dX10_interrupt_21 : decode cX10_interrupt 21 = .ok (.aload_n 0, 1) := by decide +kernel
theorem dX10_interrupt_22 : decode cX10_interrupt 22 = .ok (.iload_n 2, 1) := by decide +kernel
theorem dX10_interrupt_23 : decode cX10_interrupt 23 = .ok (.iconst 1, 1) := by decide +kernel
theorem dX10_interrupt_24 : decode cX10_interrupt 24 = .ok (.invokevirtual 47, 3) := by decide +kernel
theorem dX10_interrupt_27 : decode cX10_interrupt 27 = .ok (.if_icmp .ge 7, 3) := by decide +kernel
theorem dX10_interrupt_30 : decode cX10_interrupt 30 = .ok (.iconst 1, 1) := by decide +kernel
theorem dX10_interrupt_31 : decode cX10_interrupt 31 = .ok (.goto 4, 3) := by decide +kernel
theorem dX10_interrupt_34 : decode cX10_interrupt 34 = .ok (.iconst 0, 1) := by decide +kernel
theorem dX10_interrupt_35 : decode cX10_interrupt 35 = .ok (.istore_n 3, 1) := by decide +kernel
theorem dX10_interrupt_36 : decode cX10_interrupt 36 = .ok (.iload_n 3, 1) := by decide +kernel
theorem dX10_interrupt_37 : decode cX10_interrupt 37 = .ok (.ifCond .eq 40, 3) := by decide +kernel
theorem dX10_interrupt_40 : decode cX10_interrupt 40 = .ok (.aload_n 0, 1) := by decide +kernel
theorem dX10_interrupt_41 : decode cX10_interrupt 41 = .ok (.iload_n 1, 1) := by decide +kernel
theorem dX10_interrupt_42 : decode cX10_interrupt 42 = .ok (.iconst 3, 1) := by decide +kernel
theorem dX10_interrupt_43 : decode cX10_interrupt 43 = .ok (.invokevirtual 47, 3) := by decide +kernel
theorem dX10_interrupt_46 : decode cX10_interrupt 46 = .ok (.ifCond .lt 31, 3) := by decide +kernel
theorem dX10_interrupt_49 : decode cX10_interrupt 49 = .ok (.aload_n 0, 1) := by decide +kernel
theorem dX10_interrupt_50 : decode cX10_interrupt 50 = .ok (.iload_n 2, 1) := by decide +kernel
theorem dX10_interrupt_51 : decode cX10_interrupt 51 = .ok (.iconst 3, 1) := by decide +kernel
theorem dX10_interrupt_52 : decode cX10_interrupt 52 = .ok (.invokevirtual 47, 3) := by decide +kernel
theorem dX10_interrupt_55 : decode cX10_interrupt 55 = .ok (.ifCond .lt 22, 3) := by decide +kernel
theorem dX10_interrupt_58 : decode cX10_interrupt 58 = .ok (.aload_n 0, 1) := by decide +kernel
theorem dX10_interrupt_59 : decode cX10_interrupt 59 = .ok (.iload_n 1, 1) := by decide +kernel
theorem dX10_interrupt_60 : decode cX10_interrupt 60 = .ok (.iconst 3, 1) := by decide +kernel
theorem dX10_interrupt_61 : decode cX10_interrupt 61 = .ok (.invokevirtual 47, 3) := by decide +kernel
theorem dX10_interrupt_64 : decode cX10_interrupt 64 = .ok (.aload_n 0, 1) := by decide +kernel
theorem dX10_interrupt_65 : decode cX10_interrupt 65 = .ok (.iload_n 2, 1) := by decide +kernel
theorem dX10_interrupt_66 : decode cX10_interrupt 66 = .ok (.iconst 3, 1) := by decide +kernel
theorem dX10_interrupt_67 : decode cX10_interrupt 67 = .ok (.invokevirtual 47, 3) := by decide +kernel
theorem dX10_interrupt_70 : decode cX10_interrupt 70 = .ok (.if_icmp .eq 7, 3) := by decide +kernel
theorem dX10_interrupt_73 : decode cX10_interrupt 73 = .ok (.iconst 1, 1) := by decide +kernel
theorem dX10_interrupt_74 : decode cX10_interrupt 74 = .ok (.goto 4, 3) := by decide +kernel
theorem dX10_interrupt_77 : decode cX10_interrupt 77 = .ok (.iconst 0, 1) := by decide +kernel
theorem dX10_interrupt_78 : decode cX10_interrupt 78 = .ok (.ireturn, 1) := by decide +kernel
theorem dX10_overlapping_0 : decode cX10_overlapping 0 = .ok (.iconst 0, 1) := by decide +kernel
theorem dX10_overlapping_1 : decode cX10_overlapping 1 = .ok (.istore_n 3, 1) := by decide +kernel
theorem dX10_overlapping_2 : decode cX10_overlapping 2 = .ok (.iconst 0, 1) := by decide +kernel
theorem dX10_overlapping_3 : decode cX10_overlapping 3 = .ok (.istore 4, 2) := by decide +kernel
theorem dX10_overlapping_5 : decode cX10_overlapping 5 = .ok (.iload 4, 2) := by decide +kernel
theorem dX10_overlapping_7 : decode cX10_overlapping 7 = .ok (.aload_n 0, 1) := by decide +kernel
theorem dX10_overlapping_8 : decode cX10_overlapping 8 = .ok (.getfield 7, 3) := by decide +kernel
theorem dX10_overlapping_11 : decode cX10_overlapping 11 = .ok (.sipush 282, 3) := by decide +kernel
theorem dX10_overlapping_14 : decode cX10_overlapping 14 = .ok (.iaload, 1) := by decide +kernel
theorem dX10_overlapping_15 : decode cX10_overlapping 15 = .ok (.if_icmp .ge 47, 3) := by decide +kernel
theorem dX10_overlapping_18 : decode cX10_overlapping 18 = .ok (.iload_n 3, 1) := by decide +kernel
theorem dX10_overlapping_19 : decode cX10_overlapping 19 = .ok (.iload_n 2, 1) := by decide +kernel
theorem dX10_overlapping_20 : decode cX10_overlapping 20 = .ok (.ifCond .eq 16, 3) := by decide +kernel
theorem dX10_overlapping_23 : decode cX10_overlapping 23 = .ok (.aload_n 0, 1) := by decide +kernel
theorem dX10_overlapping_24 : decode cX10_overlapping 24 = .ok (.iload_n 1, 1) := by decide +kernel
theorem dX10_overlapping_25 : decode cX10_overlapping 25 = .ok (.iload 4, 2) := by decide +kernel
theorem dX10_overlapping_27 : decode cX10_overlapping 27 = .ok (.invokevirtual 98, 3) := by decide +kernel
theorem dX10_overlapping_30 : decode cX10_overlapping 30 = .ok (.ifCond .eq 23, 3) := by decide +kernel
theorem dX10_overlapping_33 : decode cX10_overlapping 33 = .ok (.goto 13, 3) := by decide +kernel
theorem dX10_overlapping_36 : decode cX10_overlapping 36 = .ok (.aload_n 0, 1) := by decide +kernel
theorem dX10_overlapping_37 : decode cX10_overlapping 37 = .ok (.iload_n 1, 1) := by decide +kernel
theorem dX10_overlapping_38 : decode cX10_overlapping 38 = .ok (.iload 4, 2) := by decide +kernel
theorem dX10_overlapping_40 : decode cX10_overlapping 40 = .ok (.invokevirtual 101, 3) := by decide +kernel
theorem dX10_overlapping_43 : decode cX10_overlapping 43 = .ok (.ifCond .eq 10, 3) := by decide +kernel
theorem dX10_overlapping_46 : decode cX10_overlapping 46 = .ok (.iconst 1, 1) := by decide +kernel
theorem dX10_overlapping_47 : decode cX10_overlapping 47 = .ok (.iload 4, 2) := by decide +kernel
theorem dX10_overlapping_49 : decode cX10_overlapping 49 = .ok (.ishl, 1) := by decide +kernel
theorem dX10_overlapping_50 : decode cX10_overlapping 50 = .ok (.goto 4, 3) := by decide +kernel
theorem dX10_overlapping_53 : decode cX10_overlapping 53 = .ok (.iconst 0, 1) := by decide +kernel
theorem dX10_overlapping_54 : decode cX10_overlapping 54 = .ok (.ior, 1) := by decide +kernel
theorem dX10_overlapping_55 : decode cX10_overlapping 55 = .ok (.istore_n 3, 1) := by decide +kernel
theorem dX10_overlapping_56 : decode cX10_overlapping 56 = .ok (.iinc 4 1, 3) := by decide +kernel
theorem dX10_overlapping_59 : decode cX10_overlapping 59 = .ok (.goto (-54), 3) := by decide +kernel
theorem dX10_overlapping_62 : decode cX10_overlapping 62 = .ok (.iload_n 3, 1) := by decide +kernel
theorem dX10_overlapping_63 : decode cX10_overlapping 63 = .ok (.ireturn, 1) := by decide +kernel
theorem dX10_goesOn_0 : decode cX10_goesOn 0 = .ok (.aload_n 0, 1) := by decide +kernel
theorem dX10_goesOn_1 : decode cX10_goesOn 1 = .ok (.iload_n 1, 1) := by decide +kernel
theorem dX10_goesOn_2 : decode cX10_goesOn 2 = .ok (.iconst 0, 1) := by decide +kernel
theorem dX10_goesOn_3 : decode cX10_goesOn 3 = .ok (.invokevirtual 47, 3) := by decide +kernel
theorem dX10_goesOn_6 : decode cX10_goesOn 6 = .ok (.iload_n 2, 1) := by decide +kernel
theorem dX10_goesOn_7 : decode cX10_goesOn 7 = .ok (.if_icmp .gt 17, 3) := by decide +kernel
theorem dX10_goesOn_10 : decode cX10_goesOn 10 = .ok (.iload_n 2, 1) := by decide +kernel
theorem dX10_goesOn_11 : decode cX10_goesOn 11 = .ok (.aload_n 0, 1) := by decide +kernel
theorem dX10_goesOn_12 : decode cX10_goesOn 12 = .ok (.iload_n 1, 1) := by decide +kernel
theorem dX10_goesOn_13 : decode cX10_goesOn 13 = .ok (.iconst 1, 1) := by decide +kernel
theorem dX10_goesOn_14 : decode cX10_goesOn 14 = .ok (.invokevirtual 47, 3) := by decide +kernel
theorem dX10_goesOn_17 : decode cX10_goesOn 17 = .ok (.if_icmp .ge 7, 3) := by decide +kernel
theorem dX10_goesOn_20 : decode cX10_goesOn 20 = .ok (.iconst 1, 1) := by decide +kernel
theorem dX10_goesOn_21 : decode cX10_goesOn 21 = .ok (.goto 4, 3) := by decide +kernel
theorem dX10_goesOn_24 : decode cX10_goesOn 24 = .ok (.iconst 0, 1) := by decide +kernel
theorem dX10_goesOn_25 : decode cX10_goesOn 25 = .ok (.ireturn, 1) := by decide +kernel
theorem dX10_going_0 : decode cX10_going 0 = .ok (.iconst 0, 1) := by decide +kernel
theorem dX10_going_1 : decode cX10_going 1 = .ok (.istore_n 2, 1) := by decide +kernel
theorem dX10_going_2 : decode cX10_going 2 = .ok (.iconst 0, 1) := by decide +kernel
theorem dX10_going_3 : decode cX10_going 3 = .ok (.istore_n 3, 1) := by decide +kernel
theorem dX10_going_4 : decode cX10_going 4 = .ok (.iload_n 3, 1) := by decide +kernel
theorem dX10_going_5 : decode cX10_going 5 = .ok (.aload_n 0, 1) := by decide +kernel
theorem dX10_going_6 : decode cX10_going 6 = .ok (.getfield 7, 3) := by decide +kernel
theorem dX10_going_9 : decode cX10_going 9 = .ok (.sipush 282, 3) := by decide +kernel
theorem dX10_going_12 : decode cX10_going 12 = .ok (.iaload, 1) := by decide +kernel
theorem dX10_going_13 : decode cX10_going 13 = .ok (.if_icmp .ge 28, 3) := by decide +kernel
theorem dX10_going_16 : decode cX10_going 16 = .ok (.iload_n 2, 1) := by decide +kernel
theorem dX10_going_17 : decode cX10_going 17 = .ok (.aload_n 0, 1) := by decide +kernel
theorem dX10_going_18 : decode cX10_going 18 = .ok (.iload_n 3, 1) := by decide +kernel
theorem dX10_going_19 : decode cX10_going 19 = .ok (.iload_n 1, 1) := by decide +kernel
theorem dX10_going_20 : decode cX10_going 20 = .ok (.invokevirtual 104, 3) := by decide +kernel
theorem dX10_going_23 : decode cX10_going 23 = .ok (.ifCond .eq 9, 3) := by decide +kernel
theorem dX10_going_26 : decode cX10_going 26 = .ok (.iconst 1, 1) := by decide +kernel
theorem dX10_going_27 : decode cX10_going 27 = .ok (.iload_n 3, 1) := by decide +kernel
theorem dX10_going_28 : decode cX10_going 28 = .ok (.ishl, 1) := by decide +kernel
theorem dX10_going_29 : decode cX10_going 29 = .ok (.goto 4, 3) := by decide +kernel
theorem dX10_going_32 : decode cX10_going 32 = .ok (.iconst 0, 1) := by decide +kernel
theorem dX10_going_33 : decode cX10_going 33 = .ok (.ior, 1) := by decide +kernel
theorem dX10_going_34 : decode cX10_going 34 = .ok (.istore_n 2, 1) := by decide +kernel
theorem dX10_going_35 : decode cX10_going 35 = .ok (.iinc 3 1, 3) := by decide +kernel
theorem dX10_going_38 : decode cX10_going 38 = .ok (.goto (-34), 3) := by decide +kernel
theorem dX10_going_41 : decode cX10_going 41 = .ok (.iload_n 2, 1) := by decide +kernel
theorem dX10_going_42 : decode cX10_going 42 = .ok (.ireturn, 1) := by decide +kernel
theorem dX10_alone_0 : decode cX10_alone 0 = .ok (.iconst 0, 1) := by decide +kernel
theorem dX10_alone_1 : decode cX10_alone 1 = .ok (.istore_n 2, 1) := by decide +kernel
theorem dX10_alone_2 : decode cX10_alone 2 = .ok (.aload_n 0, 1) := by decide +kernel
theorem dX10_alone_3 : decode cX10_alone 3 = .ok (.iload_n 1, 1) := by decide +kernel
theorem dX10_alone_4 : decode cX10_alone 4 = .ok (.iconst 0, 1) := by decide +kernel
theorem dX10_alone_5 : decode cX10_alone 5 = .ok (.invokevirtual 47, 3) := by decide +kernel
theorem dX10_alone_8 : decode cX10_alone 8 = .ok (.istore_n 3, 1) := by decide +kernel
theorem dX10_alone_9 : decode cX10_alone 9 = .ok (.iload_n 3, 1) := by decide +kernel
theorem dX10_alone_10 : decode cX10_alone 10 = .ok (.aload_n 0, 1) := by decide +kernel
theorem dX10_alone_11 : decode cX10_alone 11 = .ok (.iload_n 1, 1) := by decide +kernel
theorem dX10_alone_12 : decode cX10_alone 12 = .ok (.iconst 1, 1) := by decide +kernel
theorem dX10_alone_13 : decode cX10_alone 13 = .ok (.invokevirtual 47, 3) := by decide +kernel
theorem dX10_alone_16 : decode cX10_alone 16 = .ok (.if_icmp .ge 28, 3) := by decide +kernel
theorem dX10_alone_19 : decode cX10_alone 19 = .ok (.iload_n 2, 1) := by decide +kernel
theorem dX10_alone_20 : decode cX10_alone 20 = .ok (.aload_n 0, 1) := by decide +kernel
theorem dX10_alone_21 : decode cX10_alone 21 = .ok (.iload_n 3, 1) := by decide +kernel
theorem dX10_alone_22 : decode cX10_alone 22 = .ok (.invokevirtual 107, 3) := by decide +kernel
theorem dX10_alone_25 : decode cX10_alone 25 = .ok (.iconst 1, 1) := by decide +kernel
theorem dX10_alone_26 : decode cX10_alone 26 = .ok (.iload_n 1, 1) := by decide +kernel
theorem dX10_alone_27 : decode cX10_alone 27 = .ok (.ishl, 1) := by decide +kernel
theorem dX10_alone_28 : decode cX10_alone 28 = .ok (.if_icmp .ne 7, 3) := by decide +kernel
theorem dX10_alone_31 : decode cX10_alone 31 = .ok (.iconst 1, 1) := by decide +kernel
theorem dX10_alone_32 : decode cX10_alone 32 = .ok (.goto 4, 3) := by decide +kernel
theorem dX10_alone_35 : decode cX10_alone 35 = .ok (.iconst 0, 1) := by decide +kernel
theorem dX10_alone_36 : decode cX10_alone 36 = .ok (.iadd, 1) := by decide +kernel
theorem dX10_alone_37 : decode cX10_alone 37 = .ok (.istore_n 2, 1) := by decide +kernel
theorem dX10_alone_38 : decode cX10_alone 38 = .ok (.iinc 3 1, 3) := by decide +kernel
theorem dX10_alone_41 : decode cX10_alone 41 = .ok (.goto (-32), 3) := by decide +kernel
theorem dX10_alone_44 : decode cX10_alone 44 = .ok (.iload_n 2, 1) := by decide +kernel
theorem dX10_alone_45 : decode cX10_alone 45 = .ok (.ireturn, 1) := by decide +kernel
theorem dX10_turnOf_0 : decode cX10_turnOf 0 = .ok (.aload_n 0, 1) := by decide +kernel
theorem dX10_turnOf_1 : decode cX10_turnOf 1 = .ok (.iload_n 1, 1) := by decide +kernel
theorem dX10_turnOf_2 : decode cX10_turnOf 2 = .ok (.invokevirtual 66, 3) := by decide +kernel
theorem dX10_turnOf_5 : decode cX10_turnOf 5 = .ok (.ifCond .eq 13, 3) := by decide +kernel
theorem dX10_turnOf_8 : decode cX10_turnOf 8 = .ok (.iload_n 2, 1) := by decide +kernel
theorem dX10_turnOf_9 : decode cX10_turnOf 9 = .ok (.iconst 0, 1) := by decide +kernel
theorem dX10_turnOf_10 : decode cX10_turnOf 10 = .ok (.bipush 7, 2) := by decide +kernel
theorem dX10_turnOf_12 : decode cX10_turnOf 12 = .ok (.invokestatic 39, 3) := by decide +kernel
theorem dX10_turnOf_15 : decode cX10_turnOf 15 = .ok (.ifCond .ne 6, 3) := by decide +kernel
theorem dX10_turnOf_18 : decode cX10_turnOf 18 = .ok (.ldc 50, 2) := by decide +kernel
theorem dX10_turnOf_20 : decode cX10_turnOf 20 = .ok (.ireturn, 1) := by decide +kernel
theorem dX10_turnOf_21 : decode cX10_turnOf 21 = .ok (.iload_n 2, 1) := by decide +kernel
theorem dX10_turnOf_22 : decode cX10_turnOf 22 = .ok (.tableswitch 78 3 7 #[34, 78, 55, 55, 72], 34) := by decide +kernel
theorem dX10_turnOf_56 : decode cX10_turnOf 56 = .ok (.aload_n 0, 1) := by decide +kernel
theorem dX10_turnOf_57 : decode cX10_turnOf 57 = .ok (.iload_n 1, 1) := by decide +kernel
theorem dX10_turnOf_58 : decode cX10_turnOf 58 = .ok (.iconst 3, 1) := by decide +kernel
theorem dX10_turnOf_59 : decode cX10_turnOf 59 = .ok (.invokevirtual 47, 3) := by decide +kernel
theorem dX10_turnOf_62 : decode cX10_turnOf 62 = .ok (.ifCond .ge 8, 3) := by decide +kernel
theorem dX10_turnOf_65 : decode cX10_turnOf 65 = .ok (.ldc 110, 2) := by decide +kernel
theorem dX10_turnOf_67 : decode cX10_turnOf 67 = .ok (.goto 9, 3) := by decide +kernel
theorem dX10_turnOf_70 : decode cX10_turnOf 70 = .ok (.aload_n 0, 1) := by decide +kernel
theorem dX10_turnOf_71 : decode cX10_turnOf 71 = .ok (.iload_n 1, 1) := by decide +kernel
theorem dX10_turnOf_72 : decode cX10_turnOf 72 = .ok (.iconst 3, 1) := by decide +kernel
theorem dX10_turnOf_73 : decode cX10_turnOf 73 = .ok (.invokevirtual 47, 3) := by decide +kernel
theorem dX10_turnOf_76 : decode cX10_turnOf 76 = .ok (.ireturn, 1) := by decide +kernel
theorem dX10_turnOf_77 : decode cX10_turnOf 77 = .ok (.aload_n 0, 1) := by decide +kernel
theorem dX10_turnOf_78 : decode cX10_turnOf 78 = .ok (.iload_n 1, 1) := by decide +kernel
theorem dX10_turnOf_79 : decode cX10_turnOf 79 = .ok (.iload_n 2, 1) := by decide +kernel
theorem dX10_turnOf_80 : decode cX10_turnOf 80 = .ok (.bipush 6, 2) := by decide +kernel
theorem dX10_turnOf_82 : decode cX10_turnOf 82 = .ok (.if_icmp .ne 7, 3) := by decide +kernel
theorem dX10_turnOf_85 : decode cX10_turnOf 85 = .ok (.iconst 1, 1) := by decide +kernel
theorem dX10_turnOf_86 : decode cX10_turnOf 86 = .ok (.goto 4, 3) := by decide +kernel
theorem dX10_turnOf_89 : decode cX10_turnOf 89 = .ok (.iconst 0, 1) := by decide +kernel
theorem dX10_turnOf_90 : decode cX10_turnOf 90 = .ok (.invokevirtual 111, 3) := by decide +kernel
theorem dX10_turnOf_93 : decode cX10_turnOf 93 = .ok (.ireturn, 1) := by decide +kernel
theorem dX10_turnOf_94 : decode cX10_turnOf 94 = .ok (.aload_n 0, 1) := by decide +kernel
theorem dX10_turnOf_95 : decode cX10_turnOf 95 = .ok (.iload_n 1, 1) := by decide +kernel
theorem dX10_turnOf_96 : decode cX10_turnOf 96 = .ok (.invokevirtual 115, 3) := by decide +kernel
theorem dX10_turnOf_99 : decode cX10_turnOf 99 = .ok (.ireturn, 1) := by decide +kernel
theorem dX10_turnOf_100 : decode cX10_turnOf 100 = .ok (.aload_n 0, 1) := by decide +kernel
theorem dX10_turnOf_101 : decode cX10_turnOf 101 = .ok (.iload_n 1, 1) := by decide +kernel
theorem dX10_turnOf_102 : decode cX10_turnOf 102 = .ok (.iload_n 2, 1) := by decide +kernel
theorem dX10_turnOf_103 : decode cX10_turnOf 103 = .ok (.invokevirtual 47, 3) := by decide +kernel
theorem dX10_turnOf_106 : decode cX10_turnOf 106 = .ok (.ireturn, 1) := by decide +kernel
theorem dX10_termAt_0 : decode cX10_termAt 0 = .ok (.aload_n 0, 1) := by decide +kernel
theorem dX10_termAt_1 : decode cX10_termAt 1 = .ok (.iload_n 1, 1) := by decide +kernel
theorem dX10_termAt_2 : decode cX10_termAt 2 = .ok (.invokevirtual 66, 3) := by decide +kernel
theorem dX10_termAt_5 : decode cX10_termAt 5 = .ok (.ifCond .eq 16, 3) := by decide +kernel
theorem dX10_termAt_8 : decode cX10_termAt 8 = .ok (.iload_n 2, 1) := by decide +kernel
theorem dX10_termAt_9 : decode cX10_termAt 9 = .ok (.ifCond .lt 12, 3) := by decide +kernel
theorem dX10_termAt_12 : decode cX10_termAt 12 = .ok (.iload_n 3, 1) := by decide +kernel
theorem dX10_termAt_13 : decode cX10_termAt 13 = .ok (.iconst 0, 1) := by decide +kernel
theorem dX10_termAt_14 : decode cX10_termAt 14 = .ok (.iconst 1, 1) := by decide +kernel
theorem dX10_termAt_15 : decode cX10_termAt 15 = .ok (.invokestatic 39, 3) := by decide +kernel
theorem dX10_termAt_18 : decode cX10_termAt 18 = .ok (.ifCond .ne 6, 3) := by decide +kernel
theorem dX10_termAt_21 : decode cX10_termAt 21 = .ok (.ldc 50, 2) := by decide +kernel
theorem dX10_termAt_23 : decode cX10_termAt 23 = .ok (.ireturn, 1) := by decide +kernel
theorem dX10_termAt_24 : decode cX10_termAt 24 = .ok (.iload_n 2, 1) := by decide +kernel
theorem dX10_termAt_25 : decode cX10_termAt 25 = .ok (.aload_n 0, 1) := by decide +kernel
theorem dX10_termAt_26 : decode cX10_termAt 26 = .ok (.iload_n 1, 1) := by decide +kernel
theorem dX10_termAt_27 : decode cX10_termAt 27 = .ok (.iconst 4, 1) := by decide +kernel
theorem dX10_termAt_28 : decode cX10_termAt 28 = .ok (.invokevirtual 47, 3) := by decide +kernel
theorem dX10_termAt_31 : decode cX10_termAt 31 = .ok (.if_icmp .lt 6, 3) := by decide +kernel
theorem dX10_termAt_34 : decode cX10_termAt 34 = .ok (.ldc 110, 2) := by decide +kernel
theorem dX10_termAt_36 : decode cX10_termAt 36 = .ok (.ireturn, 1) := by decide +kernel
theorem dX10_termAt_37 : decode cX10_termAt 37 = .ok (.aload_n 0, 1) := by decide +kernel
theorem dX10_termAt_38 : decode cX10_termAt 38 = .ok (.iload_n 1, 1) := by decide +kernel
theorem dX10_termAt_39 : decode cX10_termAt 39 = .ok (.iconst 5, 1) := by decide +kernel
theorem dX10_termAt_40 : decode cX10_termAt 40 = .ok (.iload_n 2, 1) := by decide +kernel
theorem dX10_termAt_41 : decode cX10_termAt 41 = .ok (.iadd, 1) := by decide +kernel
theorem dX10_termAt_42 : decode cX10_termAt 42 = .ok (.invokevirtual 47, 3) := by decide +kernel
theorem dX10_termAt_45 : decode cX10_termAt 45 = .ok (.istore 4, 2) := by decide +kernel
theorem dX10_termAt_47 : decode cX10_termAt 47 = .ok (.iload_n 3, 1) := by decide +kernel
theorem dX10_termAt_48 : decode cX10_termAt 48 = .ok (.ifCond .ne 8, 3) := by decide +kernel
theorem dX10_termAt_51 : decode cX10_termAt 51 = .ok (.iload 4, 2) := by decide +kernel
theorem dX10_termAt_53 : decode cX10_termAt 53 = .ok (.goto 9, 3) := by decide +kernel
theorem dX10_termAt_56 : decode cX10_termAt 56 = .ok (.aload_n 0, 1) := by decide +kernel
theorem dX10_termAt_57 : decode cX10_termAt 57 = .ok (.iload 4, 2) := by decide +kernel
theorem dX10_termAt_59 : decode cX10_termAt 59 = .ok (.invokevirtual 73, 3) := by decide +kernel
theorem dX10_termAt_62 : decode cX10_termAt 62 = .ok (.ireturn, 1) := by decide +kernel
theorem dX10_chain_0 : decode cX10_chain 0 = .ok (.iconst 0, 1) := by decide +kernel
theorem dX10_chain_1 : decode cX10_chain 1 = .ok (.istore_n 2, 1) := by decide +kernel
theorem dX10_chain_2 : decode cX10_chain 2 = .ok (.iload_n 1, 1) := by decide +kernel
theorem dX10_chain_3 : decode cX10_chain 3 = .ok (.istore_n 3, 1) := by decide +kernel
theorem dX10_chain_4 : decode cX10_chain 4 = .ok (.aload_n 0, 1) := by decide +kernel
theorem dX10_chain_5 : decode cX10_chain 5 = .ok (.getfield 7, 3) := by decide +kernel
theorem dX10_chain_8 : decode cX10_chain 8 = .ok (.sipush 260, 3) := by decide +kernel
theorem dX10_chain_11 : decode cX10_chain 11 = .ok (.iload_n 3, 1) := by decide +kernel
theorem dX10_chain_12 : decode cX10_chain 12 = .ok (.iadd, 1) := by decide +kernel
theorem dX10_chain_13 : decode cX10_chain 13 = .ok (.iaload, 1) := by decide +kernel
theorem dX10_chain_14 : decode cX10_chain 14 = .ok (.ifCond .lt 20, 3) := by decide +kernel
theorem dX10_chain_17 : decode cX10_chain 17 = .ok (.iinc 2 1, 3) := by decide +kernel
theorem dX10_chain_20 : decode cX10_chain 20 = .ok (.aload_n 0, 1) := by decide +kernel
theorem dX10_chain_21 : decode cX10_chain 21 = .ok (.getfield 7, 3) := by decide +kernel
theorem dX10_chain_24 : decode cX10_chain 24 = .ok (.sipush 260, 3) := by decide +kernel
theorem dX10_chain_27 : decode cX10_chain 27 = .ok (.iload_n 3, 1) := by decide +kernel
theorem dX10_chain_28 : decode cX10_chain 28 = .ok (.iadd, 1) := by decide +kernel
theorem dX10_chain_29 : decode cX10_chain 29 = .ok (.iaload, 1) := by decide +kernel
theorem dX10_chain_30 : decode cX10_chain 30 = .ok (.istore_n 3, 1) := by decide +kernel
theorem dX10_chain_31 : decode cX10_chain 31 = .ok (.goto (-27), 3) := by decide +kernel
theorem dX10_chain_34 : decode cX10_chain 34 = .ok (.iload_n 2, 1) := by decide +kernel
theorem dX10_chain_35 : decode cX10_chain 35 = .ok (.ireturn, 1) := by decide +kernel
theorem dX10_shows_0 : decode cX10_shows 0 = .ok (.iconst 0, 1) := by decide +kernel
theorem dX10_shows_1 : decode cX10_shows 1 = .ok (.istore_n 3, 1) := by decide +kernel
theorem dX10_shows_2 : decode cX10_shows 2 = .ok (.iconst 0, 1) := by decide +kernel
theorem dX10_shows_3 : decode cX10_shows 3 = .ok (.istore 4, 2) := by decide +kernel
theorem dX10_shows_5 : decode cX10_shows 5 = .ok (.iload 4, 2) := by decide +kernel
theorem dX10_shows_7 : decode cX10_shows 7 = .ok (.aload_n 0, 1) := by decide +kernel
theorem dX10_shows_8 : decode cX10_shows 8 = .ok (.iload_n 1, 1) := by decide +kernel
theorem dX10_shows_9 : decode cX10_shows 9 = .ok (.iconst 4, 1) := by decide +kernel
theorem dX10_shows_10 : decode cX10_shows 10 = .ok (.invokevirtual 47, 3) := by decide +kernel
theorem dX10_shows_13 : decode cX10_shows 13 = .ok (.if_icmp .ge 34, 3) := by decide +kernel
theorem dX10_shows_16 : decode cX10_shows 16 = .ok (.iload_n 3, 1) := by decide +kernel
theorem dX10_shows_17 : decode cX10_shows 17 = .ok (.aload_n 0, 1) := by decide +kernel
theorem dX10_shows_18 : decode cX10_shows 18 = .ok (.aload_n 0, 1) := by decide +kernel
theorem dX10_shows_19 : decode cX10_shows 19 = .ok (.iload_n 1, 1) := by decide +kernel
theorem dX10_shows_20 : decode cX10_shows 20 = .ok (.iconst 5, 1) := by decide +kernel
theorem dX10_shows_21 : decode cX10_shows 21 = .ok (.iload 4, 2) := by decide +kernel
theorem dX10_shows_23 : decode cX10_shows 23 = .ok (.iadd, 1) := by decide +kernel
theorem dX10_shows_24 : decode cX10_shows 24 = .ok (.invokevirtual 47, 3) := by decide +kernel
theorem dX10_shows_27 : decode cX10_shows 27 = .ok (.invokevirtual 73, 3) := by decide +kernel
theorem dX10_shows_30 : decode cX10_shows 30 = .ok (.iload_n 2, 1) := by decide +kernel
theorem dX10_shows_31 : decode cX10_shows 31 = .ok (.if_icmp .ne 7, 3) := by decide +kernel
theorem dX10_shows_34 : decode cX10_shows 34 = .ok (.iconst 1, 1) := by decide +kernel
theorem dX10_shows_35 : decode cX10_shows 35 = .ok (.goto 4, 3) := by decide +kernel
theorem dX10_shows_38 : decode cX10_shows 38 = .ok (.iconst 0, 1) := by decide +kernel
theorem dX10_shows_39 : decode cX10_shows 39 = .ok (.iadd, 1) := by decide +kernel
theorem dX10_shows_40 : decode cX10_shows 40 = .ok (.istore_n 3, 1) := by decide +kernel
theorem dX10_shows_41 : decode cX10_shows 41 = .ok (.iinc 4 1, 3) := by decide +kernel
theorem dX10_shows_44 : decode cX10_shows 44 = .ok (.goto (-39), 3) := by decide +kernel
theorem dX10_shows_47 : decode cX10_shows 47 = .ok (.iload_n 3, 1) := by decide +kernel
theorem dX10_shows_48 : decode cX10_shows 48 = .ok (.ireturn, 1) := by decide +kernel
theorem dX10_showing_0 : decode cX10_showing 0 = .ok (.iconst 0, 1) := by decide +kernel
theorem dX10_showing_1 : decode cX10_showing 1 = .ok (.istore_n 3, 1) := by decide +kernel
theorem dX10_showing_2 : decode cX10_showing 2 = .ok (.iconst 0, 1) := by decide +kernel
theorem dX10_showing_3 : decode cX10_showing 3 = .ok (.istore 4, 2) := by decide +kernel
theorem dX10_showing_5 : decode cX10_showing 5 = .ok (.iload 4, 2) := by decide +kernel
theorem dX10_showing_7 : decode cX10_showing 7 = .ok (.aload_n 0, 1) := by decide +kernel
theorem dX10_showing_8 : decode cX10_showing 8 = .ok (.getfield 7, 3) := by decide +kernel
theorem dX10_showing_11 : decode cX10_showing 11 = .ok (.sipush 282, 3) := by decide +kernel
theorem dX10_showing_14 : decode cX10_showing 14 = .ok (.iaload, 1) := by decide +kernel
theorem dX10_showing_15 : decode cX10_showing 15 = .ok (.if_icmp .ge 81, 3) := by decide +kernel
theorem dX10_showing_18 : decode cX10_showing 18 = .ok (.aload_n 0, 1) := by decide +kernel
theorem dX10_showing_19 : decode cX10_showing 19 = .ok (.iload 4, 2) := by decide +kernel
theorem dX10_showing_21 : decode cX10_showing 21 = .ok (.iload_n 1, 1) := by decide +kernel
theorem dX10_showing_22 : decode cX10_showing 22 = .ok (.invokevirtual 118, 3) := by decide +kernel
theorem dX10_showing_25 : decode cX10_showing 25 = .ok (.istore 5, 2) := by decide +kernel
theorem dX10_showing_27 : decode cX10_showing 27 = .ok (.aload_n 0, 1) := by decide +kernel
theorem dX10_showing_28 : decode cX10_showing 28 = .ok (.iload 4, 2) := by decide +kernel
theorem dX10_showing_30 : decode cX10_showing 30 = .ok (.iconst 3, 1) := by decide +kernel
theorem dX10_showing_31 : decode cX10_showing 31 = .ok (.invokevirtual 47, 3) := by decide +kernel
theorem dX10_showing_34 : decode cX10_showing 34 = .ok (.ifCond .lt 15, 3) := by decide +kernel
theorem dX10_showing_37 : decode cX10_showing 37 = .ok (.iconst 1, 1) := by decide +kernel
theorem dX10_showing_38 : decode cX10_showing 38 = .ok (.aload_n 0, 1) := by decide +kernel
theorem dX10_showing_39 : decode cX10_showing 39 = .ok (.iload 4, 2) := by decide +kernel
theorem dX10_showing_41 : decode cX10_showing 41 = .ok (.iconst 3, 1) := by decide +kernel
theorem dX10_showing_42 : decode cX10_showing 42 = .ok (.invokevirtual 47, 3) := by decide +kernel
theorem dX10_showing_45 : decode cX10_showing 45 = .ok (.ishl, 1) := by decide +kernel
theorem dX10_showing_46 : decode cX10_showing 46 = .ok (.goto 4, 3) := by decide +kernel
theorem dX10_showing_49 : decode cX10_showing 49 = .ok (.iconst 0, 1) := by decide +kernel
theorem dX10_showing_50 : decode cX10_showing 50 = .ok (.istore 6, 2) := by decide +kernel
theorem dX10_showing_52 : decode cX10_showing 52 = .ok (.iload_n 2, 1) := by decide +kernel
theorem dX10_showing_53 : decode cX10_showing 53 = .ok (.iconst 3, 1) := by decide +kernel
theorem dX10_showing_54 : decode cX10_showing 54 = .ok (.if_icmp .ne 10, 3) := by decide +kernel
theorem dX10_showing_57 : decode cX10_showing 57 = .ok (.iload_n 3, 1) := by decide +kernel
theorem dX10_showing_58 : decode cX10_showing 58 = .ok (.iload 5, 2) := by decide +kernel
theorem dX10_showing_60 : decode cX10_showing 60 = .ok (.iadd, 1) := by decide +kernel
theorem dX10_showing_61 : decode cX10_showing 61 = .ok (.goto 28, 3) := by decide +kernel
theorem dX10_showing_64 : decode cX10_showing 64 = .ok (.iload 5, 2) := by decide +kernel
theorem dX10_showing_66 : decode cX10_showing 66 = .ok (.ifCond .ne 7, 3) := by decide +kernel
theorem dX10_showing_69 : decode cX10_showing 69 = .ok (.iload_n 3, 1) := by decide +kernel
theorem dX10_showing_70 : decode cX10_showing 70 = .ok (.goto 19, 3) := by decide +kernel
theorem dX10_showing_73 : decode cX10_showing 73 = .ok (.iload_n 3, 1) := by decide +kernel
theorem dX10_showing_74 : decode cX10_showing 74 = .ok (.iload_n 2, 1) := by decide +kernel
theorem dX10_showing_75 : decode cX10_showing 75 = .ok (.iconst 4, 1) := by decide +kernel
theorem dX10_showing_76 : decode cX10_showing 76 = .ok (.if_icmp .ne 10, 3) := by decide +kernel
theorem dX10_showing_79 : decode cX10_showing 79 = .ok (.iconst 1, 1) := by decide +kernel
theorem dX10_showing_80 : decode cX10_showing 80 = .ok (.iload 4, 2) := by decide +kernel
theorem dX10_showing_82 : decode cX10_showing 82 = .ok (.ishl, 1) := by decide +kernel
theorem dX10_showing_83 : decode cX10_showing 83 = .ok (.goto 5, 3) := by decide +kernel
theorem dX10_showing_86 : decode cX10_showing 86 = .ok (.iload 6, 2) := by decide +kernel
theorem dX10_showing_88 : decode cX10_showing 88 = .ok (.ior, 1) := by decide +kernel
theorem dX10_showing_89 : decode cX10_showing 89 = .ok (.istore_n 3, 1) := by decide +kernel
theorem dX10_showing_90 : decode cX10_showing 90 = .ok (.iinc 4 1, 3) := by decide +kernel
theorem dX10_showing_93 : decode cX10_showing 93 = .ok (.goto (-88), 3) := by decide +kernel
theorem dX10_showing_96 : decode cX10_showing 96 = .ok (.iload_n 3, 1) := by decide +kernel
theorem dX10_showing_97 : decode cX10_showing 97 = .ok (.ireturn, 1) := by decide +kernel
theorem dX10_shownAs_0 : decode cX10_shownAs 0 = .ok (.iconst 0, 1) := by decide +kernel
theorem dX10_shownAs_1 : decode cX10_shownAs 1 = .ok (.istore_n 2, 1) := by decide +kernel
theorem dX10_shownAs_2 : decode cX10_shownAs 2 = .ok (.iconst 0, 1) := by decide +kernel
theorem dX10_shownAs_3 : decode cX10_shownAs 3 = .ok (.istore_n 3, 1) := by decide +kernel
theorem dX10_shownAs_4 : decode cX10_shownAs 4 = .ok (.iload_n 3, 1) := by decide +kernel
theorem dX10_shownAs_5 : decode cX10_shownAs 5 = .ok (.bipush 16, 2) := by decide +kernel
theorem dX10_shownAs_7 : decode cX10_shownAs 7 = .ok (.if_icmp .ge 28, 3) := by decide +kernel
theorem dX10_shownAs_10 : decode cX10_shownAs 10 = .ok (.iload_n 2, 1) := by decide +kernel
theorem dX10_shownAs_11 : decode cX10_shownAs 11 = .ok (.aload_n 0, 1) := by decide +kernel
theorem dX10_shownAs_12 : decode cX10_shownAs 12 = .ok (.iload_n 3, 1) := by decide +kernel
theorem dX10_shownAs_13 : decode cX10_shownAs 13 = .ok (.invokevirtual 73, 3) := by decide +kernel
theorem dX10_shownAs_16 : decode cX10_shownAs 16 = .ok (.iload_n 1, 1) := by decide +kernel
theorem dX10_shownAs_17 : decode cX10_shownAs 17 = .ok (.if_icmp .ne 9, 3) := by decide +kernel
theorem dX10_shownAs_20 : decode cX10_shownAs 20 = .ok (.iconst 1, 1) := by decide +kernel
theorem dX10_shownAs_21 : decode cX10_shownAs 21 = .ok (.iload_n 3, 1) := by decide +kernel
theorem dX10_shownAs_22 : decode cX10_shownAs 22 = .ok (.ishl, 1) := by decide +kernel
theorem dX10_shownAs_23 : decode cX10_shownAs 23 = .ok (.goto 4, 3) := by decide +kernel
theorem dX10_shownAs_26 : decode cX10_shownAs 26 = .ok (.iconst 0, 1) := by decide +kernel
theorem dX10_shownAs_27 : decode cX10_shownAs 27 = .ok (.ior, 1) := by decide +kernel
theorem dX10_shownAs_28 : decode cX10_shownAs 28 = .ok (.istore_n 2, 1) := by decide +kernel
theorem dX10_shownAs_29 : decode cX10_shownAs 29 = .ok (.iinc 3 1, 3) := by decide +kernel
theorem dX10_shownAs_32 : decode cX10_shownAs 32 = .ok (.goto (-28), 3) := by decide +kernel
theorem dX10_shownAs_35 : decode cX10_shownAs 35 = .ok (.iload_n 2, 1) := by decide +kernel
theorem dX10_shownAs_36 : decode cX10_shownAs 36 = .ok (.ireturn, 1) := by decide +kernel
theorem dX10_termOf_0 : decode cX10_termOf 0 = .ok (.iload_n 1, 1) := by decide +kernel
theorem dX10_termOf_1 : decode cX10_termOf 1 = .ok (.invokestatic 70, 3) := by decide +kernel
theorem dX10_termOf_4 : decode cX10_termOf 4 = .ok (.ifCond .eq 13, 3) := by decide +kernel
theorem dX10_termOf_7 : decode cX10_termOf 7 = .ok (.iload_n 2, 1) := by decide +kernel
theorem dX10_termOf_8 : decode cX10_termOf 8 = .ok (.iconst 0, 1) := by decide +kernel
theorem dX10_termOf_9 : decode cX10_termOf 9 = .ok (.bipush 6, 2) := by decide +kernel
theorem dX10_termOf_11 : decode cX10_termOf 11 = .ok (.invokestatic 39, 3) := by decide +kernel
theorem dX10_termOf_14 : decode cX10_termOf 14 = .ok (.ifCond .ne 6, 3) := by decide +kernel
theorem dX10_termOf_17 : decode cX10_termOf 17 = .ok (.ldc 50, 2) := by decide +kernel
theorem dX10_termOf_19 : decode cX10_termOf 19 = .ok (.ireturn, 1) := by decide +kernel
theorem dX10_termOf_20 : decode cX10_termOf 20 = .ok (.iload_n 2, 1) := by decide +kernel
theorem dX10_termOf_21 : decode cX10_termOf 21 = .ok (.tableswitch 90 0 6 #[43, 72, 78, 90, 90, 90, 84], 43) := by decide +kernel
theorem dX10_termOf_64 : decode cX10_termOf 64 = .ok (.aload_n 0, 1) := by decide +kernel
theorem dX10_termOf_65 : decode cX10_termOf 65 = .ok (.getfield 7, 3) := by decide +kernel
theorem dX10_termOf_68 : decode cX10_termOf 68 = .ok (.sipush 260, 3) := by decide +kernel
theorem dX10_termOf_71 : decode cX10_termOf 71 = .ok (.iload_n 1, 1) := by decide +kernel
theorem dX10_termOf_72 : decode cX10_termOf 72 = .ok (.iadd, 1) := by decide +kernel
theorem dX10_termOf_73 : decode cX10_termOf 73 = .ok (.iaload, 1) := by decide +kernel
theorem dX10_termOf_74 : decode cX10_termOf 74 = .ok (.ifCond .ge 8, 3) := by decide +kernel
theorem dX10_termOf_77 : decode cX10_termOf 77 = .ok (.ldc 110, 2) := by decide +kernel
theorem dX10_termOf_79 : decode cX10_termOf 79 = .ok (.goto 13, 3) := by decide +kernel
theorem dX10_termOf_82 : decode cX10_termOf 82 = .ok (.aload_n 0, 1) := by decide +kernel
theorem dX10_termOf_83 : decode cX10_termOf 83 = .ok (.getfield 7, 3) := by decide +kernel
theorem dX10_termOf_86 : decode cX10_termOf 86 = .ok (.sipush 260, 3) := by decide +kernel
theorem dX10_termOf_89 : decode cX10_termOf 89 = .ok (.iload_n 1, 1) := by decide +kernel
theorem dX10_termOf_90 : decode cX10_termOf 90 = .ok (.iadd, 1) := by decide +kernel
theorem dX10_termOf_91 : decode cX10_termOf 91 = .ok (.iaload, 1) := by decide +kernel
theorem dX10_termOf_92 : decode cX10_termOf 92 = .ok (.ireturn, 1) := by decide +kernel
theorem dX10_termOf_93 : decode cX10_termOf 93 = .ok (.aload_n 0, 1) := by decide +kernel
theorem dX10_termOf_94 : decode cX10_termOf 94 = .ok (.iload_n 1, 1) := by decide +kernel
theorem dX10_termOf_95 : decode cX10_termOf 95 = .ok (.invokevirtual 73, 3) := by decide +kernel
theorem dX10_termOf_98 : decode cX10_termOf 98 = .ok (.ireturn, 1) := by decide +kernel
theorem dX10_termOf_99 : decode cX10_termOf 99 = .ok (.aload_n 0, 1) := by decide +kernel
theorem dX10_termOf_100 : decode cX10_termOf 100 = .ok (.iload_n 1, 1) := by decide +kernel
theorem dX10_termOf_101 : decode cX10_termOf 101 = .ok (.invokevirtual 121, 3) := by decide +kernel
theorem dX10_termOf_104 : decode cX10_termOf 104 = .ok (.ireturn, 1) := by decide +kernel
theorem dX10_termOf_105 : decode cX10_termOf 105 = .ok (.aload_n 0, 1) := by decide +kernel
theorem dX10_termOf_106 : decode cX10_termOf 106 = .ok (.iload_n 1, 1) := by decide +kernel
theorem dX10_termOf_107 : decode cX10_termOf 107 = .ok (.invokevirtual 124, 3) := by decide +kernel
theorem dX10_termOf_110 : decode cX10_termOf 110 = .ok (.ireturn, 1) := by decide +kernel
theorem dX10_termOf_111 : decode cX10_termOf 111 = .ok (.aload_n 0, 1) := by decide +kernel
theorem dX10_termOf_112 : decode cX10_termOf 112 = .ok (.iload_n 1, 1) := by decide +kernel
theorem dX10_termOf_113 : decode cX10_termOf 113 = .ok (.iload_n 2, 1) := by decide +kernel
theorem dX10_termOf_114 : decode cX10_termOf 114 = .ok (.invokevirtual 127, 3) := by decide +kernel
theorem dX10_termOf_117 : decode cX10_termOf 117 = .ok (.ireturn, 1) := by decide +kernel
theorem dX10_secondsOf_0 : decode cX10_secondsOf 0 = .ok (.iconst 0, 1) := by decide +kernel
theorem dX10_secondsOf_1 : decode cX10_secondsOf 1 = .ok (.istore_n 2, 1) := by decide +kernel
theorem dX10_secondsOf_2 : decode cX10_secondsOf 2 = .ok (.iconst 0, 1) := by decide +kernel
theorem dX10_secondsOf_3 : decode cX10_secondsOf 3 = .ok (.istore_n 3, 1) := by decide +kernel
theorem dX10_secondsOf_4 : decode cX10_secondsOf 4 = .ok (.iload_n 3, 1) := by decide +kernel
theorem dX10_secondsOf_5 : decode cX10_secondsOf 5 = .ok (.aload_n 0, 1) := by decide +kernel
theorem dX10_secondsOf_6 : decode cX10_secondsOf 6 = .ok (.getfield 7, 3) := by decide +kernel
theorem dX10_secondsOf_9 : decode cX10_secondsOf 9 = .ok (.sipush 282, 3) := by decide +kernel
theorem dX10_secondsOf_12 : decode cX10_secondsOf 12 = .ok (.iaload, 1) := by decide +kernel
theorem dX10_secondsOf_13 : decode cX10_secondsOf 13 = .ok (.if_icmp .ge 39, 3) := by decide +kernel
theorem dX10_secondsOf_16 : decode cX10_secondsOf 16 = .ok (.iload_n 2, 1) := by decide +kernel
theorem dX10_secondsOf_17 : decode cX10_secondsOf 17 = .ok (.aload_n 0, 1) := by decide +kernel
theorem dX10_secondsOf_18 : decode cX10_secondsOf 18 = .ok (.iload_n 3, 1) := by decide +kernel
theorem dX10_secondsOf_19 : decode cX10_secondsOf 19 = .ok (.iconst 3, 1) := by decide +kernel
theorem dX10_secondsOf_20 : decode cX10_secondsOf 20 = .ok (.invokevirtual 47, 3) := by decide +kernel
theorem dX10_secondsOf_23 : decode cX10_secondsOf 23 = .ok (.iload_n 1, 1) := by decide +kernel
theorem dX10_secondsOf_24 : decode cX10_secondsOf 24 = .ok (.if_icmp .ne 19, 3) := by decide +kernel
theorem dX10_secondsOf_27 : decode cX10_secondsOf 27 = .ok (.aload_n 0, 1) := by decide +kernel
theorem dX10_secondsOf_28 : decode cX10_secondsOf 28 = .ok (.iload_n 3, 1) := by decide +kernel
theorem dX10_secondsOf_29 : decode cX10_secondsOf 29 = .ok (.iconst 1, 1) := by decide +kernel
theorem dX10_secondsOf_30 : decode cX10_secondsOf 30 = .ok (.invokevirtual 47, 3) := by decide +kernel
theorem dX10_secondsOf_33 : decode cX10_secondsOf 33 = .ok (.aload_n 0, 1) := by decide +kernel
theorem dX10_secondsOf_34 : decode cX10_secondsOf 34 = .ok (.iload_n 3, 1) := by decide +kernel
theorem dX10_secondsOf_35 : decode cX10_secondsOf 35 = .ok (.iconst 0, 1) := by decide +kernel
theorem dX10_secondsOf_36 : decode cX10_secondsOf 36 = .ok (.invokevirtual 47, 3) := by decide +kernel
theorem dX10_secondsOf_39 : decode cX10_secondsOf 39 = .ok (.isub, 1) := by decide +kernel
theorem dX10_secondsOf_40 : decode cX10_secondsOf 40 = .ok (.goto 4, 3) := by decide +kernel
theorem dX10_secondsOf_43 : decode cX10_secondsOf 43 = .ok (.iconst 0, 1) := by decide +kernel
theorem dX10_secondsOf_44 : decode cX10_secondsOf 44 = .ok (.iadd, 1) := by decide +kernel
theorem dX10_secondsOf_45 : decode cX10_secondsOf 45 = .ok (.istore_n 2, 1) := by decide +kernel
theorem dX10_secondsOf_46 : decode cX10_secondsOf 46 = .ok (.iinc 3 1, 3) := by decide +kernel
theorem dX10_secondsOf_49 : decode cX10_secondsOf 49 = .ok (.goto (-45), 3) := by decide +kernel
theorem dX10_secondsOf_52 : decode cX10_secondsOf 52 = .ok (.iload_n 2, 1) := by decide +kernel
theorem dX10_secondsOf_53 : decode cX10_secondsOf 53 = .ok (.ireturn, 1) := by decide +kernel
theorem dX10_termsOf_0 : decode cX10_termsOf 0 = .ok (.iconst 0, 1) := by decide +kernel
theorem dX10_termsOf_1 : decode cX10_termsOf 1 = .ok (.istore_n 3, 1) := by decide +kernel
theorem dX10_termsOf_2 : decode cX10_termsOf 2 = .ok (.iconst 0, 1) := by decide +kernel
theorem dX10_termsOf_3 : decode cX10_termsOf 3 = .ok (.istore 4, 2) := by decide +kernel
theorem dX10_termsOf_5 : decode cX10_termsOf 5 = .ok (.iload 4, 2) := by decide +kernel
theorem dX10_termsOf_7 : decode cX10_termsOf 7 = .ok (.aload_n 0, 1) := by decide +kernel
theorem dX10_termsOf_8 : decode cX10_termsOf 8 = .ok (.getfield 7, 3) := by decide +kernel
theorem dX10_termsOf_11 : decode cX10_termsOf 11 = .ok (.sipush 282, 3) := by decide +kernel
theorem dX10_termsOf_14 : decode cX10_termsOf 14 = .ok (.iaload, 1) := by decide +kernel
theorem dX10_termsOf_15 : decode cX10_termsOf 15 = .ok (.if_icmp .ge 82, 3) := by decide +kernel
theorem dX10_termsOf_18 : decode cX10_termsOf 18 = .ok (.aload_n 0, 1) := by decide +kernel
theorem dX10_termsOf_19 : decode cX10_termsOf 19 = .ok (.iload 4, 2) := by decide +kernel
theorem dX10_termsOf_21 : decode cX10_termsOf 21 = .ok (.iconst 3, 1) := by decide +kernel
theorem dX10_termsOf_22 : decode cX10_termsOf 22 = .ok (.invokevirtual 47, 3) := by decide +kernel
theorem dX10_termsOf_25 : decode cX10_termsOf 25 = .ok (.iload_n 1, 1) := by decide +kernel
theorem dX10_termsOf_26 : decode cX10_termsOf 26 = .ok (.if_icmp .ne 65, 3) := by decide +kernel
theorem dX10_termsOf_29 : decode cX10_termsOf 29 = .ok (.iload_n 3, 1) := by decide +kernel
theorem dX10_termsOf_30 : decode cX10_termsOf 30 = .ok (.iload_n 2, 1) := by decide +kernel
theorem dX10_termsOf_31 : decode cX10_termsOf 31 = .ok (.ifCond .eq 7, 3) := by decide +kernel
theorem dX10_termsOf_34 : decode cX10_termsOf 34 = .ok (.iconst 0, 1) := by decide +kernel
theorem dX10_termsOf_35 : decode cX10_termsOf 35 = .ok (.goto 10, 3) := by decide +kernel
theorem dX10_termsOf_38 : decode cX10_termsOf 38 = .ok (.aload_n 0, 1) := by decide +kernel
theorem dX10_termsOf_39 : decode cX10_termsOf 39 = .ok (.iload 4, 2) := by decide +kernel
theorem dX10_termsOf_41 : decode cX10_termsOf 41 = .ok (.iconst 4, 1) := by decide +kernel
theorem dX10_termsOf_42 : decode cX10_termsOf 42 = .ok (.invokevirtual 47, 3) := by decide +kernel
theorem dX10_termsOf_45 : decode cX10_termsOf 45 = .ok (.iadd, 1) := by decide +kernel
theorem dX10_termsOf_46 : decode cX10_termsOf 46 = .ok (.istore_n 3, 1) := by decide +kernel
theorem dX10_termsOf_47 : decode cX10_termsOf 47 = .ok (.iconst 0, 1) := by decide +kernel
theorem dX10_termsOf_48 : decode cX10_termsOf 48 = .ok (.istore 5, 2) := by decide +kernel
theorem dX10_termsOf_50 : decode cX10_termsOf 50 = .ok (.iload 5, 2) := by decide +kernel
theorem dX10_termsOf_52 : decode cX10_termsOf 52 = .ok (.aload_n 0, 1) := by decide +kernel
theorem dX10_termsOf_53 : decode cX10_termsOf 53 = .ok (.iload 4, 2) := by decide +kernel
theorem dX10_termsOf_55 : decode cX10_termsOf 55 = .ok (.iconst 4, 1) := by decide +kernel
theorem dX10_termsOf_56 : decode cX10_termsOf 56 = .ok (.invokevirtual 47, 3) := by decide +kernel
theorem dX10_termsOf_59 : decode cX10_termsOf 59 = .ok (.if_icmp .ge 32, 3) := by decide +kernel
theorem dX10_termsOf_62 : decode cX10_termsOf 62 = .ok (.iload_n 2, 1) := by decide +kernel
theorem dX10_termsOf_63 : decode cX10_termsOf 63 = .ok (.ifCond .eq 28, 3) := by decide +kernel
theorem dX10_termsOf_66 : decode cX10_termsOf 66 = .ok (.iload_n 3, 1) := by decide +kernel
theorem dX10_termsOf_67 : decode cX10_termsOf 67 = .ok (.iconst 1, 1) := by decide +kernel
theorem dX10_termsOf_68 : decode cX10_termsOf 68 = .ok (.aload_n 0, 1) := by decide +kernel
theorem dX10_termsOf_69 : decode cX10_termsOf 69 = .ok (.aload_n 0, 1) := by decide +kernel
theorem dX10_termsOf_70 : decode cX10_termsOf 70 = .ok (.iload 4, 2) := by decide +kernel
theorem dX10_termsOf_72 : decode cX10_termsOf 72 = .ok (.iconst 5, 1) := by decide +kernel
theorem dX10_termsOf_73 : decode cX10_termsOf 73 = .ok (.iload 5, 2) := by decide +kernel
theorem dX10_termsOf_75 : decode cX10_termsOf 75 = .ok (.iadd, 1) := by decide +kernel
theorem dX10_termsOf_76 : decode cX10_termsOf 76 = .ok (.invokevirtual 47, 3) := by decide +kernel
theorem dX10_termsOf_79 : decode cX10_termsOf 79 = .ok (.invokevirtual 73, 3) := by decide +kernel
theorem dX10_termsOf_82 : decode cX10_termsOf 82 = .ok (.ishl, 1) := by decide +kernel
theorem dX10_termsOf_83 : decode cX10_termsOf 83 = .ok (.ior, 1) := by decide +kernel
theorem dX10_termsOf_84 : decode cX10_termsOf 84 = .ok (.istore_n 3, 1) := by decide +kernel
theorem dX10_termsOf_85 : decode cX10_termsOf 85 = .ok (.iinc 5 1, 3) := by decide +kernel
theorem dX10_termsOf_88 : decode cX10_termsOf 88 = .ok (.goto (-38), 3) := by decide +kernel
theorem dX10_termsOf_91 : decode cX10_termsOf 91 = .ok (.iinc 4 1, 3) := by decide +kernel
theorem dX10_termsOf_94 : decode cX10_termsOf 94 = .ok (.goto (-89), 3) := by decide +kernel
theorem dX10_termsOf_97 : decode cX10_termsOf 97 = .ok (.iload_n 3, 1) := by decide +kernel
theorem dX10_termsOf_98 : decode cX10_termsOf 98 = .ok (.ireturn, 1) := by decide +kernel
theorem dX10_ones_0 : decode cX10_ones 0 = .ok (.iconst 0, 1) := by decide +kernel
theorem dX10_ones_1 : decode cX10_ones 1 = .ok (.istore_n 1, 1) := by decide +kernel
theorem dX10_ones_2 : decode cX10_ones 2 = .ok (.iload_n 0, 1) := by decide +kernel
theorem dX10_ones_3 : decode cX10_ones 3 = .ok (.istore_n 2, 1) := by decide +kernel
theorem dX10_ones_4 : decode cX10_ones 4 = .ok (.iload_n 2, 1) := by decide +kernel
theorem dX10_ones_5 : decode cX10_ones 5 = .ok (.ifCond .eq 15, 3) := by decide +kernel
theorem dX10_ones_8 : decode cX10_ones 8 = .ok (.iinc 1 1, 3) := by decide +kernel
theorem dX10_ones_11 : decode cX10_ones 11 = .ok (.iload_n 2, 1) := by decide +kernel
theorem dX10_ones_12 : decode cX10_ones 12 = .ok (.iload_n 2, 1) := by decide +kernel
theorem dX10_ones_13 : decode cX10_ones 13 = .ok (.iconst 1, 1) := by decide +kernel
theorem dX10_ones_14 : decode cX10_ones 14 = .ok (.isub, 1) := by decide +kernel
theorem dX10_ones_15 : decode cX10_ones 15 = .ok (.iand, 1) := by decide +kernel
theorem dX10_ones_16 : decode cX10_ones 16 = .ok (.istore_n 2, 1) := by decide +kernel
theorem dX10_ones_17 : decode cX10_ones 17 = .ok (.goto (-13), 3) := by decide +kernel
theorem dX10_ones_20 : decode cX10_ones 20 = .ok (.iload_n 1, 1) := by decide +kernel
theorem dX10_ones_21 : decode cX10_ones 21 = .ok (.ireturn, 1) := by decide +kernel
theorem dX10_often_0 : decode cX10_often 0 = .ok (.iconst 0, 1) := by decide +kernel
theorem dX10_often_1 : decode cX10_often 1 = .ok (.istore_n 3, 1) := by decide +kernel
theorem dX10_often_2 : decode cX10_often 2 = .ok (.iconst 0, 1) := by decide +kernel
theorem dX10_often_3 : decode cX10_often 3 = .ok (.istore 4, 2) := by decide +kernel
theorem dX10_often_5 : decode cX10_often 5 = .ok (.iload 4, 2) := by decide +kernel
theorem dX10_often_7 : decode cX10_often 7 = .ok (.aload_n 0, 1) := by decide +kernel
theorem dX10_often_8 : decode cX10_often 8 = .ok (.getfield 7, 3) := by decide +kernel
theorem dX10_often_11 : decode cX10_often 11 = .ok (.sipush 282, 3) := by decide +kernel
theorem dX10_often_14 : decode cX10_often 14 = .ok (.iaload, 1) := by decide +kernel
theorem dX10_often_15 : decode cX10_often 15 = .ok (.if_icmp .ge 92, 3) := by decide +kernel
theorem dX10_often_18 : decode cX10_often 18 = .ok (.iconst 0, 1) := by decide +kernel
theorem dX10_often_19 : decode cX10_often 19 = .ok (.istore 5, 2) := by decide +kernel
theorem dX10_often_21 : decode cX10_often 21 = .ok (.iload 5, 2) := by decide +kernel
theorem dX10_often_23 : decode cX10_often 23 = .ok (.aload_n 0, 1) := by decide +kernel
theorem dX10_often_24 : decode cX10_often 24 = .ok (.getfield 7, 3) := by decide +kernel
theorem dX10_often_27 : decode cX10_often 27 = .ok (.sipush 282, 3) := by decide +kernel
theorem dX10_often_30 : decode cX10_often 30 = .ok (.iaload, 1) := by decide +kernel
theorem dX10_often_31 : decode cX10_often 31 = .ok (.if_icmp .ge 70, 3) := by decide +kernel
theorem dX10_often_34 : decode cX10_often 34 = .ok (.iload_n 1, 1) := by decide +kernel
theorem dX10_often_35 : decode cX10_often 35 = .ok (.ifCond .lt 14, 3) := by decide +kernel
theorem dX10_often_38 : decode cX10_often 38 = .ok (.aload_n 0, 1) := by decide +kernel
theorem dX10_often_39 : decode cX10_often 39 = .ok (.iload 4, 2) := by decide +kernel
theorem dX10_often_41 : decode cX10_often 41 = .ok (.iconst 3, 1) := by decide +kernel
theorem dX10_often_42 : decode cX10_often 42 = .ok (.invokevirtual 47, 3) := by decide +kernel
theorem dX10_often_45 : decode cX10_often 45 = .ok (.iload_n 1, 1) := by decide +kernel
theorem dX10_often_46 : decode cX10_often 46 = .ok (.if_icmp .ne 22, 3) := by decide +kernel
theorem dX10_often_49 : decode cX10_often 49 = .ok (.iload_n 2, 1) := by decide +kernel
theorem dX10_often_50 : decode cX10_often 50 = .ok (.ifCond .lt 14, 3) := by decide +kernel
theorem dX10_often_53 : decode cX10_often 53 = .ok (.aload_n 0, 1) := by decide +kernel
theorem dX10_often_54 : decode cX10_often 54 = .ok (.iload 5, 2) := by decide +kernel
theorem dX10_often_56 : decode cX10_often 56 = .ok (.iconst 3, 1) := by decide +kernel
theorem dX10_often_57 : decode cX10_often 57 = .ok (.invokevirtual 47, 3) := by decide +kernel
theorem dX10_often_60 : decode cX10_often 60 = .ok (.iload_n 2, 1) := by decide +kernel
theorem dX10_often_61 : decode cX10_often 61 = .ok (.if_icmp .ne 7, 3) := by decide +kernel
theorem dX10_often_64 : decode cX10_often 64 = .ok (.iconst 1, 1) := by decide +kernel
theorem dX10_often_65 : decode cX10_often 65 = .ok (.goto 4, 3) := by decide +kernel
theorem dX10_often_68 : decode cX10_often 68 = .ok (.iconst 0, 1) := by decide +kernel
theorem dX10_often_69 : decode cX10_often 69 = .ok (.istore 6, 2) := by decide +kernel
theorem dX10_often_71 : decode cX10_often 71 = .ok (.iload_n 3, 1) := by decide +kernel
theorem dX10_often_72 : decode cX10_often 72 = .ok (.iload 6, 2) := by decide +kernel
theorem dX10_often_74 : decode cX10_often 74 = .ok (.ifCond .eq 18, 3) := by decide +kernel
theorem dX10_often_77 : decode cX10_often 77 = .ok (.aload_n 0, 1) := by decide +kernel
theorem dX10_often_78 : decode cX10_often 78 = .ok (.iload 4, 2) := by decide +kernel
theorem dX10_often_80 : decode cX10_often 80 = .ok (.iload 5, 2) := by decide +kernel
theorem dX10_often_82 : decode cX10_often 82 = .ok (.invokevirtual 98, 3) := by decide +kernel
theorem dX10_often_85 : decode cX10_often 85 = .ok (.ifCond .eq 7, 3) := by decide +kernel
theorem dX10_often_88 : decode cX10_often 88 = .ok (.iconst 1, 1) := by decide +kernel
theorem dX10_often_89 : decode cX10_often 89 = .ok (.goto 4, 3) := by decide +kernel
theorem dX10_often_92 : decode cX10_often 92 = .ok (.iconst 0, 1) := by decide +kernel
theorem dX10_often_93 : decode cX10_often 93 = .ok (.iadd, 1) := by decide +kernel
theorem dX10_often_94 : decode cX10_often 94 = .ok (.istore_n 3, 1) := by decide +kernel
theorem dX10_often_95 : decode cX10_often 95 = .ok (.iinc 5 1, 3) := by decide +kernel
theorem dX10_often_98 : decode cX10_often 98 = .ok (.goto (-77), 3) := by decide +kernel
theorem dX10_often_101 : decode cX10_often 101 = .ok (.iinc 4 1, 3) := by decide +kernel
theorem dX10_often_104 : decode cX10_often 104 = .ok (.goto (-99), 3) := by decide +kernel
theorem dX10_often_107 : decode cX10_often 107 = .ok (.iload_n 3, 1) := by decide +kernel
theorem dX10_often_108 : decode cX10_often 108 = .ok (.ireturn, 1) := by decide +kernel
theorem dX10_byMinute_0 : decode cX10_byMinute 0 = .ok (.aload_n 0, 1) := by decide +kernel
theorem dX10_byMinute_1 : decode cX10_byMinute 1 = .ok (.iload_n 1, 1) := by decide +kernel
theorem dX10_byMinute_2 : decode cX10_byMinute 2 = .ok (.invokevirtual 130, 3) := by decide +kernel
theorem dX10_byMinute_5 : decode cX10_byMinute 5 = .ok (.istore_n 2, 1) := by decide +kernel
theorem dX10_byMinute_6 : decode cX10_byMinute 6 = .ok (.aload_n 0, 1) := by decide +kernel
theorem dX10_byMinute_7 : decode cX10_byMinute 7 = .ok (.iload_n 1, 1) := by decide +kernel
theorem dX10_byMinute_8 : decode cX10_byMinute 8 = .ok (.iconst 0, 1) := by decide +kernel
theorem dX10_byMinute_9 : decode cX10_byMinute 9 = .ok (.invokevirtual 133, 3) := by decide +kernel
theorem dX10_byMinute_12 : decode cX10_byMinute 12 = .ok (.i2f, 1) := by decide +kernel
theorem dX10_byMinute_13 : decode cX10_byMinute 13 = .ok (.ldc 136, 2) := by decide +kernel
theorem dX10_byMinute_15 : decode cX10_byMinute 15 = .ok (.fmul, 1) := by decide +kernel
theorem dX10_byMinute_16 : decode cX10_byMinute 16 = .ok (.iload_n 2, 1) := by decide +kernel
theorem dX10_byMinute_17 : decode cX10_byMinute 17 = .ok (.ifCond .ne 7, 3) := by decide +kernel
theorem dX10_byMinute_20 : decode cX10_byMinute 20 = .ok (.iconst 1, 1) := by decide +kernel
theorem dX10_byMinute_21 : decode cX10_byMinute 21 = .ok (.goto 4, 3) := by decide +kernel
theorem dX10_byMinute_24 : decode cX10_byMinute 24 = .ok (.iload_n 2, 1) := by decide +kernel
theorem dX10_byMinute_25 : decode cX10_byMinute 25 = .ok (.i2f, 1) := by decide +kernel
theorem dX10_byMinute_26 : decode cX10_byMinute 26 = .ok (.fdiv, 1) := by decide +kernel
theorem dX10_byMinute_27 : decode cX10_byMinute 27 = .ok (.fstore_n 3, 1) := by decide +kernel
theorem dX10_byMinute_28 : decode cX10_byMinute 28 = .ok (.iload_n 2, 1) := by decide +kernel
theorem dX10_byMinute_29 : decode cX10_byMinute 29 = .ok (.ifCond .ne 8, 3) := by decide +kernel
theorem dX10_byMinute_32 : decode cX10_byMinute 32 = .ok (.ldc 110, 2) := by decide +kernel
theorem dX10_byMinute_34 : decode cX10_byMinute 34 = .ok (.goto 7, 3) := by decide +kernel
theorem dX10_byMinute_37 : decode cX10_byMinute 37 = .ok (.fload_n 3, 1) := by decide +kernel
theorem dX10_byMinute_38 : decode cX10_byMinute 38 = .ok (.invokestatic 137, 3) := by decide +kernel
theorem dX10_byMinute_41 : decode cX10_byMinute 41 = .ok (.ireturn, 1) := by decide +kernel
theorem dX10_speakerOf_0 : decode cX10_speakerOf 0 = .ok (.aload_n 0, 1) := by decide +kernel
theorem dX10_speakerOf_1 : decode cX10_speakerOf 1 = .ok (.iload_n 1, 1) := by decide +kernel
theorem dX10_speakerOf_2 : decode cX10_speakerOf 2 = .ok (.invokevirtual 91, 3) := by decide +kernel
theorem dX10_speakerOf_5 : decode cX10_speakerOf 5 = .ok (.ifCond .eq 13, 3) := by decide +kernel
theorem dX10_speakerOf_8 : decode cX10_speakerOf 8 = .ok (.iload_n 2, 1) := by decide +kernel
theorem dX10_speakerOf_9 : decode cX10_speakerOf 9 = .ok (.iconst 0, 1) := by decide +kernel
theorem dX10_speakerOf_10 : decode cX10_speakerOf 10 = .ok (.bipush 6, 2) := by decide +kernel
theorem dX10_speakerOf_12 : decode cX10_speakerOf 12 = .ok (.invokestatic 39, 3) := by decide +kernel
theorem dX10_speakerOf_15 : decode cX10_speakerOf 15 = .ok (.ifCond .ne 6, 3) := by decide +kernel
theorem dX10_speakerOf_18 : decode cX10_speakerOf 18 = .ok (.ldc 50, 2) := by decide +kernel
theorem dX10_speakerOf_20 : decode cX10_speakerOf 20 = .ok (.ireturn, 1) := by decide +kernel
theorem dX10_speakerOf_21 : decode cX10_speakerOf 21 = .ok (.iload_n 2, 1) := by decide +kernel
theorem dX10_speakerOf_22 : decode cX10_speakerOf 22 = .ok (.tableswitch 82 0 5 #[38, 49, 55, 61, 68, 75], 38) := by decide +kernel
theorem dX10_speakerOf_60 : decode cX10_speakerOf 60 = .ok (.aload_n 0, 1) := by decide +kernel
theorem dX10_speakerOf_61 : decode cX10_speakerOf 61 = .ok (.getfield 7, 3) := by decide +kernel
theorem dX10_speakerOf_64 : decode cX10_speakerOf 64 = .ok (.sipush 276, 3) := by decide +kernel
theorem dX10_speakerOf_67 : decode cX10_speakerOf 67 = .ok (.iload_n 1, 1) := by decide +kernel
theorem dX10_speakerOf_68 : decode cX10_speakerOf 68 = .ok (.iadd, 1) := by decide +kernel
theorem dX10_speakerOf_69 : decode cX10_speakerOf 69 = .ok (.iaload, 1) := by decide +kernel
theorem dX10_speakerOf_70 : decode cX10_speakerOf 70 = .ok (.ireturn, 1) := by decide +kernel
theorem dX10_speakerOf_71 : decode cX10_speakerOf 71 = .ok (.aload_n 0, 1) := by decide +kernel
theorem dX10_speakerOf_72 : decode cX10_speakerOf 72 = .ok (.iload_n 1, 1) := by decide +kernel
theorem dX10_speakerOf_73 : decode cX10_speakerOf 73 = .ok (.invokevirtual 88, 3) := by decide +kernel
theorem dX10_speakerOf_76 : decode cX10_speakerOf 76 = .ok (.ireturn, 1) := by decide +kernel
theorem dX10_speakerOf_77 : decode cX10_speakerOf 77 = .ok (.aload_n 0, 1) := by decide +kernel
theorem dX10_speakerOf_78 : decode cX10_speakerOf 78 = .ok (.iload_n 1, 1) := by decide +kernel
theorem dX10_speakerOf_79 : decode cX10_speakerOf 79 = .ok (.invokevirtual 130, 3) := by decide +kernel
theorem dX10_speakerOf_82 : decode cX10_speakerOf 82 = .ok (.ireturn, 1) := by decide +kernel
theorem dX10_speakerOf_83 : decode cX10_speakerOf 83 = .ok (.aload_n 0, 1) := by decide +kernel
theorem dX10_speakerOf_84 : decode cX10_speakerOf 84 = .ok (.iload_n 1, 1) := by decide +kernel
theorem dX10_speakerOf_85 : decode cX10_speakerOf 85 = .ok (.iconst 1, 1) := by decide +kernel
theorem dX10_speakerOf_86 : decode cX10_speakerOf 86 = .ok (.invokevirtual 133, 3) := by decide +kernel
theorem dX10_speakerOf_89 : decode cX10_speakerOf 89 = .ok (.ireturn, 1) := by decide +kernel
theorem dX10_speakerOf_90 : decode cX10_speakerOf 90 = .ok (.aload_n 0, 1) := by decide +kernel
theorem dX10_speakerOf_91 : decode cX10_speakerOf 91 = .ok (.iload_n 1, 1) := by decide +kernel
theorem dX10_speakerOf_92 : decode cX10_speakerOf 92 = .ok (.iconst (-1), 1) := by decide +kernel
theorem dX10_speakerOf_93 : decode cX10_speakerOf 93 = .ok (.invokevirtual 143, 3) := by decide +kernel
theorem dX10_speakerOf_96 : decode cX10_speakerOf 96 = .ok (.ireturn, 1) := by decide +kernel
theorem dX10_speakerOf_97 : decode cX10_speakerOf 97 = .ok (.aload_n 0, 1) := by decide +kernel
theorem dX10_speakerOf_98 : decode cX10_speakerOf 98 = .ok (.iconst (-1), 1) := by decide +kernel
theorem dX10_speakerOf_99 : decode cX10_speakerOf 99 = .ok (.iload_n 1, 1) := by decide +kernel
theorem dX10_speakerOf_100 : decode cX10_speakerOf 100 = .ok (.invokevirtual 143, 3) := by decide +kernel
theorem dX10_speakerOf_103 : decode cX10_speakerOf 103 = .ok (.ireturn, 1) := by decide +kernel
theorem dX10_speakerOf_104 : decode cX10_speakerOf 104 = .ok (.aload_n 0, 1) := by decide +kernel
theorem dX10_speakerOf_105 : decode cX10_speakerOf 105 = .ok (.iload_n 1, 1) := by decide +kernel
theorem dX10_speakerOf_106 : decode cX10_speakerOf 106 = .ok (.invokevirtual 146, 3) := by decide +kernel
theorem dX10_speakerOf_109 : decode cX10_speakerOf 109 = .ok (.ireturn, 1) := by decide +kernel
theorem dX10_voices_0 : decode cX10_voices 0 = .ok (.iconst 0, 1) := by decide +kernel
theorem dX10_voices_1 : decode cX10_voices 1 = .ok (.istore_n 2, 1) := by decide +kernel
theorem dX10_voices_2 : decode cX10_voices 2 = .ok (.iconst 0, 1) := by decide +kernel
theorem dX10_voices_3 : decode cX10_voices 3 = .ok (.istore_n 3, 1) := by decide +kernel
theorem dX10_voices_4 : decode cX10_voices 4 = .ok (.iload_n 3, 1) := by decide +kernel
theorem dX10_voices_5 : decode cX10_voices 5 = .ok (.aload_n 0, 1) := by decide +kernel
theorem dX10_voices_6 : decode cX10_voices 6 = .ok (.getfield 7, 3) := by decide +kernel
theorem dX10_voices_9 : decode cX10_voices 9 = .ok (.sipush 282, 3) := by decide +kernel
theorem dX10_voices_12 : decode cX10_voices 12 = .ok (.iaload, 1) := by decide +kernel
theorem dX10_voices_13 : decode cX10_voices 13 = .ok (.if_icmp .ge 42, 3) := by decide +kernel
theorem dX10_voices_16 : decode cX10_voices 16 = .ok (.iload_n 2, 1) := by decide +kernel
theorem dX10_voices_17 : decode cX10_voices 17 = .ok (.iload_n 1, 1) := by decide +kernel
theorem dX10_voices_18 : decode cX10_voices 18 = .ok (.iload_n 3, 1) := by decide +kernel
theorem dX10_voices_19 : decode cX10_voices 19 = .ok (.ishr, 1) := by decide +kernel
theorem dX10_voices_20 : decode cX10_voices 20 = .ok (.iconst 1, 1) := by decide +kernel
theorem dX10_voices_21 : decode cX10_voices 21 = .ok (.iand, 1) := by decide +kernel
theorem dX10_voices_22 : decode cX10_voices 22 = .ok (.iconst 1, 1) := by decide +kernel
theorem dX10_voices_23 : decode cX10_voices 23 = .ok (.if_icmp .ne 23, 3) := by decide +kernel
theorem dX10_voices_26 : decode cX10_voices 26 = .ok (.aload_n 0, 1) := by decide +kernel
theorem dX10_voices_27 : decode cX10_voices 27 = .ok (.iload_n 3, 1) := by decide +kernel
theorem dX10_voices_28 : decode cX10_voices 28 = .ok (.iconst 3, 1) := by decide +kernel
theorem dX10_voices_29 : decode cX10_voices 29 = .ok (.invokevirtual 47, 3) := by decide +kernel
theorem dX10_voices_32 : decode cX10_voices 32 = .ok (.ifCond .lt 14, 3) := by decide +kernel
theorem dX10_voices_35 : decode cX10_voices 35 = .ok (.iconst 1, 1) := by decide +kernel
theorem dX10_voices_36 : decode cX10_voices 36 = .ok (.aload_n 0, 1) := by decide +kernel
theorem dX10_voices_37 : decode cX10_voices 37 = .ok (.iload_n 3, 1) := by decide +kernel
theorem dX10_voices_38 : decode cX10_voices 38 = .ok (.iconst 3, 1) := by decide +kernel
theorem dX10_voices_39 : decode cX10_voices 39 = .ok (.invokevirtual 47, 3) := by decide +kernel
theorem dX10_voices_42 : decode cX10_voices 42 = .ok (.ishl, 1) := by decide +kernel
theorem dX10_voices_43 : decode cX10_voices 43 = .ok (.goto 4, 3) := by decide +kernel
theorem dX10_voices_46 : decode cX10_voices 46 = .ok (.iconst 0, 1) := by decide +kernel
theorem dX10_voices_47 : decode cX10_voices 47 = .ok (.ior, 1) := by decide +kernel
theorem dX10_voices_48 : decode cX10_voices 48 = .ok (.istore_n 2, 1) := by decide +kernel
theorem dX10_voices_49 : decode cX10_voices 49 = .ok (.iinc 3 1, 3) := by decide +kernel
theorem dX10_voices_52 : decode cX10_voices 52 = .ok (.goto (-48), 3) := by decide +kernel
theorem dX10_voices_55 : decode cX10_voices 55 = .ok (.iload_n 2, 1) := by decide +kernel
theorem dX10_voices_56 : decode cX10_voices 56 = .ok (.ireturn, 1) := by decide +kernel
theorem dX10_during_0 : decode cX10_during 0 = .ok (.iload_n 1, 1) := by decide +kernel
theorem dX10_during_1 : decode cX10_during 1 = .ok (.iconst 0, 1) := by decide +kernel
theorem dX10_during_2 : decode cX10_during 2 = .ok (.sipush 1999, 3) := by decide +kernel
theorem dX10_during_5 : decode cX10_during 5 = .ok (.invokestatic 39, 3) := by decide +kernel
theorem dX10_during_8 : decode cX10_during 8 = .ok (.ifCond .eq 12, 3) := by decide +kernel
theorem dX10_during_11 : decode cX10_during 11 = .ok (.iload_n 2, 1) := by decide +kernel
theorem dX10_during_12 : decode cX10_during 12 = .ok (.iconst 0, 1) := by decide +kernel
theorem dX10_during_13 : decode cX10_during 13 = .ok (.iconst 1, 1) := by decide +kernel
theorem dX10_during_14 : decode cX10_during 14 = .ok (.invokestatic 39, 3) := by decide +kernel
theorem dX10_during_17 : decode cX10_during 17 = .ok (.ifCond .ne 6, 3) := by decide +kernel
theorem dX10_during_20 : decode cX10_during 20 = .ok (.ldc 50, 2) := by decide +kernel
theorem dX10_during_22 : decode cX10_during 22 = .ok (.ireturn, 1) := by decide +kernel
theorem dX10_during_23 : decode cX10_during 23 = .ok (.iload_n 2, 1) := by decide +kernel
theorem dX10_during_24 : decode cX10_during 24 = .ok (.ifCond .ne 11, 3) := by decide +kernel
theorem dX10_during_27 : decode cX10_during 27 = .ok (.aload_n 0, 1) := by decide +kernel
theorem dX10_during_28 : decode cX10_during 28 = .ok (.iload_n 1, 1) := by decide +kernel
theorem dX10_during_29 : decode cX10_during 29 = .ok (.invokevirtual 107, 3) := by decide +kernel
theorem dX10_during_32 : decode cX10_during 32 = .ok (.goto 12, 3) := by decide +kernel
theorem dX10_during_35 : decode cX10_during 35 = .ok (.aload_n 0, 1) := by decide +kernel
theorem dX10_during_36 : decode cX10_during 36 = .ok (.aload_n 0, 1) := by decide +kernel
theorem dX10_during_37 : decode cX10_during 37 = .ok (.iload_n 1, 1) := by decide +kernel
theorem dX10_during_38 : decode cX10_during 38 = .ok (.invokevirtual 107, 3) := by decide +kernel
theorem dX10_during_41 : decode cX10_during 41 = .ok (.invokevirtual 149, 3) := by decide +kernel
theorem dX10_during_44 : decode cX10_during 44 = .ok (.ireturn, 1) := by decide +kernel
theorem dX10_interrupts_0 : decode cX10_interrupts 0 = .ok (.aload_n 0, 1) := by decide +kernel
theorem dX10_interrupts_1 : decode cX10_interrupts 1 = .ok (.iload_n 1, 1) := by decide +kernel
theorem dX10_interrupts_2 : decode cX10_interrupts 2 = .ok (.invokevirtual 91, 3) := by decide +kernel
theorem dX10_interrupts_5 : decode cX10_interrupts 5 = .ok (.ifCond .eq 25, 3) := by decide +kernel
theorem dX10_interrupts_8 : decode cX10_interrupts 8 = .ok (.aload_n 0, 1) := by decide +kernel
theorem dX10_interrupts_9 : decode cX10_interrupts 9 = .ok (.iload_n 2, 1) := by decide +kernel
theorem dX10_interrupts_10 : decode cX10_interrupts 10 = .ok (.invokevirtual 91, 3) := by decide +kernel
theorem dX10_interrupts_13 : decode cX10_interrupts 13 = .ok (.ifCond .eq 17, 3) := by decide +kernel
theorem dX10_interrupts_16 : decode cX10_interrupts 16 = .ok (.iload_n 1, 1) := by decide +kernel
theorem dX10_interrupts_17 : decode cX10_interrupts 17 = .ok (.iload_n 2, 1) := by decide +kernel
theorem dX10_interrupts_18 : decode cX10_interrupts 18 = .ok (.if_icmp .eq 12, 3) := by decide +kernel
theorem dX10_interrupts_21 : decode cX10_interrupts 21 = .ok (.aload_n 0, 1) := by decide +kernel
theorem dX10_interrupts_22 : decode cX10_interrupts 22 = .ok (.iload_n 1, 1) := by decide +kernel
theorem dX10_interrupts_23 : decode cX10_interrupts 23 = .ok (.iload_n 2, 1) := by decide +kernel
theorem dX10_interrupts_24 : decode cX10_interrupts 24 = .ok (.invokevirtual 143, 3) := by decide +kernel
theorem dX10_interrupts_27 : decode cX10_interrupts 27 = .ok (.goto 5, 3) := by decide +kernel
theorem dX10_interrupts_30 : decode cX10_interrupts 30 = .ok (.ldc 50, 2) := by decide +kernel
theorem dX10_interrupts_32 : decode cX10_interrupts 32 = .ok (.ireturn, 1) := by decide +kernel
theorem dX10_nearest_0 : decode cX10_nearest 0 = .ok (.iload_n 1, 1) := by decide +kernel
theorem dX10_nearest_1 : decode cX10_nearest 1 = .ok (.bipush 50, 2) := by decide +kernel
theorem dX10_nearest_3 : decode cX10_nearest 3 = .ok (.sipush 500, 3) := by decide +kernel
theorem dX10_nearest_6 : decode cX10_nearest 6 = .ok (.invokestatic 39, 3) := by decide +kernel
theorem dX10_nearest_9 : decode cX10_nearest 9 = .ok (.ifCond .ne 6, 3) := by decide +kernel
theorem dX10_nearest_12 : decode cX10_nearest 12 = .ok (.ldc 50, 2) := by decide +kernel
theorem dX10_nearest_14 : decode cX10_nearest 14 = .ok (.ireturn, 1) := by decide +kernel
theorem dX10_nearest_15 : decode cX10_nearest 15 = .ok (.aload_n 0, 1) := by decide +kernel
theorem dX10_nearest_16 : decode cX10_nearest 16 = .ok (.iload_n 1, 1) := by decide +kernel
theorem dX10_nearest_17 : decode cX10_nearest 17 = .ok (.invokevirtual 63, 3) := by decide +kernel
theorem dX10_nearest_20 : decode cX10_nearest 20 = .ok (.ifCond .ge 8, 3) := by decide +kernel
theorem dX10_nearest_23 : decode cX10_nearest 23 = .ok (.ldc 110, 2) := by decide +kernel
theorem dX10_nearest_25 : decode cX10_nearest 25 = .ok (.goto 8, 3) := by decide +kernel
theorem dX10_nearest_28 : decode cX10_nearest 28 = .ok (.aload_n 0, 1) := by decide +kernel
theorem dX10_nearest_29 : decode cX10_nearest 29 = .ok (.iload_n 1, 1) := by decide +kernel
theorem dX10_nearest_30 : decode cX10_nearest 30 = .ok (.invokevirtual 63, 3) := by decide +kernel
theorem dX10_nearest_33 : decode cX10_nearest 33 = .ok (.ireturn, 1) := by decide +kernel
theorem dX10_would_0 : decode cX10_would 0 = .ok (.aload_n 0, 1) := by decide +kernel
theorem dX10_would_1 : decode cX10_would 1 = .ok (.iload_n 1, 1) := by decide +kernel
theorem dX10_would_2 : decode cX10_would 2 = .ok (.iload_n 2, 1) := by decide +kernel
theorem dX10_would_3 : decode cX10_would 3 = .ok (.invokevirtual 81, 3) := by decide +kernel
theorem dX10_would_6 : decode cX10_would 6 = .ok (.istore_n 3, 1) := by decide +kernel
theorem dX10_would_7 : decode cX10_would 7 = .ok (.iload_n 3, 1) := by decide +kernel
theorem dX10_would_8 : decode cX10_would 8 = .ok (.ifCond .ge 7, 3) := by decide +kernel
theorem dX10_would_11 : decode cX10_would 11 = .ok (.iload_n 3, 1) := by decide +kernel
theorem dX10_would_12 : decode cX10_would 12 = .ok (.goto 10, 3) := by decide +kernel
theorem dX10_would_15 : decode cX10_would 15 = .ok (.aload_n 0, 1) := by decide +kernel
theorem dX10_would_16 : decode cX10_would 16 = .ok (.iload_n 1, 1) := by decide +kernel
theorem dX10_would_17 : decode cX10_would 17 = .ok (.iload_n 2, 1) := by decide +kernel
theorem dX10_would_18 : decode cX10_would 18 = .ok (.iconst 0, 1) := by decide +kernel
theorem dX10_would_19 : decode cX10_would 19 = .ok (.invokevirtual 84, 3) := by decide +kernel
theorem dX10_would_22 : decode cX10_would 22 = .ok (.ireturn, 1) := by decide +kernel
theorem dX10_both_0 : decode cX10_both 0 = .ok (.iconst 0, 1) := by decide +kernel
theorem dX10_both_1 : decode cX10_both 1 = .ok (.istore_n 3, 1) := by decide +kernel
theorem dX10_both_2 : decode cX10_both 2 = .ok (.iconst 0, 1) := by decide +kernel
theorem dX10_both_3 : decode cX10_both 3 = .ok (.istore 4, 2) := by decide +kernel
theorem dX10_both_5 : decode cX10_both 5 = .ok (.iload 4, 2) := by decide +kernel
theorem dX10_both_7 : decode cX10_both 7 = .ok (.aload_n 0, 1) := by decide +kernel
theorem dX10_both_8 : decode cX10_both 8 = .ok (.getfield 7, 3) := by decide +kernel
theorem dX10_both_11 : decode cX10_both 11 = .ok (.sipush 282, 3) := by decide +kernel
theorem dX10_both_14 : decode cX10_both 14 = .ok (.iaload, 1) := by decide +kernel
theorem dX10_both_15 : decode cX10_both 15 = .ok (.if_icmp .ge 37, 3) := by decide +kernel
theorem dX10_both_18 : decode cX10_both 18 = .ok (.iload_n 3, 1) := by decide +kernel
theorem dX10_both_19 : decode cX10_both 19 = .ok (.aload_n 0, 1) := by decide +kernel
theorem dX10_both_20 : decode cX10_both 20 = .ok (.iload 4, 2) := by decide +kernel
theorem dX10_both_22 : decode cX10_both 22 = .ok (.iload_n 1, 1) := by decide +kernel
