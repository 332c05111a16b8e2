theorem dX10_both_23 : decode cX10_both 23 = .ok (.invokevirtual 118, 3) := by decide +kernel
theorem dX10_both_26 : decode cX10_both 26 = .ok (.ifCond .le 17, 3) := by decide +kernel
theorem dX10_both_29 : decode cX10_both 29 = .ok (.aload_n 0, 1) := by decide +kernel
theorem dX10_both_30 : decode cX10_both 30 = .ok (.iload 4, 2) := by decide +kernel
theorem dX10_both_32 : decode cX10_both 32 = .ok (.iload_n 2, 1) := by decide +kernel
theorem dX10_both_33 : decode cX10_both 33 = .ok (.invokevirtual 118, 3) := by decide +kernel
theorem dX10_both_36 : decode cX10_both 36 = .ok (.ifCond .le 7, 3) := by decide +kernel
theorem dX10_both_39 : decode cX10_both 39 = .ok (.iconst 1, 1) := by decide +kernel
theorem dX10_both_40 : decode cX10_both 40 = .ok (.goto 4, 3) := by decide +kernel
theorem dX10_both_43 : decode cX10_both 43 = .ok (.iconst 0, 1) := by decide +kernel
theorem dX10_both_44 : decode cX10_both 44 = .ok (.iadd, 1) := by decide +kernel
theorem dX10_both_45 : decode cX10_both 45 = .ok (.istore_n 3, 1) := by decide +kernel
theorem dX10_both_46 : decode cX10_both 46 = .ok (.iinc 4 1, 3) := by decide +kernel
theorem dX10_both_49 : decode cX10_both 49 = .ok (.goto (-44), 3) := by decide +kernel
theorem dX10_both_52 : decode cX10_both 52 = .ok (.iload_n 3, 1) := by decide +kernel
theorem dX10_both_53 : decode cX10_both 53 = .ok (.ireturn, 1) := by decide +kernel
theorem dX10_together_0 : decode cX10_together 0 = .ok (.iload_n 1, 1) := by decide +kernel
theorem dX10_together_1 : decode cX10_together 1 = .ok (.iconst 0, 1) := by decide +kernel
theorem dX10_together_2 : decode cX10_together 2 = .ok (.iconst 2, 1) := by decide +kernel
theorem dX10_together_3 : decode cX10_together 3 = .ok (.invokestatic 39, 3) := by decide +kernel
theorem dX10_together_6 : decode cX10_together 6 = .ok (.ifCond .ne 6, 3) := by decide +kernel
theorem dX10_together_9 : decode cX10_together 9 = .ok (.ldc 50, 2) := by decide +kernel
theorem dX10_together_11 : decode cX10_together 11 = .ok (.ireturn, 1) := by decide +kernel
theorem dX10_together_12 : decode cX10_together 12 = .ok (.iconst 0, 1) := by decide +kernel
theorem dX10_together_13 : decode cX10_together 13 = .ok (.istore_n 2, 1) := by decide +kernel
theorem dX10_together_14 : decode cX10_together 14 = .ok (.iconst 0, 1) := by decide +kernel
theorem dX10_together_15 : decode cX10_together 15 = .ok (.istore_n 3, 1) := by decide +kernel
theorem dX10_together_16 : decode cX10_together 16 = .ok (.iconst 0, 1) := by decide +kernel
theorem dX10_together_17 : decode cX10_together 17 = .ok (.istore 4, 2) := by decide +kernel
theorem dX10_together_19 : decode cX10_together 19 = .ok (.iconst 0, 1) := by decide +kernel
theorem dX10_together_20 : decode cX10_together 20 = .ok (.istore 5, 2) := by decide +kernel
theorem dX10_together_22 : decode cX10_together 22 = .ok (.iload 5, 2) := by decide +kernel
theorem dX10_together_24 : decode cX10_together 24 = .ok (.bipush 16, 2) := by decide +kernel
theorem dX10_together_26 : decode cX10_together 26 = .ok (.if_icmp .ge 82, 3) := by decide +kernel
theorem dX10_together_29 : decode cX10_together 29 = .ok (.iload 5, 2) := by decide +kernel
theorem dX10_together_31 : decode cX10_together 31 = .ok (.iconst 1, 1) := by decide +kernel
theorem dX10_together_32 : decode cX10_together 32 = .ok (.iadd, 1) := by decide +kernel
theorem dX10_together_33 : decode cX10_together 33 = .ok (.istore 6, 2) := by decide +kernel
theorem dX10_together_35 : decode cX10_together 35 = .ok (.iload 6, 2) := by decide +kernel
theorem dX10_together_37 : decode cX10_together 37 = .ok (.bipush 16, 2) := by decide +kernel
theorem dX10_together_39 : decode cX10_together 39 = .ok (.if_icmp .ge 63, 3) := by decide +kernel
theorem dX10_together_42 : decode cX10_together 42 = .ok (.aload_n 0, 1) := by decide +kernel
theorem dX10_together_43 : decode cX10_together 43 = .ok (.iload 5, 2) := by decide +kernel
theorem dX10_together_45 : decode cX10_together 45 = .ok (.iload 6, 2) := by decide +kernel
theorem dX10_together_47 : decode cX10_together 47 = .ok (.invokevirtual 152, 3) := by decide +kernel
theorem dX10_together_50 : decode cX10_together 50 = .ok (.istore 7, 2) := by decide +kernel
theorem dX10_together_52 : decode cX10_together 52 = .ok (.iload 7, 2) := by decide +kernel
theorem dX10_together_54 : decode cX10_together 54 = .ok (.iload 4, 2) := by decide +kernel
theorem dX10_together_56 : decode cX10_together 56 = .ok (.if_icmp .le 8, 3) := by decide +kernel
theorem dX10_together_59 : decode cX10_together 59 = .ok (.iload 5, 2) := by decide +kernel
theorem dX10_together_61 : decode cX10_together 61 = .ok (.goto 4, 3) := by decide +kernel
theorem dX10_together_64 : decode cX10_together 64 = .ok (.iload_n 2, 1) := by decide +kernel
theorem dX10_together_65 : decode cX10_together 65 = .ok (.istore_n 2, 1) := by decide +kernel
theorem dX10_together_66 : decode cX10_together 66 = .ok (.iload 7, 2) := by decide +kernel
theorem dX10_together_68 : decode cX10_together 68 = .ok (.iload 4, 2) := by decide +kernel
theorem dX10_together_70 : decode cX10_together 70 = .ok (.if_icmp .le 8, 3) := by decide +kernel
theorem dX10_together_73 : decode cX10_together 73 = .ok (.iload 6, 2) := by decide +kernel
theorem dX10_together_75 : decode cX10_together 75 = .ok (.goto 4, 3) := by decide +kernel
theorem dX10_together_78 : decode cX10_together 78 = .ok (.iload_n 3, 1) := by decide +kernel
theorem dX10_together_79 : decode cX10_together 79 = .ok (.istore_n 3, 1) := by decide +kernel
theorem dX10_together_80 : decode cX10_together 80 = .ok (.iload 7, 2) := by decide +kernel
theorem dX10_together_82 : decode cX10_together 82 = .ok (.iload 4, 2) := by decide +kernel
theorem dX10_together_84 : decode cX10_together 84 = .ok (.if_icmp .le 8, 3) := by decide +kernel
theorem dX10_together_87 : decode cX10_together 87 = .ok (.iload 7, 2) := by decide +kernel
theorem dX10_together_89 : decode cX10_together 89 = .ok (.goto 5, 3) := by decide +kernel
theorem dX10_together_92 : decode cX10_together 92 = .ok (.iload 4, 2) := by decide +kernel
theorem dX10_together_94 : decode cX10_together 94 = .ok (.istore 4, 2) := by decide +kernel
theorem dX10_together_96 : decode cX10_together 96 = .ok (.iinc 6 1, 3) := by decide +kernel
theorem dX10_together_99 : decode cX10_together 99 = .ok (.goto (-64), 3) := by decide +kernel
theorem dX10_together_102 : decode cX10_together 102 = .ok (.iinc 5 1, 3) := by decide +kernel
theorem dX10_together_105 : decode cX10_together 105 = .ok (.goto (-83), 3) := by decide +kernel
theorem dX10_together_108 : decode cX10_together 108 = .ok (.iload 4, 2) := by decide +kernel
theorem dX10_together_110 : decode cX10_together 110 = .ok (.ifCond .ne 8, 3) := by decide +kernel
theorem dX10_together_113 : decode cX10_together 113 = .ok (.ldc 110, 2) := by decide +kernel
theorem dX10_together_115 : decode cX10_together 115 = .ok (.goto 22, 3) := by decide +kernel
theorem dX10_together_118 : decode cX10_together 118 = .ok (.iload_n 1, 1) := by decide +kernel
theorem dX10_together_119 : decode cX10_together 119 = .ok (.ifCond .ne 7, 3) := by decide +kernel
theorem dX10_together_122 : decode cX10_together 122 = .ok (.iload_n 2, 1) := by decide +kernel
theorem dX10_together_123 : decode cX10_together 123 = .ok (.goto 14, 3) := by decide +kernel
theorem dX10_together_126 : decode cX10_together 126 = .ok (.iload_n 1, 1) := by decide +kernel
theorem dX10_together_127 : decode cX10_together 127 = .ok (.iconst 1, 1) := by decide +kernel
theorem dX10_together_128 : decode cX10_together 128 = .ok (.if_icmp .ne 7, 3) := by decide +kernel
theorem dX10_together_131 : decode cX10_together 131 = .ok (.iload_n 3, 1) := by decide +kernel
theorem dX10_together_132 : decode cX10_together 132 = .ok (.goto 5, 3) := by decide +kernel
theorem dX10_together_135 : decode cX10_together 135 = .ok (.iload 4, 2) := by decide +kernel
theorem dX10_together_137 : decode cX10_together 137 = .ok (.ireturn, 1) := by decide +kernel
theorem dX10_lastEnd_0 : decode cX10_lastEnd 0 = .ok (.iconst 0, 1) := by decide +kernel
theorem dX10_lastEnd_1 : decode cX10_lastEnd 1 = .ok (.istore_n 1, 1) := by decide +kernel
theorem dX10_lastEnd_2 : decode cX10_lastEnd 2 = .ok (.iconst 0, 1) := by decide +kernel
theorem dX10_lastEnd_3 : decode cX10_lastEnd 3 = .ok (.istore_n 2, 1) := by decide +kernel
theorem dX10_lastEnd_4 : decode cX10_lastEnd 4 = .ok (.iload_n 2, 1) := by decide +kernel
theorem dX10_lastEnd_5 : decode cX10_lastEnd 5 = .ok (.aload_n 0, 1) := by decide +kernel
theorem dX10_lastEnd_6 : decode cX10_lastEnd 6 = .ok (.getfield 7, 3) := by decide +kernel
theorem dX10_lastEnd_9 : decode cX10_lastEnd 9 = .ok (.sipush 282, 3) := by decide +kernel
theorem dX10_lastEnd_12 : decode cX10_lastEnd 12 = .ok (.iaload, 1) := by decide +kernel
theorem dX10_lastEnd_13 : decode cX10_lastEnd 13 = .ok (.if_icmp .ge 30, 3) := by decide +kernel
theorem dX10_lastEnd_16 : decode cX10_lastEnd 16 = .ok (.aload_n 0, 1) := by decide +kernel
theorem dX10_lastEnd_17 : decode cX10_lastEnd 17 = .ok (.iload_n 2, 1) := by decide +kernel
theorem dX10_lastEnd_18 : decode cX10_lastEnd 18 = .ok (.iconst 1, 1) := by decide +kernel
theorem dX10_lastEnd_19 : decode cX10_lastEnd 19 = .ok (.invokevirtual 47, 3) := by decide +kernel
theorem dX10_lastEnd_22 : decode cX10_lastEnd 22 = .ok (.iload_n 1, 1) := by decide +kernel
theorem dX10_lastEnd_23 : decode cX10_lastEnd 23 = .ok (.if_icmp .le 12, 3) := by decide +kernel
theorem dX10_lastEnd_26 : decode cX10_lastEnd 26 = .ok (.aload_n 0, 1) := by decide +kernel
theorem dX10_lastEnd_27 : decode cX10_lastEnd 27 = .ok (.iload_n 2, 1) := by decide +kernel
theorem dX10_lastEnd_28 : decode cX10_lastEnd 28 = .ok (.iconst 1, 1) := by decide +kernel
theorem dX10_lastEnd_29 : decode cX10_lastEnd 29 = .ok (.invokevirtual 47, 3) := by decide +kernel
theorem dX10_lastEnd_32 : decode cX10_lastEnd 32 = .ok (.goto 4, 3) := by decide +kernel
theorem dX10_lastEnd_35 : decode cX10_lastEnd 35 = .ok (.iload_n 1, 1) := by decide +kernel
theorem dX10_lastEnd_36 : decode cX10_lastEnd 36 = .ok (.istore_n 1, 1) := by decide +kernel
theorem dX10_lastEnd_37 : decode cX10_lastEnd 37 = .ok (.iinc 2 1, 3) := by decide +kernel
theorem dX10_lastEnd_40 : decode cX10_lastEnd 40 = .ok (.goto (-36), 3) := by decide +kernel
theorem dX10_lastEnd_43 : decode cX10_lastEnd 43 = .ok (.iload_n 1, 1) := by decide +kernel
theorem dX10_lastEnd_44 : decode cX10_lastEnd 44 = .ok (.ireturn, 1) := by decide +kernel
theorem dX10_silence_0 : decode cX10_silence 0 = .ok (.iload_n 1, 1) := by decide +kernel
theorem dX10_silence_1 : decode cX10_silence 1 = .ok (.iconst 0, 1) := by decide +kernel
theorem dX10_silence_2 : decode cX10_silence 2 = .ok (.iconst 1, 1) := by decide +kernel
theorem dX10_silence_3 : decode cX10_silence 3 = .ok (.invokestatic 39, 3) := by decide +kernel
theorem dX10_silence_6 : decode cX10_silence 6 = .ok (.ifCond .ne 6, 3) := by decide +kernel
theorem dX10_silence_9 : decode cX10_silence 9 = .ok (.ldc 50, 2) := by decide +kernel
theorem dX10_silence_11 : decode cX10_silence 11 = .ok (.ireturn, 1) := by decide +kernel
theorem dX10_silence_12 : decode cX10_silence 12 = .ok (.iconst 0, 1) := by decide +kernel
theorem dX10_silence_13 : decode cX10_silence 13 = .ok (.istore_n 2, 1) := by decide +kernel
theorem dX10_silence_14 : decode cX10_silence 14 = .ok (.iconst 0, 1) := by decide +kernel
theorem dX10_silence_15 : decode cX10_silence 15 = .ok (.istore_n 3, 1) := by decide +kernel
theorem dX10_silence_16 : decode cX10_silence 16 = .ok (.iconst 0, 1) := by decide +kernel
theorem dX10_silence_17 : decode cX10_silence 17 = .ok (.istore 4, 2) := by decide +kernel
theorem dX10_silence_19 : decode cX10_silence 19 = .ok (.aload_n 0, 1) := by decide +kernel
theorem dX10_silence_20 : decode cX10_silence 20 = .ok (.invokevirtual 155, 3) := by decide +kernel
theorem dX10_silence_23 : decode cX10_silence 23 = .ok (.istore 5, 2) := by decide +kernel
theorem dX10_silence_25 : decode cX10_silence 25 = .ok (.aload_n 0, 1) := by decide +kernel
theorem dX10_silence_26 : decode cX10_silence 26 = .ok (.iconst 0, 1) := by decide +kernel
theorem dX10_silence_27 : decode cX10_silence 27 = .ok (.iconst 0, 1) := by decide +kernel
theorem dX10_silence_28 : decode cX10_silence 28 = .ok (.invokevirtual 47, 3) := by decide +kernel
theorem dX10_silence_31 : decode cX10_silence 31 = .ok (.istore 6, 2) := by decide +kernel
theorem dX10_silence_33 : decode cX10_silence 33 = .ok (.iload 6, 2) := by decide +kernel
theorem dX10_silence_35 : decode cX10_silence 35 = .ok (.iload 5, 2) := by decide +kernel
theorem dX10_silence_37 : decode cX10_silence 37 = .ok (.if_icmp .ge 70, 3) := by decide +kernel
theorem dX10_silence_40 : decode cX10_silence 40 = .ok (.aload_n 0, 1) := by decide +kernel
theorem dX10_silence_41 : decode cX10_silence 41 = .ok (.getfield 7, 3) := by decide +kernel
theorem dX10_silence_44 : decode cX10_silence 44 = .ok (.sipush 282, 3) := by decide +kernel
theorem dX10_silence_47 : decode cX10_silence 47 = .ok (.iaload, 1) := by decide +kernel
theorem dX10_silence_48 : decode cX10_silence 48 = .ok (.ifCond .le 59, 3) := by decide +kernel
theorem dX10_silence_51 : decode cX10_silence 51 = .ok (.aload_n 0, 1) := by decide +kernel
theorem dX10_silence_52 : decode cX10_silence 52 = .ok (.iload 6, 2) := by decide +kernel
theorem dX10_silence_54 : decode cX10_silence 54 = .ok (.invokevirtual 107, 3) := by decide +kernel
theorem dX10_silence_57 : decode cX10_silence 57 = .ok (.ifCond .ne 10, 3) := by decide +kernel
theorem dX10_silence_60 : decode cX10_silence 60 = .ok (.iload 4, 2) := by decide +kernel
theorem dX10_silence_62 : decode cX10_silence 62 = .ok (.iconst 1, 1) := by decide +kernel
theorem dX10_silence_63 : decode cX10_silence 63 = .ok (.iadd, 1) := by decide +kernel
theorem dX10_silence_64 : decode cX10_silence 64 = .ok (.goto 4, 3) := by decide +kernel
theorem dX10_silence_67 : decode cX10_silence 67 = .ok (.iconst 0, 1) := by decide +kernel
theorem dX10_silence_68 : decode cX10_silence 68 = .ok (.istore 4, 2) := by decide +kernel
theorem dX10_silence_70 : decode cX10_silence 70 = .ok (.iload 4, 2) := by decide +kernel
theorem dX10_silence_72 : decode cX10_silence 72 = .ok (.iload_n 3, 1) := by decide +kernel
theorem dX10_silence_73 : decode cX10_silence 73 = .ok (.if_icmp .le 13, 3) := by decide +kernel
theorem dX10_silence_76 : decode cX10_silence 76 = .ok (.iload 6, 2) := by decide +kernel
theorem dX10_silence_78 : decode cX10_silence 78 = .ok (.iload 4, 2) := by decide +kernel
theorem dX10_silence_80 : decode cX10_silence 80 = .ok (.isub, 1) := by decide +kernel
theorem dX10_silence_81 : decode cX10_silence 81 = .ok (.iconst 1, 1) := by decide +kernel
theorem dX10_silence_82 : decode cX10_silence 82 = .ok (.iadd, 1) := by decide +kernel
theorem dX10_silence_83 : decode cX10_silence 83 = .ok (.goto 4, 3) := by decide +kernel
theorem dX10_silence_86 : decode cX10_silence 86 = .ok (.iload_n 2, 1) := by decide +kernel
theorem dX10_silence_87 : decode cX10_silence 87 = .ok (.istore_n 2, 1) := by decide +kernel
theorem dX10_silence_88 : decode cX10_silence 88 = .ok (.iload 4, 2) := by decide +kernel
theorem dX10_silence_90 : decode cX10_silence 90 = .ok (.iload_n 3, 1) := by decide +kernel
theorem dX10_silence_91 : decode cX10_silence 91 = .ok (.if_icmp .le 8, 3) := by decide +kernel
theorem dX10_silence_94 : decode cX10_silence 94 = .ok (.iload 4, 2) := by decide +kernel
theorem dX10_silence_96 : decode cX10_silence 96 = .ok (.goto 4, 3) := by decide +kernel
theorem dX10_silence_99 : decode cX10_silence 99 = .ok (.iload_n 3, 1) := by decide +kernel
theorem dX10_silence_100 : decode cX10_silence 100 = .ok (.istore_n 3, 1) := by decide +kernel
theorem dX10_silence_101 : decode cX10_silence 101 = .ok (.iinc 6 1, 3) := by decide +kernel
theorem dX10_silence_104 : decode cX10_silence 104 = .ok (.goto (-71), 3) := by decide +kernel
theorem dX10_silence_107 : decode cX10_silence 107 = .ok (.iload_n 3, 1) := by decide +kernel
theorem dX10_silence_108 : decode cX10_silence 108 = .ok (.ifCond .ne 8, 3) := by decide +kernel
theorem dX10_silence_111 : decode cX10_silence 111 = .ok (.ldc 110, 2) := by decide +kernel
theorem dX10_silence_113 : decode cX10_silence 113 = .ok (.goto 12, 3) := by decide +kernel
theorem dX10_silence_116 : decode cX10_silence 116 = .ok (.iload_n 1, 1) := by decide +kernel
theorem dX10_silence_117 : decode cX10_silence 117 = .ok (.ifCond .ne 7, 3) := by decide +kernel
theorem dX10_silence_120 : decode cX10_silence 120 = .ok (.iload_n 2, 1) := by decide +kernel
theorem dX10_silence_121 : decode cX10_silence 121 = .ok (.goto 4, 3) := by decide +kernel
theorem dX10_silence_124 : decode cX10_silence 124 = .ok (.iload_n 3, 1) := by decide +kernel
theorem dX10_silence_125 : decode cX10_silence 125 = .ok (.ireturn, 1) := by decide +kernel
theorem dX10_doubtful_0 : decode cX10_doubtful 0 = .ok (.iload_n 1, 1) := by decide +kernel
theorem dX10_doubtful_1 : decode cX10_doubtful 1 = .ok (.iconst 0, 1) := by decide +kernel
theorem dX10_doubtful_2 : decode cX10_doubtful 2 = .ok (.iconst 1, 1) := by decide +kernel
theorem dX10_doubtful_3 : decode cX10_doubtful 3 = .ok (.invokestatic 39, 3) := by decide +kernel
theorem dX10_doubtful_6 : decode cX10_doubtful 6 = .ok (.ifCond .ne 6, 3) := by decide +kernel
theorem dX10_doubtful_9 : decode cX10_doubtful 9 = .ok (.ldc 50, 2) := by decide +kernel
theorem dX10_doubtful_11 : decode cX10_doubtful 11 = .ok (.ireturn, 1) := by decide +kernel
theorem dX10_doubtful_12 : decode cX10_doubtful 12 = .ok (.ldc 110, 2) := by decide +kernel
theorem dX10_doubtful_14 : decode cX10_doubtful 14 = .ok (.istore_n 2, 1) := by decide +kernel
theorem dX10_doubtful_15 : decode cX10_doubtful 15 = .ok (.iconst (-1), 1) := by decide +kernel
theorem dX10_doubtful_16 : decode cX10_doubtful 16 = .ok (.istore_n 3, 1) := by decide +kernel
theorem dX10_doubtful_17 : decode cX10_doubtful 17 = .ok (.iconst 0, 1) := by decide +kernel
theorem dX10_doubtful_18 : decode cX10_doubtful 18 = .ok (.istore 4, 2) := by decide +kernel
theorem dX10_doubtful_20 : decode cX10_doubtful 20 = .ok (.iload 4, 2) := by decide +kernel
theorem dX10_doubtful_22 : decode cX10_doubtful 22 = .ok (.aload_n 0, 1) := by decide +kernel
theorem dX10_doubtful_23 : decode cX10_doubtful 23 = .ok (.getfield 7, 3) := by decide +kernel
theorem dX10_doubtful_26 : decode cX10_doubtful 26 = .ok (.sipush 282, 3) := by decide +kernel
theorem dX10_doubtful_29 : decode cX10_doubtful 29 = .ok (.iaload, 1) := by decide +kernel
theorem dX10_doubtful_30 : decode cX10_doubtful 30 = .ok (.if_icmp .ge 77, 3) := by decide +kernel
theorem dX10_doubtful_33 : decode cX10_doubtful 33 = .ok (.aload_n 0, 1) := by decide +kernel
theorem dX10_doubtful_34 : decode cX10_doubtful 34 = .ok (.iload 4, 2) := by decide +kernel
theorem dX10_doubtful_36 : decode cX10_doubtful 36 = .ok (.iconst 3, 1) := by decide +kernel
theorem dX10_doubtful_37 : decode cX10_doubtful 37 = .ok (.invokevirtual 47, 3) := by decide +kernel
theorem dX10_doubtful_40 : decode cX10_doubtful 40 = .ok (.ifCond .ge 7, 3) := by decide +kernel
theorem dX10_doubtful_43 : decode cX10_doubtful 43 = .ok (.iconst (-1), 1) := by decide +kernel
theorem dX10_doubtful_44 : decode cX10_doubtful 44 = .ok (.goto 29, 3) := by decide +kernel
theorem dX10_doubtful_47 : decode cX10_doubtful 47 = .ok (.aload_n 0, 1) := by decide +kernel
theorem dX10_doubtful_48 : decode cX10_doubtful 48 = .ok (.getfield 7, 3) := by decide +kernel
theorem dX10_doubtful_51 : decode cX10_doubtful 51 = .ok (.sipush 276, 3) := by decide +kernel
theorem dX10_doubtful_54 : decode cX10_doubtful 54 = .ok (.aload_n 0, 1) := by decide +kernel
theorem dX10_doubtful_55 : decode cX10_doubtful 55 = .ok (.iload 4, 2) := by decide +kernel
theorem dX10_doubtful_57 : decode cX10_doubtful 57 = .ok (.iconst 3, 1) := by decide +kernel
theorem dX10_doubtful_58 : decode cX10_doubtful 58 = .ok (.invokevirtual 47, 3) := by decide +kernel
theorem dX10_doubtful_61 : decode cX10_doubtful 61 = .ok (.iadd, 1) := by decide +kernel
theorem dX10_doubtful_62 : decode cX10_doubtful 62 = .ok (.iaload, 1) := by decide +kernel
theorem dX10_doubtful_63 : decode cX10_doubtful 63 = .ok (.aload_n 0, 1) := by decide +kernel
theorem dX10_doubtful_64 : decode cX10_doubtful 64 = .ok (.iload 4, 2) := by decide +kernel
theorem dX10_doubtful_66 : decode cX10_doubtful 66 = .ok (.iconst 2, 1) := by decide +kernel
theorem dX10_doubtful_67 : decode cX10_doubtful 67 = .ok (.invokevirtual 47, 3) := by decide +kernel
theorem dX10_doubtful_70 : decode cX10_doubtful 70 = .ok (.invokestatic 43, 3) := by decide +kernel
theorem dX10_doubtful_73 : decode cX10_doubtful 73 = .ok (.istore 5, 2) := by decide +kernel
theorem dX10_doubtful_75 : decode cX10_doubtful 75 = .ok (.iload 5, 2) := by decide +kernel
theorem dX10_doubtful_77 : decode cX10_doubtful 77 = .ok (.iload_n 3, 1) := by decide +kernel
theorem dX10_doubtful_78 : decode cX10_doubtful 78 = .ok (.if_icmp .le 8, 3) := by decide +kernel
theorem dX10_doubtful_81 : decode cX10_doubtful 81 = .ok (.iload 4, 2) := by decide +kernel
theorem dX10_doubtful_83 : decode cX10_doubtful 83 = .ok (.goto 4, 3) := by decide +kernel
theorem dX10_doubtful_86 : decode cX10_doubtful 86 = .ok (.iload_n 2, 1) := by decide +kernel
theorem dX10_doubtful_87 : decode cX10_doubtful 87 = .ok (.istore_n 2, 1) := by decide +kernel
theorem dX10_doubtful_88 : decode cX10_doubtful 88 = .ok (.iload 5, 2) := by decide +kernel
theorem dX10_doubtful_90 : decode cX10_doubtful 90 = .ok (.iload_n 3, 1) := by decide +kernel
theorem dX10_doubtful_91 : decode cX10_doubtful 91 = .ok (.if_icmp .le 8, 3) := by decide +kernel
theorem dX10_doubtful_94 : decode cX10_doubtful 94 = .ok (.iload 5, 2) := by decide +kernel
theorem dX10_doubtful_96 : decode cX10_doubtful 96 = .ok (.goto 4, 3) := by decide +kernel
theorem dX10_doubtful_99 : decode cX10_doubtful 99 = .ok (.iload_n 3, 1) := by decide +kernel
theorem dX10_doubtful_100 : decode cX10_doubtful 100 = .ok (.istore_n 3, 1) := by decide +kernel
theorem dX10_doubtful_101 : decode cX10_doubtful 101 = .ok (.iinc 4 1, 3) := by decide +kernel
theorem dX10_doubtful_104 : decode cX10_doubtful 104 = .ok (.goto (-84), 3) := by decide +kernel
theorem dX10_doubtful_107 : decode cX10_doubtful 107 = .ok (.iload_n 2, 1) := by decide +kernel
theorem dX10_doubtful_108 : decode cX10_doubtful 108 = .ok (.ifCond .lt 7, 3) := by decide +kernel
theorem dX10_doubtful_111 : decode cX10_doubtful 111 = .ok (.iload_n 1, 1) := by decide +kernel
theorem dX10_doubtful_112 : decode cX10_doubtful 112 = .ok (.ifCond .ne 7, 3) := by decide +kernel
theorem dX10_doubtful_115 : decode cX10_doubtful 115 = .ok (.iload_n 2, 1) := by decide +kernel
theorem dX10_doubtful_116 : decode cX10_doubtful 116 = .ok (.goto 4, 3) := by decide +kernel
theorem dX10_doubtful_119 : decode cX10_doubtful 119 = .ok (.iload_n 3, 1) := by decide +kernel
theorem dX10_doubtful_120 : decode cX10_doubtful 120 = .ok (.ireturn, 1) := by decide +kernel
theorem dX10_ofTurns_0 : decode cX10_ofTurns 0 = .ok (.iconst 0, 1) := by decide +kernel
theorem dX10_ofTurns_1 : decode cX10_ofTurns 1 = .ok (.istore_n 2, 1) := by decide +kernel
theorem dX10_ofTurns_2 : decode cX10_ofTurns 2 = .ok (.iconst 0, 1) := by decide +kernel
theorem dX10_ofTurns_3 : decode cX10_ofTurns 3 = .ok (.istore_n 3, 1) := by decide +kernel
theorem dX10_ofTurns_4 : decode cX10_ofTurns 4 = .ok (.iload_n 3, 1) := by decide +kernel
theorem dX10_ofTurns_5 : decode cX10_ofTurns 5 = .ok (.aload_n 0, 1) := by decide +kernel
theorem dX10_ofTurns_6 : decode cX10_ofTurns 6 = .ok (.getfield 7, 3) := by decide +kernel
theorem dX10_ofTurns_9 : decode cX10_ofTurns 9 = .ok (.sipush 282, 3) := by decide +kernel
theorem dX10_ofTurns_12 : decode cX10_ofTurns 12 = .ok (.iaload, 1) := by decide +kernel
theorem dX10_ofTurns_13 : decode cX10_ofTurns 13 = .ok (.if_icmp .ge 57, 3) := by decide +kernel
theorem dX10_ofTurns_16 : decode cX10_ofTurns 16 = .ok (.iload_n 2, 1) := by decide +kernel
theorem dX10_ofTurns_17 : decode cX10_ofTurns 17 = .ok (.iload_n 1, 1) := by decide +kernel
theorem dX10_ofTurns_18 : decode cX10_ofTurns 18 = .ok (.iconst 2, 1) := by decide +kernel
theorem dX10_ofTurns_19 : decode cX10_ofTurns 19 = .ok (.if_icmp .ne 12, 3) := by decide +kernel
theorem dX10_ofTurns_22 : decode cX10_ofTurns 22 = .ok (.aload_n 0, 1) := by decide +kernel
theorem dX10_ofTurns_23 : decode cX10_ofTurns 23 = .ok (.iload_n 3, 1) := by decide +kernel
theorem dX10_ofTurns_24 : decode cX10_ofTurns 24 = .ok (.iconst 4, 1) := by decide +kernel
theorem dX10_ofTurns_25 : decode cX10_ofTurns 25 = .ok (.invokevirtual 47, 3) := by decide +kernel
theorem dX10_ofTurns_28 : decode cX10_ofTurns 28 = .ok (.goto 34, 3) := by decide +kernel
theorem dX10_ofTurns_31 : decode cX10_ofTurns 31 = .ok (.iload_n 1, 1) := by decide +kernel
theorem dX10_ofTurns_32 : decode cX10_ofTurns 32 = .ok (.iconst 4, 1) := by decide +kernel
theorem dX10_ofTurns_33 : decode cX10_ofTurns 33 = .ok (.if_icmp .ne 20, 3) := by decide +kernel
theorem dX10_ofTurns_36 : decode cX10_ofTurns 36 = .ok (.aload_n 0, 1) := by decide +kernel
theorem dX10_ofTurns_37 : decode cX10_ofTurns 37 = .ok (.iload_n 3, 1) := by decide +kernel
theorem dX10_ofTurns_38 : decode cX10_ofTurns 38 = .ok (.iconst 3, 1) := by decide +kernel
theorem dX10_ofTurns_39 : decode cX10_ofTurns 39 = .ok (.invokevirtual 47, 3) := by decide +kernel
theorem dX10_ofTurns_42 : decode cX10_ofTurns 42 = .ok (.ifCond .ge 7, 3) := by decide +kernel
theorem dX10_ofTurns_45 : decode cX10_ofTurns 45 = .ok (.iconst 1, 1) := by decide +kernel
theorem dX10_ofTurns_46 : decode cX10_ofTurns 46 = .ok (.goto 16, 3) := by decide +kernel
theorem dX10_ofTurns_49 : decode cX10_ofTurns 49 = .ok (.iconst 0, 1) := by decide +kernel
theorem dX10_ofTurns_50 : decode cX10_ofTurns 50 = .ok (.goto 12, 3) := by decide +kernel
theorem dX10_ofTurns_53 : decode cX10_ofTurns 53 = .ok (.aload_n 0, 1) := by decide +kernel
theorem dX10_ofTurns_54 : decode cX10_ofTurns 54 = .ok (.iload_n 3, 1) := by decide +kernel
theorem dX10_ofTurns_55 : decode cX10_ofTurns 55 = .ok (.iconst 0, 1) := by decide +kernel
theorem dX10_ofTurns_56 : decode cX10_ofTurns 56 = .ok (.invokevirtual 111, 3) := by decide +kernel
theorem dX10_ofTurns_59 : decode cX10_ofTurns 59 = .ok (.invokestatic 159, 3) := by decide +kernel
theorem dX10_ofTurns_62 : decode cX10_ofTurns 62 = .ok (.iadd, 1) := by decide +kernel
theorem dX10_ofTurns_63 : decode cX10_ofTurns 63 = .ok (.istore_n 2, 1) := by decide +kernel
theorem dX10_ofTurns_64 : decode cX10_ofTurns 64 = .ok (.iinc 3 1, 3) := by decide +kernel
theorem dX10_ofTurns_67 : decode cX10_ofTurns 67 = .ok (.goto (-63), 3) := by decide +kernel
theorem dX10_ofTurns_70 : decode cX10_ofTurns 70 = .ok (.iload_n 1, 1) := by decide +kernel
theorem dX10_ofTurns_71 : decode cX10_ofTurns 71 = .ok (.iconst 5, 1) := by decide +kernel
theorem dX10_ofTurns_72 : decode cX10_ofTurns 72 = .ok (.if_icmp .ne 9, 3) := by decide +kernel
theorem dX10_ofTurns_75 : decode cX10_ofTurns 75 = .ok (.iload_n 2, 1) := by decide +kernel
theorem dX10_ofTurns_76 : decode cX10_ofTurns 76 = .ok (.iconst 2, 1) := by decide +kernel
theorem dX10_ofTurns_77 : decode cX10_ofTurns 77 = .ok (.idiv, 1) := by decide +kernel
theorem dX10_ofTurns_78 : decode cX10_ofTurns 78 = .ok (.goto 4, 3) := by decide +kernel
theorem dX10_ofTurns_81 : decode cX10_ofTurns 81 = .ok (.iload_n 2, 1) := by decide +kernel
theorem dX10_ofTurns_82 : decode cX10_ofTurns 82 = .ok (.ireturn, 1) := by decide +kernel
theorem dX10_seconds_0 : decode cX10_seconds 0 = .ok (.iconst 0, 1) := by decide +kernel
theorem dX10_seconds_1 : decode cX10_seconds 1 = .ok (.istore_n 2, 1) := by decide +kernel
theorem dX10_seconds_2 : decode cX10_seconds 2 = .ok (.iconst 0, 1) := by decide +kernel
theorem dX10_seconds_3 : decode cX10_seconds 3 = .ok (.istore_n 3, 1) := by decide +kernel
theorem dX10_seconds_4 : decode cX10_seconds 4 = .ok (.iload_n 3, 1) := by decide +kernel
theorem dX10_seconds_5 : decode cX10_seconds 5 = .ok (.sipush 1999, 3) := by decide +kernel
theorem dX10_seconds_8 : decode cX10_seconds 8 = .ok (.if_icmp .gt 29, 3) := by decide +kernel
theorem dX10_seconds_11 : decode cX10_seconds 11 = .ok (.iload_n 2, 1) := by decide +kernel
theorem dX10_seconds_12 : decode cX10_seconds 12 = .ok (.aload_n 0, 1) := by decide +kernel
theorem dX10_seconds_13 : decode cX10_seconds 13 = .ok (.iload_n 3, 1) := by decide +kernel
theorem dX10_seconds_14 : decode cX10_seconds 14 = .ok (.invokevirtual 107, 3) := by decide +kernel
theorem dX10_seconds_17 : decode cX10_seconds 17 = .ok (.invokestatic 159, 3) := by decide +kernel
theorem dX10_seconds_20 : decode cX10_seconds 20 = .ok (.iload_n 1, 1) := by decide +kernel
theorem dX10_seconds_21 : decode cX10_seconds 21 = .ok (.if_icmp .lt 7, 3) := by decide +kernel
theorem dX10_seconds_24 : decode cX10_seconds 24 = .ok (.iconst 1, 1) := by decide +kernel
theorem dX10_seconds_25 : decode cX10_seconds 25 = .ok (.goto 4, 3) := by decide +kernel
theorem dX10_seconds_28 : decode cX10_seconds 28 = .ok (.iconst 0, 1) := by decide +kernel
theorem dX10_seconds_29 : decode cX10_seconds 29 = .ok (.iadd, 1) := by decide +kernel
theorem dX10_seconds_30 : decode cX10_seconds 30 = .ok (.istore_n 2, 1) := by decide +kernel
theorem dX10_seconds_31 : decode cX10_seconds 31 = .ok (.iinc 3 1, 3) := by decide +kernel
theorem dX10_seconds_34 : decode cX10_seconds 34 = .ok (.goto (-30), 3) := by decide +kernel
theorem dX10_seconds_37 : decode cX10_seconds 37 = .ok (.iload_n 2, 1) := by decide +kernel
theorem dX10_seconds_38 : decode cX10_seconds 38 = .ok (.ireturn, 1) := by decide +kernel
theorem dX10_voicesAll_0 : decode cX10_voicesAll 0 = .ok (.iconst 0, 1) := by decide +kernel
theorem dX10_voicesAll_1 : decode cX10_voicesAll 1 = .ok (.istore_n 1, 1) := by decide +kernel
theorem dX10_voicesAll_2 : decode cX10_voicesAll 2 = .ok (.iconst 0, 1) := by decide +kernel
theorem dX10_voicesAll_3 : decode cX10_voicesAll 3 = .ok (.istore_n 2, 1) := by decide +kernel
theorem dX10_voicesAll_4 : decode cX10_voicesAll 4 = .ok (.iload_n 2, 1) := by decide +kernel
theorem dX10_voicesAll_5 : decode cX10_voicesAll 5 = .ok (.bipush 6, 2) := by decide +kernel
theorem dX10_voicesAll_7 : decode cX10_voicesAll 7 = .ok (.if_icmp .ge 32, 3) := by decide +kernel
theorem dX10_voicesAll_10 : decode cX10_voicesAll 10 = .ok (.iload_n 1, 1) := by decide +kernel
theorem dX10_voicesAll_11 : decode cX10_voicesAll 11 = .ok (.aload_n 0, 1) := by decide +kernel
theorem dX10_voicesAll_12 : decode cX10_voicesAll 12 = .ok (.getfield 7, 3) := by decide +kernel
theorem dX10_voicesAll_15 : decode cX10_voicesAll 15 = .ok (.sipush 276, 3) := by decide +kernel
theorem dX10_voicesAll_18 : decode cX10_voicesAll 18 = .ok (.iload_n 2, 1) := by decide +kernel
theorem dX10_voicesAll_19 : decode cX10_voicesAll 19 = .ok (.iadd, 1) := by decide +kernel
theorem dX10_voicesAll_20 : decode cX10_voicesAll 20 = .ok (.iaload, 1) := by decide +kernel
theorem dX10_voicesAll_21 : decode cX10_voicesAll 21 = .ok (.ifCond .le 9, 3) := by decide +kernel
theorem dX10_voicesAll_24 : decode cX10_voicesAll 24 = .ok (.iconst 1, 1) := by decide +kernel
theorem dX10_voicesAll_25 : decode cX10_voicesAll 25 = .ok (.iload_n 2, 1) := by decide +kernel
theorem dX10_voicesAll_26 : decode cX10_voicesAll 26 = .ok (.ishl, 1) := by decide +kernel
theorem dX10_voicesAll_27 : decode cX10_voicesAll 27 = .ok (.goto 4, 3) := by decide +kernel
theorem dX10_voicesAll_30 : decode cX10_voicesAll 30 = .ok (.iconst 0, 1) := by decide +kernel
theorem dX10_voicesAll_31 : decode cX10_voicesAll 31 = .ok (.ior, 1) := by decide +kernel
theorem dX10_voicesAll_32 : decode cX10_voicesAll 32 = .ok (.istore_n 1, 1) := by decide +kernel
theorem dX10_voicesAll_33 : decode cX10_voicesAll 33 = .ok (.iinc 2 1, 3) := by decide +kernel
theorem dX10_voicesAll_36 : decode cX10_voicesAll 36 = .ok (.goto (-32), 3) := by decide +kernel
theorem dX10_voicesAll_39 : decode cX10_voicesAll 39 = .ok (.iload_n 1, 1) := by decide +kernel
theorem dX10_voicesAll_40 : decode cX10_voicesAll 40 = .ok (.ireturn, 1) := by decide +kernel
theorem dX10_corrections_0 : decode cX10_corrections 0 = .ok (.iconst 0, 1) := by decide +kernel
theorem dX10_corrections_1 : decode cX10_corrections 1 = .ok (.istore_n 1, 1) := by decide +kernel
theorem dX10_corrections_2 : decode cX10_corrections 2 = .ok (.iconst 0, 1) := by decide +kernel
theorem dX10_corrections_3 : decode cX10_corrections 3 = .ok (.istore_n 2, 1) := by decide +kernel
theorem dX10_corrections_4 : decode cX10_corrections 4 = .ok (.iload_n 2, 1) := by decide +kernel
theorem dX10_corrections_5 : decode cX10_corrections 5 = .ok (.bipush 16, 2) := by decide +kernel
theorem dX10_corrections_7 : decode cX10_corrections 7 = .ok (.if_icmp .ge 30, 3) := by decide +kernel
theorem dX10_corrections_10 : decode cX10_corrections 10 = .ok (.iload_n 1, 1) := by decide +kernel
theorem dX10_corrections_11 : decode cX10_corrections 11 = .ok (.aload_n 0, 1) := by decide +kernel
theorem dX10_corrections_12 : decode cX10_corrections 12 = .ok (.getfield 7, 3) := by decide +kernel
theorem dX10_corrections_15 : decode cX10_corrections 15 = .ok (.sipush 260, 3) := by decide +kernel
theorem dX10_corrections_18 : decode cX10_corrections 18 = .ok (.iload_n 2, 1) := by decide +kernel
theorem dX10_corrections_19 : decode cX10_corrections 19 = .ok (.iadd, 1) := by decide +kernel
theorem dX10_corrections_20 : decode cX10_corrections 20 = .ok (.iaload, 1) := by decide +kernel
theorem dX10_corrections_21 : decode cX10_corrections 21 = .ok (.ifCond .lt 7, 3) := by decide +kernel
theorem dX10_corrections_24 : decode cX10_corrections 24 = .ok (.iconst 1, 1) := by decide +kernel
theorem dX10_corrections_25 : decode cX10_corrections 25 = .ok (.goto 4, 3) := by decide +kernel
theorem dX10_corrections_28 : decode cX10_corrections 28 = .ok (.iconst 0, 1) := by decide +kernel
theorem dX10_corrections_29 : decode cX10_corrections 29 = .ok (.iadd, 1) := by decide +kernel
theorem dX10_corrections_30 : decode cX10_corrections 30 = .ok (.istore_n 1, 1) := by decide +kernel
theorem dX10_corrections_31 : decode cX10_corrections 31 = .ok (.iinc 2 1, 3) := by decide +kernel
theorem dX10_corrections_34 : decode cX10_corrections 34 = .ok (.goto (-30), 3) := by decide +kernel
theorem dX10_corrections_37 : decode cX10_corrections 37 = .ok (.iload_n 1, 1) := by decide +kernel
theorem dX10_corrections_38 : decode cX10_corrections 38 = .ok (.ireturn, 1) := by decide +kernel
theorem dX10_count_0 : decode cX10_count 0 = .ok (.iload_n 1, 1) := by decide +kernel
theorem dX10_count_1 : decode cX10_count 1 = .ok (.tableswitch 159 0 20 #[99, 108, 116, 122, 116, 116, 127, 127, 135, 140, 145, 159, 159, 159, 159, 159, 159, 159, 159, 159, 150], 99) := by decide +kernel
theorem dX10_count_100 : decode cX10_count 100 = .ok (.aload_n 0, 1) := by decide +kernel
theorem dX10_count_101 : decode cX10_count 101 = .ok (.getfield 7, 3) := by decide +kernel
theorem dX10_count_104 : decode cX10_count 104 = .ok (.sipush 282, 3) := by decide +kernel
theorem dX10_count_107 : decode cX10_count 107 = .ok (.iaload, 1) := by decide +kernel
theorem dX10_count_108 : decode cX10_count 108 = .ok (.ireturn, 1) := by decide +kernel
theorem dX10_count_109 : decode cX10_count 109 = .ok (.aload_n 0, 1) := by decide +kernel
theorem dX10_count_110 : decode cX10_count 110 = .ok (.invokevirtual 162, 3) := by decide +kernel
theorem dX10_count_113 : decode cX10_count 113 = .ok (.invokestatic 159, 3) := by decide +kernel
theorem dX10_count_116 : decode cX10_count 116 = .ok (.ireturn, 1) := by decide +kernel
theorem dX10_count_117 : decode cX10_count 117 = .ok (.aload_n 0, 1) := by decide +kernel
theorem dX10_count_118 : decode cX10_count 118 = .ok (.iload_n 1, 1) := by decide +kernel
theorem dX10_count_119 : decode cX10_count 119 = .ok (.invokevirtual 165, 3) := by decide +kernel
theorem dX10_count_122 : decode cX10_count 122 = .ok (.ireturn, 1) := by decide +kernel
theorem dX10_count_123 : decode cX10_count 123 = .ok (.aload_n 0, 1) := by decide +kernel
theorem dX10_count_124 : decode cX10_count 124 = .ok (.invokevirtual 168, 3) := by decide +kernel
theorem dX10_count_127 : decode cX10_count 127 = .ok (.ireturn, 1) := by decide +kernel
theorem dX10_count_128 : decode cX10_count 128 = .ok (.aload_n 0, 1) := by decide +kernel
theorem dX10_count_129 : decode cX10_count 129 = .ok (.iload_n 1, 1) := by decide +kernel
theorem dX10_count_130 : decode cX10_count 130 = .ok (.iconst 5, 1) := by decide +kernel
theorem dX10_count_131 : decode cX10_count 131 = .ok (.isub, 1) := by decide +kernel
theorem dX10_count_132 : decode cX10_count 132 = .ok (.invokevirtual 171, 3) := by decide +kernel
theorem dX10_count_135 : decode cX10_count 135 = .ok (.ireturn, 1) := by decide +kernel
theorem dX10_count_136 : decode cX10_count 136 = .ok (.aload_n 0, 1) := by decide +kernel
theorem dX10_count_137 : decode cX10_count 137 = .ok (.getfield 35, 3) := by decide +kernel
theorem dX10_count_140 : decode cX10_count 140 = .ok (.ireturn, 1) := by decide +kernel
theorem dX10_count_141 : decode cX10_count 141 = .ok (.aload_n 0, 1) := by decide +kernel
theorem dX10_count_142 : decode cX10_count 142 = .ok (.getfield 174, 3) := by decide +kernel
theorem dX10_count_145 : decode cX10_count 145 = .ok (.ireturn, 1) := by decide +kernel
theorem dX10_count_146 : decode cX10_count 146 = .ok (.aload_n 0, 1) := by decide +kernel
theorem dX10_count_147 : decode cX10_count 147 = .ok (.invokevirtual 162, 3) := by decide +kernel
theorem dX10_count_150 : decode cX10_count 150 = .ok (.ireturn, 1) := by decide +kernel
theorem dX10_count_151 : decode cX10_count 151 = .ok (.aload_n 0, 1) := by decide +kernel
theorem dX10_count_152 : decode cX10_count 152 = .ok (.getfield 7, 3) := by decide +kernel
theorem dX10_count_155 : decode cX10_count 155 = .ok (.sipush 283, 3) := by decide +kernel
theorem dX10_count_158 : decode cX10_count 158 = .ok (.iaload, 1) := by decide +kernel
theorem dX10_count_159 : decode cX10_count 159 = .ok (.ireturn, 1) := by decide +kernel
theorem dX10_count_160 : decode cX10_count 160 = .ok (.ldc 50, 2) := by decide +kernel
theorem dX10_count_162 : decode cX10_count 162 = .ok (.ireturn, 1) := by decide +kernel
theorem dX10_undo_0 : decode cX10_undo 0 = .ok (.aload_n 0, 1) := by decide +kernel
theorem dX10_undo_1 : decode cX10_undo 1 = .ok (.getfield 35, 3) := by decide +kernel
theorem dX10_undo_4 : decode cX10_undo 4 = .ok (.ifCond .ne 6, 3) := by decide +kernel
theorem dX10_undo_7 : decode cX10_undo 7 = .ok (.ldc 80, 2) := by decide +kernel
theorem dX10_undo_9 : decode cX10_undo 9 = .ok (.ireturn, 1) := by decide +kernel
theorem dX10_undo_10 : decode cX10_undo 10 = .ok (.aload_n 0, 1) := by decide +kernel
theorem dX10_undo_11 : decode cX10_undo 11 = .ok (.dup, 1) := by decide +kernel
theorem dX10_undo_12 : decode cX10_undo 12 = .ok (.getfield 35, 3) := by decide +kernel
theorem dX10_undo_15 : decode cX10_undo 15 = .ok (.iconst 1, 1) := by decide +kernel
theorem dX10_undo_16 : decode cX10_undo 16 = .ok (.isub, 1) := by decide +kernel
theorem dX10_undo_17 : decode cX10_undo 17 = .ok (.putfield 35, 3) := by decide +kernel
theorem dX10_undo_20 : decode cX10_undo 20 = .ok (.iconst 0, 1) := by decide +kernel
theorem dX10_undo_21 : decode cX10_undo 21 = .ok (.istore_n 1, 1) := by decide +kernel
theorem dX10_undo_22 : decode cX10_undo 22 = .ok (.iload_n 1, 1) := by decide +kernel
theorem dX10_undo_23 : decode cX10_undo 23 = .ok (.sipush 284, 3) := by decide +kernel
theorem dX10_undo_26 : decode cX10_undo 26 = .ok (.if_icmp .ge 30, 3) := by decide +kernel
theorem dX10_undo_29 : decode cX10_undo 29 = .ok (.aload_n 0, 1) := by decide +kernel
theorem dX10_undo_30 : decode cX10_undo 30 = .ok (.getfield 7, 3) := by decide +kernel
theorem dX10_undo_33 : decode cX10_undo 33 = .ok (.iload_n 1, 1) := by decide +kernel
theorem dX10_undo_34 : decode cX10_undo 34 = .ok (.aload_n 0, 1) := by decide +kernel
theorem dX10_undo_35 : decode cX10_undo 35 = .ok (.getfield 13, 3) := by decide +kernel
theorem dX10_undo_38 : decode cX10_undo 38 = .ok (.sipush 284, 3) := by decide +kernel
theorem dX10_undo_41 : decode cX10_undo 41 = .ok (.aload_n 0, 1) := by decide +kernel
theorem dX10_undo_42 : decode cX10_undo 42 = .ok (.getfield 35, 3) := by decide +kernel
theorem dX10_undo_45 : decode cX10_undo 45 = .ok (.imul, 1) := by decide +kernel
theorem dX10_undo_46 : decode cX10_undo 46 = .ok (.iload_n 1, 1) := by decide +kernel
theorem dX10_undo_47 : decode cX10_undo 47 = .ok (.iadd, 1) := by decide +kernel
theorem dX10_undo_48 : decode cX10_undo 48 = .ok (.iaload, 1) := by decide +kernel
theorem dX10_undo_49 : decode cX10_undo 49 = .ok (.iastore, 1) := by decide +kernel
theorem dX10_undo_50 : decode cX10_undo 50 = .ok (.iinc 1 1, 3) := by decide +kernel
theorem dX10_undo_53 : decode cX10_undo 53 = .ok (.goto (-31), 3) := by decide +kernel
theorem dX10_undo_56 : decode cX10_undo 56 = .ok (.aload_n 0, 1) := by decide +kernel
theorem dX10_undo_57 : decode cX10_undo 57 = .ok (.getfield 35, 3) := by decide +kernel
theorem dX10_undo_60 : decode cX10_undo 60 = .ok (.ireturn, 1) := by decide +kernel
theorem dX10_type_0 : decode cX10_type 0 = .ok (.iload_n 1, 1) := by decide +kernel
theorem dX10_type_1 : decode cX10_type 1 = .ok (.bipush 32, 2) := by decide +kernel
theorem dX10_type_3 : decode cX10_type 3 = .ok (.bipush 126, 2) := by decide +kernel
theorem dX10_type_5 : decode cX10_type 5 = .ok (.invokestatic 39, 3) := by decide +kernel
theorem dX10_type_8 : decode cX10_type 8 = .ok (.ifCond .ne 6, 3) := by decide +kernel
theorem dX10_type_11 : decode cX10_type 11 = .ok (.ldc 50, 2) := by decide +kernel
theorem dX10_type_13 : decode cX10_type 13 = .ok (.ireturn, 1) := by decide +kernel
theorem dX10_type_14 : decode cX10_type 14 = .ok (.aload_n 0, 1) := by decide +kernel
theorem dX10_type_15 : decode cX10_type 15 = .ok (.getfield 174, 3) := by decide +kernel
theorem dX10_type_18 : decode cX10_type 18 = .ok (.bipush 60, 2) := by decide +kernel
theorem dX10_type_20 : decode cX10_type 20 = .ok (.if_icmp .ne 6, 3) := by decide +kernel
theorem dX10_type_23 : decode cX10_type 23 = .ok (.ldc 51, 2) := by decide +kernel
theorem dX10_type_25 : decode cX10_type 25 = .ok (.ireturn, 1) := by decide +kernel
theorem dX10_type_26 : decode cX10_type 26 = .ok (.aload_n 0, 1) := by decide +kernel
theorem dX10_type_27 : decode cX10_type 27 = .ok (.getfield 19, 3) := by decide +kernel
theorem dX10_type_30 : decode cX10_type 30 = .ok (.aload_n 0, 1) := by decide +kernel
theorem dX10_type_31 : decode cX10_type 31 = .ok (.getfield 174, 3) := by decide +kernel
theorem dX10_type_34 : decode cX10_type 34 = .ok (.iload_n 1, 1) := by decide +kernel
theorem dX10_type_35 : decode cX10_type 35 = .ok (.iastore, 1) := by decide +kernel
theorem dX10_type_36 : decode cX10_type 36 = .ok (.aload_n 0, 1) := by decide +kernel
theorem dX10_type_37 : decode cX10_type 37 = .ok (.dup, 1) := by decide +kernel
theorem dX10_type_38 : decode cX10_type 38 = .ok (.getfield 174, 3) := by decide +kernel
theorem dX10_type_41 : decode cX10_type 41 = .ok (.iconst 1, 1) := by decide +kernel
theorem dX10_type_42 : decode cX10_type 42 = .ok (.iadd, 1) := by decide +kernel
theorem dX10_type_43 : decode cX10_type 43 = .ok (.putfield 174, 3) := by decide +kernel
theorem dX10_type_46 : decode cX10_type 46 = .ok (.aload_n 0, 1) := by decide +kernel
theorem dX10_type_47 : decode cX10_type 47 = .ok (.getfield 174, 3) := by decide +kernel
theorem dX10_type_50 : decode cX10_type 50 = .ok (.ireturn, 1) := by decide +kernel
theorem dX10_clearText_0 : decode cX10_clearText 0 = .ok (.aload_n 0, 1) := by decide +kernel
theorem dX10_clearText_1 : decode cX10_clearText 1 = .ok (.getfield 174, 3) := by decide +kernel
theorem dX10_clearText_4 : decode cX10_clearText 4 = .ok (.istore_n 1, 1) := by decide +kernel
theorem dX10_clearText_5 : decode cX10_clearText 5 = .ok (.aload_n 0, 1) := by decide +kernel
theorem dX10_clearText_6 : decode cX10_clearText 6 = .ok (.iconst 0, 1) := by decide +kernel
theorem dX10_clearText_7 : decode cX10_clearText 7 = .ok (.putfield 174, 3) := by decide +kernel
theorem dX10_clearText_10 : decode cX10_clearText 10 = .ok (.iload_n 1, 1) := by decide +kernel
theorem dX10_clearText_11 : decode cX10_clearText 11 = .ok (.ireturn, 1) := by decide +kernel
theorem dX10_isAt_0 : decode cX10_isAt 0 = .ok (.aload_n 0, 1) := by decide +kernel
theorem dX10_isAt_1 : decode cX10_isAt 1 = .ok (.getfield 177, 3) := by decide +kernel
theorem dX10_isAt_4 : decode cX10_isAt 4 = .ok (.aload_n 0, 1) := by decide +kernel
theorem dX10_isAt_5 : decode cX10_isAt 5 = .ok (.getfield 174, 3) := by decide +kernel
theorem dX10_isAt_8 : decode cX10_isAt 8 = .ok (.if_icmp .ge 24, 3) := by decide +kernel
theorem dX10_isAt_11 : decode cX10_isAt 11 = .ok (.aload_n 0, 1) := by decide +kernel
theorem dX10_isAt_12 : decode cX10_isAt 12 = .ok (.getfield 19, 3) := by decide +kernel
theorem dX10_isAt_15 : decode cX10_isAt 15 = .ok (.aload_n 0, 1) := by decide +kernel
theorem dX10_isAt_16 : decode cX10_isAt 16 = .ok (.getfield 177, 3) := by decide +kernel
theorem dX10_isAt_19 : decode cX10_isAt 19 = .ok (.iaload, 1) := by decide +kernel
theorem dX10_isAt_20 : decode cX10_isAt 20 = .ok (.iload_n 1, 1) := by decide +kernel
theorem dX10_isAt_21 : decode cX10_isAt 21 = .ok (.iload_n 2, 1) := by decide +kernel
theorem dX10_isAt_22 : decode cX10_isAt 22 = .ok (.invokestatic 39, 3) := by decide +kernel
theorem dX10_isAt_25 : decode cX10_isAt 25 = .ok (.ifCond .eq 7, 3) := by decide +kernel
theorem dX10_isAt_28 : decode cX10_isAt 28 = .ok (.iconst 1, 1) := by decide +kernel
theorem dX10_isAt_29 : decode cX10_isAt 29 = .ok (.goto 4, 3) := by decide +kernel
theorem dX10_isAt_32 : decode cX10_isAt 32 = .ok (.iconst 0, 1) := by decide +kernel
theorem dX10_isAt_33 : decode cX10_isAt 33 = .ok (.ireturn, 1) := by decide +kernel
theorem dX10_sign_0 : decode cX10_sign 0 = .ok (.aload_n 0, 1) := by decide +kernel
theorem dX10_sign_1 : decode cX10_sign 1 = .ok (.iload_n 1, 1) := by decide +kernel
theorem dX10_sign_2 : decode cX10_sign 2 = .ok (.iload_n 1, 1) := by decide +kernel
theorem dX10_sign_3 : decode cX10_sign 3 = .ok (.invokevirtual 180, 3) := by decide +kernel
theorem dX10_sign_6 : decode cX10_sign 6 = .ok (.istore_n 2, 1) := by decide +kernel
theorem dX10_sign_7 : decode cX10_sign 7 = .ok (.aload_n 0, 1) := by decide +kernel
theorem dX10_sign_8 : decode cX10_sign 8 = .ok (.dup, 1) := by decide +kernel
theorem dX10_sign_9 : decode cX10_sign 9 = .ok (.getfield 177, 3) := by decide +kernel
theorem dX10_sign_12 : decode cX10_sign 12 = .ok (.iload_n 2, 1) := by decide +kernel
theorem dX10_sign_13 : decode cX10_sign 13 = .ok (.ifCond .eq 7, 3) := by decide +kernel
theorem dX10_sign_16 : decode cX10_sign 16 = .ok (.iconst 1, 1) := by decide +kernel
theorem dX10_sign_17 : decode cX10_sign 17 = .ok (.goto 4, 3) := by decide +kernel
theorem dX10_sign_20 : decode cX10_sign 20 = .ok (.iconst 0, 1) := by decide +kernel
theorem dX10_sign_21 : decode cX10_sign 21 = .ok (.iadd, 1) := by decide +kernel
theorem dX10_sign_22 : decode cX10_sign 22 = .ok (.putfield 177, 3) := by decide +kernel
theorem dX10_sign_25 : decode cX10_sign 25 = .ok (.iload_n 2, 1) := by decide +kernel
theorem dX10_sign_26 : decode cX10_sign 26 = .ok (.ireturn, 1) := by decide +kernel
theorem dX10_number_0 : decode cX10_number 0 = .ok (.aload_n 0, 1) := by decide +kernel
theorem dX10_number_1 : decode cX10_number 1 = .ok (.getfield 177, 3) := by decide +kernel
theorem dX10_number_4 : decode cX10_number 4 = .ok (.istore_n 2, 1) := by decide +kernel
theorem dX10_number_5 : decode cX10_number 5 = .ok (.aload_n 0, 1) := by decide +kernel
theorem dX10_number_6 : decode cX10_number 6 = .ok (.getfield 28, 3) := by decide +kernel
theorem dX10_number_9 : decode cX10_number 9 = .ok (.iload_n 1, 1) := by decide +kernel
theorem dX10_number_10 : decode cX10_number 10 = .ok (.iconst 0, 1) := by decide +kernel
theorem dX10_number_11 : decode cX10_number 11 = .ok (.iastore, 1) := by decide +kernel
theorem dX10_number_12 : decode cX10_number 12 = .ok (.aload_n 0, 1) := by decide +kernel
theorem dX10_number_13 : decode cX10_number 13 = .ok (.bipush 48, 2) := by decide +kernel
theorem dX10_number_15 : decode cX10_number 15 = .ok (.bipush 57, 2) := by decide +kernel
theorem dX10_number_17 : decode cX10_number 17 = .ok (.invokevirtual 180, 3) := by decide +kernel
theorem dX10_number_20 : decode cX10_number 20 = .ok (.ifCond .eq 54, 3) := by decide +kernel
theorem dX10_number_23 : decode cX10_number 23 = .ok (.aload_n 0, 1) := by decide +kernel
theorem dX10_number_24 : decode cX10_number 24 = .ok (.getfield 177, 3) := by decide +kernel
theorem dX10_number_27 : decode cX10_number 27 = .ok (.iload_n 2, 1) := by decide +kernel
theorem dX10_number_28 : decode cX10_number 28 = .ok (.isub, 1) := by decide +kernel
theorem dX10_number_29 : decode cX10_number 29 = .ok (.iconst 4, 1) := by decide +kernel
theorem dX10_number_30 : decode cX10_number 30 = .ok (.if_icmp .ge 44, 3) := by decide +kernel
theorem dX10_number_33 : decode cX10_number 33 = .ok (.aload_n 0, 1) := by decide +kernel
theorem dX10_number_34 : decode cX10_number 34 = .ok (.getfield 28, 3) := by decide +kernel
theorem dX10_number_37 : decode cX10_number 37 = .ok (.iload_n 1, 1) := by decide +kernel
theorem dX10_number_38 : decode cX10_number 38 = .ok (.bipush 10, 2) := by decide +kernel
theorem dX10_number_40 : decode cX10_number 40 = .ok (.aload_n 0, 1) := by decide +kernel
theorem dX10_number_41 : decode cX10_number 41 = .ok (.getfield 28, 3) := by decide +kernel
theorem dX10_number_44 : decode cX10_number 44 = .ok (.iload_n 1, 1) := by decide +kernel
theorem dX10_number_45 : decode cX10_number 45 = .ok (.iaload, 1) := by decide +kernel
theorem dX10_number_46 : decode cX10_number 46 = .ok (.imul, 1) := by decide +kernel
theorem dX10_number_47 : decode cX10_number 47 = .ok (.aload_n 0, 1) := by decide +kernel
theorem dX10_number_48 : decode cX10_number 48 = .ok (.getfield 19, 3) := by decide +kernel
theorem dX10_number_51 : decode cX10_number 51 = .ok (.aload_n 0, 1) := by decide +kernel
theorem dX10_number_52 : decode cX10_number 52 = .ok (.getfield 177, 3) := by decide +kernel
theorem dX10_number_55 : decode cX10_number 55 = .ok (.iaload, 1) := by decide +kernel
theorem dX10_number_56 : decode cX10_number 56 = .ok (.iadd, 1) := by decide +kernel
theorem dX10_number_57 : decode cX10_number 57 = .ok (.bipush 48, 2) := by decide +kernel
theorem dX10_number_59 : decode cX10_number 59 = .ok (.isub, 1) := by decide +kernel
theorem dX10_number_60 : decode cX10_number 60 = .ok (.iastore, 1) := by decide +kernel
theorem dX10_number_61 : decode cX10_number 61 = .ok (.aload_n 0, 1) := by decide +kernel
theorem dX10_number_62 : decode cX10_number 62 = .ok (.dup, 1) := by decide +kernel
theorem dX10_number_63 : decode cX10_number 63 = .ok (.getfield 177, 3) := by decide +kernel
theorem dX10_number_66 : decode cX10_number 66 = .ok (.iconst 1, 1) := by decide +kernel
theorem dX10_number_67 : decode cX10_number 67 = .ok (.iadd, 1) := by decide +kernel
theorem dX10_number_68 : decode cX10_number 68 = .ok (.putfield 177, 3) := by decide +kernel
theorem dX10_number_71 : decode cX10_number 71 = .ok (.goto (-59), 3) := by decide +kernel
theorem dX10_number_74 : decode cX10_number 74 = .ok (.aload_n 0, 1) := by decide +kernel
theorem dX10_number_75 : decode cX10_number 75 = .ok (.getfield 177, 3) := by decide +kernel
theorem dX10_number_78 : decode cX10_number 78 = .ok (.iload_n 2, 1) := by decide +kernel
theorem dX10_number_79 : decode cX10_number 79 = .ok (.if_icmp .le 7, 3) := by decide +kernel
theorem dX10_number_82 : decode cX10_number 82 = .ok (.iconst 1, 1) := by decide +kernel
theorem dX10_number_83 : decode cX10_number 83 = .ok (.goto 4, 3) := by decide +kernel
theorem dX10_number_86 : decode cX10_number 86 = .ok (.iconst 0, 1) := by decide +kernel
theorem dX10_number_87 : decode cX10_number 87 = .ok (.ireturn, 1) := by decide +kernel
theorem dX10_numbersOf_0 : decode cX10_numbersOf 0 = .ok (.iload_n 0, 1) := by decide +kernel
theorem dX10_numbersOf_1 : decode cX10_numbersOf 1 = .ok (.bipush 116, 2) := by decide +kernel
theorem dX10_numbersOf_3 : decode cX10_numbersOf 3 = .ok (.if_icmp .ne 7, 3) := by decide +kernel
theorem dX10_numbersOf_6 : decode cX10_numbersOf 6 = .ok (.iconst 3, 1) := by decide +kernel
theorem dX10_numbersOf_7 : decode cX10_numbersOf 7 = .ok (.goto 36, 3) := by decide +kernel
theorem dX10_numbersOf_10 : decode cX10_numbersOf 10 = .ok (.iload_n 0, 1) := by decide +kernel
theorem dX10_numbersOf_11 : decode cX10_numbersOf 11 = .ok (.bipush 119, 2) := by decide +kernel
theorem dX10_numbersOf_13 : decode cX10_numbersOf 13 = .ok (.if_icmp .eq 15, 3) := by decide +kernel
theorem dX10_numbersOf_16 : decode cX10_numbersOf 16 = .ok (.iload_n 0, 1) := by decide +kernel
theorem dX10_numbersOf_17 : decode cX10_numbersOf 17 = .ok (.bipush 99, 2) := by decide +kernel
theorem dX10_numbersOf_19 : decode cX10_numbersOf 19 = .ok (.if_icmp .eq 9, 3) := by decide +kernel
theorem dX10_numbersOf_22 : decode cX10_numbersOf 22 = .ok (.iload_n 0, 1) := by decide +kernel
theorem dX10_numbersOf_23 : decode cX10_numbersOf 23 = .ok (.bipush 103, 2) := by decide +kernel
theorem dX10_numbersOf_25 : decode cX10_numbersOf 25 = .ok (.if_icmp .ne 7, 3) := by decide +kernel
theorem dX10_numbersOf_28 : decode cX10_numbersOf 28 = .ok (.iconst 2, 1) := by decide +kernel
theorem dX10_numbersOf_29 : decode cX10_numbersOf 29 = .ok (.goto 14, 3) := by decide +kernel
theorem dX10_numbersOf_32 : decode cX10_numbersOf 32 = .ok (.iload_n 0, 1) := by decide +kernel
theorem dX10_numbersOf_33 : decode cX10_numbersOf 33 = .ok (.bipush 115, 2) := by decide +kernel
theorem dX10_numbersOf_35 : decode cX10_numbersOf 35 = .ok (.if_icmp .ne 7, 3) := by decide +kernel
theorem dX10_numbersOf_38 : decode cX10_numbersOf 38 = .ok (.iconst 1, 1) := by decide +kernel
theorem dX10_numbersOf_39 : decode cX10_numbersOf 39 = .ok (.goto 4, 3) := by decide +kernel
theorem dX10_numbersOf_42 : decode cX10_numbersOf 42 = .ok (.iconst 0, 1) := by decide +kernel
theorem dX10_numbersOf_43 : decode cX10_numbersOf 43 = .ok (.ireturn, 1) := by decide +kernel
theorem dX10_reads_0 : decode cX10_reads 0 = .ok (.aload_n 0, 1) := by decide +kernel
theorem dX10_reads_1 : decode cX10_reads 1 = .ok (.aload_n 0, 1) := by decide +kernel
theorem dX10_reads_2 : decode cX10_reads 2 = .ok (.bipush 33, 2) := by decide +kernel
theorem dX10_reads_4 : decode cX10_reads 4 = .ok (.bipush 126, 2) := by decide +kernel
theorem dX10_reads_6 : decode cX10_reads 6 = .ok (.invokevirtual 180, 3) := by decide +kernel
theorem dX10_reads_9 : decode cX10_reads 9 = .ok (.ifCond .eq 15, 3) := by decide +kernel
theorem dX10_reads_12 : decode cX10_reads 12 = .ok (.aload_n 0, 1) := by decide +kernel
theorem dX10_reads_13 : decode cX10_reads 13 = .ok (.getfield 19, 3) := by decide +kernel
theorem dX10_reads_16 : decode cX10_reads 16 = .ok (.aload_n 0, 1) := by decide +kernel
theorem dX10_reads_17 : decode cX10_reads 17 = .ok (.getfield 177, 3) := by decide +kernel
theorem dX10_reads_20 : decode cX10_reads 20 = .ok (.iaload, 1) := by decide +kernel
theorem dX10_reads_21 : decode cX10_reads 21 = .ok (.goto 4, 3) := by decide +kernel
theorem dX10_reads_24 : decode cX10_reads 24 = .ok (.iconst 0, 1) := by decide +kernel
theorem dX10_reads_25 : decode cX10_reads 25 = .ok (.putfield 183, 3) := by decide +kernel
theorem dX10_reads_28 : decode cX10_reads 28 = .ok (.aload_n 0, 1) := by decide +kernel
theorem dX10_reads_29 : decode cX10_reads 29 = .ok (.getfield 183, 3) := by decide +kernel
theorem dX10_reads_32 : decode cX10_reads 32 = .ok (.invokestatic 186, 3) := by decide +kernel
theorem dX10_reads_35 : decode cX10_reads 35 = .ok (.istore_n 1, 1) := by decide +kernel
theorem dX10_reads_36 : decode cX10_reads 36 = .ok (.iload_n 1, 1) := by decide +kernel
theorem dX10_reads_37 : decode cX10_reads 37 = .ok (.ifCond .ne 5, 3) := by decide +kernel
theorem dX10_reads_40 : decode cX10_reads 40 = .ok (.iconst 0, 1) := by decide +kernel
theorem dX10_reads_41 : decode cX10_reads 41 = .ok (.ireturn, 1) := by decide +kernel
theorem dX10_reads_42 : decode cX10_reads 42 = .ok (.aload_n 0, 1) := by decide +kernel
theorem dX10_reads_43 : decode cX10_reads 43 = .ok (.dup, 1) := by decide +kernel
theorem dX10_reads_44 : decode cX10_reads 44 = .ok (.getfield 177, 3) := by decide +kernel
theorem dX10_reads_47 : decode cX10_reads 47 = .ok (.iconst 1, 1) := by decide +kernel
theorem dX10_reads_48 : decode cX10_reads 48 = .ok (.iadd, 1) := by decide +kernel
theorem dX10_reads_49 : decode cX10_reads 49 = .ok (.putfield 177, 3) := by decide +kernel
theorem dX10_reads_52 : decode cX10_reads 52 = .ok (.aload_n 0, 1) := by decide +kernel
theorem dX10_reads_53 : decode cX10_reads 53 = .ok (.iconst 0, 1) := by decide +kernel
theorem dX10_reads_54 : decode cX10_reads 54 = .ok (.invokevirtual 189, 3) := by decide +kernel
theorem dX10_reads_57 : decode cX10_reads 57 = .ok (.istore_n 2, 1) := by decide +kernel
theorem dX10_reads_58 : decode cX10_reads 58 = .ok (.iconst 1, 1) := by decide +kernel
theorem dX10_reads_59 : decode cX10_reads 59 = .ok (.istore_n 3, 1) := by decide +kernel
theorem dX10_reads_60 : decode cX10_reads 60 = .ok (.iload_n 3, 1) := by decide +kernel
theorem dX10_reads_61 : decode cX10_reads 61 = .ok (.iload_n 1, 1) := by decide +kernel
theorem dX10_reads_62 : decode cX10_reads 62 = .ok (.if_icmp .ge 36, 3) := by decide +kernel
theorem dX10_reads_65 : decode cX10_reads 65 = .ok (.iload_n 2, 1) := by decide +kernel
theorem dX10_reads_66 : decode cX10_reads 66 = .ok (.ifCond .eq 32, 3) := by decide +kernel
theorem dX10_reads_69 : decode cX10_reads 69 = .ok (.aload_n 0, 1) := by decide +kernel
theorem dX10_reads_70 : decode cX10_reads 70 = .ok (.bipush 44, 2) := by decide +kernel
theorem dX10_reads_72 : decode cX10_reads 72 = .ok (.invokevirtual 192, 3) := by decide +kernel
theorem dX10_reads_75 : decode cX10_reads 75 = .ok (.ifCond .eq 15, 3) := by decide +kernel
theorem dX10_reads_78 : decode cX10_reads 78 = .ok (.aload_n 0, 1) := by decide +kernel
theorem dX10_reads_79 : decode cX10_reads 79 = .ok (.iload_n 3, 1) := by decide +kernel
theorem dX10_reads_80 : decode cX10_reads 80 = .ok (.invokevirtual 189, 3) := by decide +kernel
theorem dX10_reads_83 : decode cX10_reads 83 = .ok (.ifCond .eq 7, 3) := by decide +kernel
theorem dX10_reads_86 : decode cX10_reads 86 = .ok (.iconst 1, 1) := by decide +kernel
theorem dX10_reads_87 : decode cX10_reads 87 = .ok (.goto 4, 3) := by decide +kernel
theorem dX10_reads_90 : decode cX10_reads 90 = .ok (.iconst 0, 1) := by decide +kernel
theorem dX10_reads_91 : decode cX10_reads 91 = .ok (.istore_n 2, 1) := by decide +kernel
theorem dX10_reads_92 : decode cX10_reads 92 = .ok (.iinc 3 1, 3) := by decide +kernel
theorem dX10_reads_95 : decode cX10_reads 95 = .ok (.goto (-35), 3) := by decide +kernel
theorem dX10_reads_98 : decode cX10_reads 98 = .ok (.iload_n 2, 1) := by decide +kernel
theorem dX10_reads_99 : decode cX10_reads 99 = .ok (.ifCond .eq 16, 3) := by decide +kernel
theorem dX10_reads_102 : decode cX10_reads 102 = .ok (.aload_n 0, 1) := by decide +kernel
theorem dX10_reads_103 : decode cX10_reads 103 = .ok (.bipush 59, 2) := by decide +kernel
theorem dX10_reads_105 : decode cX10_reads 105 = .ok (.invokevirtual 192, 3) := by decide +kernel
theorem dX10_reads_108 : decode cX10_reads 108 = .ok (.ifCond .eq 7, 3) := by decide +kernel
theorem dX10_reads_111 : decode cX10_reads 111 = .ok (.iconst 1, 1) := by decide +kernel
theorem dX10_reads_112 : decode cX10_reads 112 = .ok (.goto 4, 3) := by decide +kernel
theorem dX10_reads_115 : decode cX10_reads 115 = .ok (.iconst 0, 1) := by decide +kernel
theorem dX10_reads_116 : decode cX10_reads 116 = .ok (.ireturn, 1) := by decide +kernel
theorem dX10_calls_0 : decode cX10_calls 0 = .ok (.aload_n 0, 1) := by decide +kernel
theorem dX10_calls_1 : decode cX10_calls 1 = .ok (.getfield 183, 3) := by decide +kernel
theorem dX10_calls_4 : decode cX10_calls 4 = .ok (.lookupswitch 112 #[(99, 84), (115, 101), (116, 44), (119, 67)], 44) := by decide +kernel
theorem dX10_calls_48 : decode cX10_calls 48 = .ok (.aload_n 0, 1) := by decide +kernel
theorem dX10_calls_49 : decode cX10_calls 49 = .ok (.aload_n 0, 1) := by decide +kernel
theorem dX10_calls_50 : decode cX10_calls 50 = .ok (.getfield 28, 3) := by decide +kernel
theorem dX10_calls_53 : decode cX10_calls 53 = .ok (.iconst 0, 1) := by decide +kernel
theorem dX10_calls_54 : decode cX10_calls 54 = .ok (.iaload, 1) := by decide +kernel
theorem dX10_calls_55 : decode cX10_calls 55 = .ok (.aload_n 0, 1) := by decide +kernel
theorem dX10_calls_56 : decode cX10_calls 56 = .ok (.getfield 28, 3) := by decide +kernel
theorem dX10_calls_59 : decode cX10_calls 59 = .ok (.iconst 1, 1) := by decide +kernel
theorem dX10_calls_60 : decode cX10_calls 60 = .ok (.iaload, 1) := by decide +kernel
theorem dX10_calls_61 : decode cX10_calls 61 = .ok (.aload_n 0, 1) := by decide +kernel
theorem dX10_calls_62 : decode cX10_calls 62 = .ok (.getfield 28, 3) := by decide +kernel
theorem dX10_calls_65 : decode cX10_calls 65 = .ok (.iconst 2, 1) := by decide +kernel
theorem dX10_calls_66 : decode cX10_calls 66 = .ok (.iaload, 1) := by decide +kernel
theorem dX10_calls_67 : decode cX10_calls 67 = .ok (.invokevirtual 195, 3) := by decide +kernel
theorem dX10_calls_70 : decode cX10_calls 70 = .ok (.ireturn, 1) := by decide +kernel
theorem dX10_calls_71 : decode cX10_calls 71 = .ok (.aload_n 0, 1) := by decide +kernel
theorem dX10_calls_72 : decode cX10_calls 72 = .ok (.aload_n 0, 1) := by decide +kernel
theorem dX10_calls_73 : decode cX10_calls 73 = .ok (.getfield 28, 3) := by decide +kernel
theorem dX10_calls_76 : decode cX10_calls 76 = .ok (.iconst 0, 1) := by decide +kernel
theorem dX10_calls_77 : decode cX10_calls 77 = .ok (.iaload, 1) := by decide +kernel
theorem dX10_calls_78 : decode cX10_calls 78 = .ok (.aload_n 0, 1) := by decide +kernel
theorem dX10_calls_79 : decode cX10_calls 79 = .ok (.getfield 28, 3) := by decide +kernel
theorem dX10_calls_82 : decode cX10_calls 82 = .ok (.iconst 1, 1) := by decide +kernel
theorem dX10_calls_83 : decode cX10_calls 83 = .ok (.iaload, 1) := by decide +kernel
theorem dX10_calls_84 : decode cX10_calls 84 = .ok (.invokevirtual 199, 3) := by decide +kernel
theorem dX10_calls_87 : decode cX10_calls 87 = .ok (.ireturn, 1) := by decide +kernel
theorem dX10_calls_88 : decode cX10_calls 88 = .ok (.aload_n 0, 1) := by decide +kernel
theorem dX10_calls_89 : decode cX10_calls 89 = .ok (.aload_n 0, 1) := by decide +kernel
theorem dX10_calls_90 : decode cX10_calls 90 = .ok (.getfield 28, 3) := by decide +kernel
theorem dX10_calls_93 : decode cX10_calls 93 = .ok (.iconst 0, 1) := by decide +kernel
theorem dX10_calls_94 : decode cX10_calls 94 = .ok (.iaload, 1) := by decide +kernel
theorem dX10_calls_95 : decode cX10_calls 95 = .ok (.aload_n 0, 1) := by decide +kernel
theorem dX10_calls_96 : decode cX10_calls 96 = .ok (.getfield 28, 3) := by decide +kernel
theorem dX10_calls_99 : decode cX10_calls 99 = .ok (.iconst 1, 1) := by decide +kernel
theorem dX10_calls_100 : decode cX10_calls 100 = .ok (.iaload, 1) := by decide +kernel
theorem dX10_calls_101 : decode cX10_calls 101 = .ok (.invokevirtual 202, 3) := by decide +kernel
theorem dX10_calls_104 : decode cX10_calls 104 = .ok (.ireturn, 1) := by decide +kernel
theorem dX10_calls_105 : decode cX10_calls 105 = .ok (.aload_n 0, 1) := by decide +kernel
theorem dX10_calls_106 : decode cX10_calls 106 = .ok (.aload_n 0, 1) := by decide +kernel
theorem dX10_calls_107 : decode cX10_calls 107 = .ok (.getfield 28, 3) := by decide +kernel
theorem dX10_calls_110 : decode cX10_calls 110 = .ok (.iconst 0, 1) := by decide +kernel
theorem dX10_calls_111 : decode cX10_calls 111 = .ok (.iaload, 1) := by decide +kernel
theorem dX10_calls_112 : decode cX10_calls 112 = .ok (.invokevirtual 205, 3) := by decide +kernel
theorem dX10_calls_115 : decode cX10_calls 115 = .ok (.ireturn, 1) := by decide +kernel
theorem dX10_calls_116 : decode cX10_calls 116 = .ok (.aload_n 0, 1) := by decide +kernel
theorem dX10_calls_117 : decode cX10_calls 117 = .ok (.aload_n 0, 1) := by decide +kernel
theorem dX10_calls_118 : decode cX10_calls 118 = .ok (.getfield 28, 3) := by decide +kernel
theorem dX10_calls_121 : decode cX10_calls 121 = .ok (.iconst 0, 1) := by decide +kernel
theorem dX10_calls_122 : decode cX10_calls 122 = .ok (.iaload, 1) := by decide +kernel
theorem dX10_calls_123 : decode cX10_calls 123 = .ok (.aload_n 0, 1) := by decide +kernel
theorem dX10_calls_124 : decode cX10_calls 124 = .ok (.getfield 28, 3) := by decide +kernel
theorem dX10_calls_127 : decode cX10_calls 127 = .ok (.iconst 1, 1) := by decide +kernel
theorem dX10_calls_128 : decode cX10_calls 128 = .ok (.iaload, 1) := by decide +kernel
theorem dX10_calls_129 : decode cX10_calls 129 = .ok (.invokevirtual 208, 3) := by decide +kernel
theorem dX10_calls_132 : decode cX10_calls 132 = .ok (.ireturn, 1) := by decide +kernel
theorem dX10_plays_0 : decode cX10_plays 0 = .ok (.aload_n 0, 1) := by decide +kernel
theorem dX10_plays_1 : decode cX10_plays 1 = .ok (.iconst 1, 1) := by decide +kernel
theorem dX10_plays_2 : decode cX10_plays 2 = .ok (.putfield 31, 3) := by decide +kernel
theorem dX10_plays_5 : decode cX10_plays 5 = .ok (.aload_n 0, 1) := by decide +kernel
theorem dX10_plays_6 : decode cX10_plays 6 = .ok (.iconst 0, 1) := by decide +kernel
theorem dX10_plays_7 : decode cX10_plays 7 = .ok (.putfield 177, 3) := by decide +kernel
theorem dX10_plays_10 : decode cX10_plays 10 = .ok (.aload_n 0, 1) := by decide +kernel
theorem dX10_plays_11 : decode cX10_plays 11 = .ok (.iconst 0, 1) := by decide +kernel
theorem dX10_plays_12 : decode cX10_plays 12 = .ok (.putfield 211, 3) := by decide +kernel
theorem dX10_plays_15 : decode cX10_plays 15 = .ok (.aload_n 0, 1) := by decide +kernel
theorem dX10_plays_16 : decode cX10_plays 16 = .ok (.iconst 0, 1) := by decide +kernel
theorem dX10_plays_17 : decode cX10_plays 17 = .ok (.putfield 214, 3) := by decide +kernel
theorem dX10_plays_20 : decode cX10_plays 20 = .ok (.iconst 1, 1) := by decide +kernel
theorem dX10_plays_21 : decode cX10_plays 21 = .ok (.istore_n 1, 1) := by decide +kernel
theorem dX10_plays_22 : decode cX10_plays 22 = .ok (.aload_n 0, 1) := by decide +kernel
theorem dX10_plays_23 : decode cX10_plays 23 = .ok (.getfield 177, 3) := by decide +kernel
theorem dX10_plays_26 : decode cX10_plays 26 = .ok (.aload_n 0, 1) := by decide +kernel
theorem dX10_plays_27 : decode cX10_plays 27 = .ok (.getfield 174, 3) := by decide +kernel
theorem dX10_plays_30 : decode cX10_plays 30 = .ok (.if_icmp .ge 94, 3) := by decide +kernel
theorem dX10_plays_33 : decode cX10_plays 33 = .ok (.iload_n 1, 1) := by decide +kernel
theorem dX10_plays_34 : decode cX10_plays 34 = .ok (.ifCond .eq 90, 3) := by decide +kernel
theorem dX10_plays_37 : decode cX10_plays 37 = .ok (.aload_n 0, 1) := by decide +kernel
theorem dX10_plays_38 : decode cX10_plays 38 = .ok (.aload_n 0, 1) := by decide +kernel
theorem dX10_plays_39 : decode cX10_plays 39 = .ok (.getfield 177, 3) := by decide +kernel
theorem dX10_plays_42 : decode cX10_plays 42 = .ok (.putfield 211, 3) := by decide +kernel
theorem dX10_plays_45 : decode cX10_plays 45 = .ok (.aload_n 0, 1) := by decide +kernel
theorem dX10_plays_46 : decode cX10_plays 46 = .ok (.invokevirtual 217, 3) := by decide +kernel
theorem dX10_plays_49 : decode cX10_plays 49 = .ok (.istore_n 2, 1) := by decide +kernel
theorem dX10_plays_50 : decode cX10_plays 50 = .ok (.iload_n 2, 1) := by decide +kernel
theorem dX10_plays_51 : decode cX10_plays 51 = .ok (.ifCond .eq 10, 3) := by decide +kernel
theorem dX10_plays_54 : decode cX10_plays 54 = .ok (.aload_n 0, 1) := by decide +kernel
theorem dX10_plays_55 : decode cX10_plays 55 = .ok (.invokevirtual 221, 3) := by decide +kernel
theorem dX10_plays_58 : decode cX10_plays 58 = .ok (.goto 4, 3) := by decide +kernel
theorem dX10_plays_61 : decode cX10_plays 61 = .ok (.iconst 0, 1) := by decide +kernel
theorem dX10_plays_62 : decode cX10_plays 62 = .ok (.istore_n 3, 1) := by decide +kernel
theorem dX10_plays_63 : decode cX10_plays 63 = .ok (.iload_n 2, 1) := by decide +kernel
theorem dX10_plays_64 : decode cX10_plays 64 = .ok (.ifCond .eq 11, 3) := by decide +kernel
theorem dX10_plays_67 : decode cX10_plays 67 = .ok (.iload_n 3, 1) := by decide +kernel
theorem dX10_plays_68 : decode cX10_plays 68 = .ok (.ifCond .lt 7, 3) := by decide +kernel
theorem dX10_plays_71 : decode cX10_plays 71 = .ok (.iconst 1, 1) := by decide +kernel
theorem dX10_plays_72 : decode cX10_plays 72 = .ok (.goto 4, 3) := by decide +kernel
theorem dX10_plays_75 : decode cX10_plays 75 = .ok (.iconst 0, 1) := by decide +kernel
theorem dX10_plays_76 : decode cX10_plays 76 = .ok (.istore_n 1, 1) := by decide +kernel
theorem dX10_plays_77 : decode cX10_plays 77 = .ok (.aload_n 0, 1) := by decide +kernel
theorem dX10_plays_78 : decode cX10_plays 78 = .ok (.iload_n 2, 1) := by decide +kernel
theorem dX10_plays_79 : decode cX10_plays 79 = .ok (.ifCond .eq 7, 3) := by decide +kernel
theorem dX10_plays_82 : decode cX10_plays 82 = .ok (.iconst 2, 1) := by decide +kernel
theorem dX10_plays_83 : decode cX10_plays 83 = .ok (.goto 4, 3) := by decide +kernel
theorem dX10_plays_86 : decode cX10_plays 86 = .ok (.iconst 1, 1) := by decide +kernel
theorem dX10_plays_87 : decode cX10_plays 87 = .ok (.putfield 224, 3) := by decide +kernel
theorem dX10_plays_90 : decode cX10_plays 90 = .ok (.aload_n 0, 1) := by decide +kernel
theorem dX10_plays_91 : decode cX10_plays 91 = .ok (.iload_n 2, 1) := by decide +kernel
theorem dX10_plays_92 : decode cX10_plays 92 = .ok (.ifCond .eq 7, 3) := by decide +kernel
theorem dX10_plays_95 : decode cX10_plays 95 = .ok (.iload_n 3, 1) := by decide +kernel
theorem dX10_plays_96 : decode cX10_plays 96 = .ok (.goto 12, 3) := by decide +kernel
theorem dX10_plays_99 : decode cX10_plays 99 = .ok (.aload_n 0, 1) := by decide +kernel
theorem dX10_plays_100 : decode cX10_plays 100 = .ok (.getfield 177, 3) := by decide +kernel
theorem dX10_plays_103 : decode cX10_plays 103 = .ok (.aload_n 0, 1) := by decide +kernel
theorem dX10_plays_104 : decode cX10_plays 104 = .ok (.getfield 211, 3) := by decide +kernel
theorem dX10_plays_107 : decode cX10_plays 107 = .ok (.isub, 1) := by decide +kernel
theorem dX10_plays_108 : decode cX10_plays 108 = .ok (.putfield 227, 3) := by decide +kernel
theorem dX10_plays_111 : decode cX10_plays 111 = .ok (.aload_n 0, 1) := by decide +kernel
theorem dX10_plays_112 : decode cX10_plays 112 = .ok (.dup, 1) := by decide +kernel
theorem dX10_plays_113 : decode cX10_plays 113 = .ok (.getfield 214, 3) := by decide +kernel
theorem dX10_plays_116 : decode cX10_plays 116 = .ok (.iconst 1, 1) := by decide +kernel
theorem dX10_plays_117 : decode cX10_plays 117 = .ok (.iadd, 1) := by decide +kernel
theorem dX10_plays_118 : decode cX10_plays 118 = .ok (.putfield 214, 3) := by decide +kernel
theorem dX10_plays_121 : decode cX10_plays 121 = .ok (.goto (-99), 3) := by decide +kernel
theorem dX10_plays_124 : decode cX10_plays 124 = .ok (.aload_n 0, 1) := by decide +kernel
theorem dX10_plays_125 : decode cX10_plays 125 = .ok (.iconst 0, 1) := by decide +kernel
theorem dX10_plays_126 : decode cX10_plays 126 = .ok (.putfield 31, 3) := by decide +kernel
theorem dX10_plays_129 : decode cX10_plays 129 = .ok (.iload_n 1, 1) := by decide +kernel
theorem dX10_plays_130 : decode cX10_plays 130 = .ok (.ireturn, 1) := by decide +kernel
theorem dX10_fault_0 : decode cX10_fault 0 = .ok (.iload_n 1, 1) := by decide +kernel
theorem dX10_fault_1 : decode cX10_fault 1 = .ok (.iconst 0, 1) := by decide +kernel
theorem dX10_fault_2 : decode cX10_fault 2 = .ok (.iconst 2, 1) := by decide +kernel
theorem dX10_fault_3 : decode cX10_fault 3 = .ok (.invokestatic 39, 3) := by decide +kernel
theorem dX10_fault_6 : decode cX10_fault 6 = .ok (.ifCond .ne 6, 3) := by decide +kernel
theorem dX10_fault_9 : decode cX10_fault 9 = .ok (.ldc 50, 2) := by decide +kernel
theorem dX10_fault_11 : decode cX10_fault 11 = .ok (.ireturn, 1) := by decide +kernel
theorem dX10_fault_12 : decode cX10_fault 12 = .ok (.aload_n 0, 1) := by decide +kernel
theorem dX10_fault_13 : decode cX10_fault 13 = .ok (.getfield 7, 3) := by decide +kernel
theorem dX10_fault_16 : decode cX10_fault 16 = .ok (.aload_n 0, 1) := by decide +kernel
theorem dX10_fault_17 : decode cX10_fault 17 = .ok (.getfield 16, 3) := by decide +kernel
theorem dX10_fault_20 : decode cX10_fault 20 = .ok (.invokestatic 230, 3) := by decide +kernel
theorem dX10_fault_23 : decode cX10_fault 23 = .ok (.aload_n 0, 1) := by decide +kernel
theorem dX10_fault_24 : decode cX10_fault 24 = .ok (.invokevirtual 234, 3) := by decide +kernel
theorem dX10_fault_27 : decode cX10_fault 27 = .ok (.istore_n 2, 1) := by decide +kernel
theorem dX10_fault_28 : decode cX10_fault 28 = .ok (.aload_n 0, 1) := by decide +kernel
theorem dX10_fault_29 : decode cX10_fault 29 = .ok (.getfield 16, 3) := by decide +kernel
theorem dX10_fault_32 : decode cX10_fault 32 = .ok (.aload_n 0, 1) := by decide +kernel
theorem dX10_fault_33 : decode cX10_fault 33 = .ok (.getfield 7, 3) := by decide +kernel
theorem dX10_fault_36 : decode cX10_fault 36 = .ok (.invokestatic 230, 3) := by decide +kernel
theorem dX10_fault_39 : decode cX10_fault 39 = .ok (.iload_n 2, 1) := by decide +kernel
theorem dX10_fault_40 : decode cX10_fault 40 = .ok (.ifCond .eq 8, 3) := by decide +kernel
theorem dX10_fault_43 : decode cX10_fault 43 = .ok (.ldc 110, 2) := by decide +kernel
theorem dX10_fault_45 : decode cX10_fault 45 = .ok (.goto 30, 3) := by decide +kernel
theorem dX10_fault_48 : decode cX10_fault 48 = .ok (.iload_n 1, 1) := by decide +kernel
theorem dX10_fault_49 : decode cX10_fault 49 = .ok (.ifCond .ne 10, 3) := by decide +kernel
theorem dX10_fault_52 : decode cX10_fault 52 = .ok (.aload_n 0, 1) := by decide +kernel
theorem dX10_fault_53 : decode cX10_fault 53 = .ok (.getfield 211, 3) := by decide +kernel
theorem dX10_fault_56 : decode cX10_fault 56 = .ok (.goto 19, 3) := by decide +kernel
theorem dX10_fault_59 : decode cX10_fault 59 = .ok (.iload_n 1, 1) := by decide +kernel
theorem dX10_fault_60 : decode cX10_fault 60 = .ok (.iconst 1, 1) := by decide +kernel
theorem dX10_fault_61 : decode cX10_fault 61 = .ok (.if_icmp .ne 10, 3) := by decide +kernel
theorem dX10_fault_64 : decode cX10_fault 64 = .ok (.aload_n 0, 1) := by decide +kernel
theorem dX10_fault_65 : decode cX10_fault 65 = .ok (.getfield 224, 3) := by decide +kernel
theorem dX10_fault_68 : decode cX10_fault 68 = .ok (.goto 7, 3) := by decide +kernel
theorem dX10_fault_71 : decode cX10_fault 71 = .ok (.aload_n 0, 1) := by decide +kernel
theorem dX10_fault_72 : decode cX10_fault 72 = .ok (.getfield 227, 3) := by decide +kernel
theorem dX10_fault_75 : decode cX10_fault 75 = .ok (.ireturn, 1) := by decide +kernel
theorem dX10_play_0 : decode cX10_play 0 = .ok (.aload_n 0, 1) := by decide +kernel
theorem dX10_play_1 : decode cX10_play 1 = .ok (.getfield 7, 3) := by decide +kernel
theorem dX10_play_4 : decode cX10_play 4 = .ok (.aload_n 0, 1) := by decide +kernel
theorem dX10_play_5 : decode cX10_play 5 = .ok (.getfield 16, 3) := by decide +kernel
theorem dX10_play_8 : decode cX10_play 8 = .ok (.invokestatic 230, 3) := by decide +kernel
theorem dX10_play_11 : decode cX10_play 11 = .ok (.aload_n 0, 1) := by decide +kernel
theorem dX10_play_12 : decode cX10_play 12 = .ok (.invokevirtual 234, 3) := by decide +kernel
theorem dX10_play_15 : decode cX10_play 15 = .ok (.istore_n 1, 1) := by decide +kernel
theorem dX10_play_16 : decode cX10_play 16 = .ok (.aload_n 0, 1) := by decide +kernel
theorem dX10_play_17 : decode cX10_play 17 = .ok (.getfield 16, 3) := by decide +kernel
theorem dX10_play_20 : decode cX10_play 20 = .ok (.aload_n 0, 1) := by decide +kernel
theorem dX10_play_21 : decode cX10_play 21 = .ok (.getfield 7, 3) := by decide +kernel
theorem dX10_play_24 : decode cX10_play 24 = .ok (.invokestatic 230, 3) := by decide +kernel
theorem dX10_play_27 : decode cX10_play 27 = .ok (.iload_n 1, 1) := by decide +kernel
theorem dX10_play_28 : decode cX10_play 28 = .ok (.ifCond .ne 6, 3) := by decide +kernel
theorem dX10_play_31 : decode cX10_play 31 = .ok (.ldc 80, 2) := by decide +kernel
theorem dX10_play_33 : decode cX10_play 33 = .ok (.ireturn, 1) := by decide +kernel
theorem dX10_play_34 : decode cX10_play 34 = .ok (.aload_n 0, 1) := by decide +kernel
theorem dX10_play_35 : decode cX10_play 35 = .ok (.invokevirtual 52, 3) := by decide +kernel
theorem dX10_play_38 : decode cX10_play 38 = .ok (.aload_n 0, 1) := by decide +kernel
theorem dX10_play_39 : decode cX10_play 39 = .ok (.invokevirtual 234, 3) := by decide +kernel
theorem dX10_play_42 : decode cX10_play 42 = .ok (.ifCond .eq 10, 3) := by decide +kernel
theorem dX10_play_45 : decode cX10_play 45 = .ok (.aload_n 0, 1) := by decide +kernel
theorem dX10_play_46 : decode cX10_play 46 = .ok (.getfield 214, 3) := by decide +kernel
theorem dX10_play_49 : decode cX10_play 49 = .ok (.goto 5, 3) := by decide +kernel
theorem dX10_play_52 : decode cX10_play 52 = .ok (.ldc 110, 2) := by decide +kernel
theorem dX10_play_54 : decode cX10_play 54 = .ok (.ireturn, 1) := by decide +kernel
theorem dJxf58ca_isNaN_12338_0 : decode cJxf58ca_isNaN_12338 0 = .ok (.fload_n 0, 1) := by decide +kernel
theorem dJxf58ca_isNaN_12338_1 : decode cJxf58ca_isNaN_12338 1 = .ok (.fload_n 0, 1) := by decide +kernel
theorem dJxf58ca_isNaN_12338_2 : decode cJxf58ca_isNaN_12338 2 = .ok (.fcmp .l, 1) := by decide +kernel
theorem dJxf58ca_isNaN_12338_3 : decode cJxf58ca_isNaN_12338 3 = .ok (.ifCond .eq 7, 3) := by decide +kernel
theorem dJxf58ca_isNaN_12338_6 : decode cJxf58ca_isNaN_12338 6 = .ok (.iconst 1, 1) := by decide +kernel
theorem dJxf58ca_isNaN_12338_7 : decode cJxf58ca_isNaN_12338 7 = .ok (.goto 4, 3) := by decide +kernel
theorem dJxf58ca_isNaN_12338_10 : decode cJxf58ca_isNaN_12338 10 = .ok (.iconst 0, 1) := by decide +kernel
theorem dJxf58ca_isNaN_12338_11 : decode cJxf58ca_isNaN_12338 11 = .ok (.ireturn, 1) := by decide +kernel
theorem dJxf58ca_floatToIntBits_5c35a_0 : decode cJxf58ca_floatToIntBits_5c35a 0 = .ok (.fload_n 0, 1) := by decide +kernel
theorem dJxf58ca_floatToIntBits_5c35a_1 : decode cJxf58ca_floatToIntBits_5c35a 1 = .ok (.invokestatic 59, 3) := by decide +kernel
theorem dJxf58ca_floatToIntBits_5c35a_4 : decode cJxf58ca_floatToIntBits_5c35a 4 = .ok (.ifCond .ne 8, 3) := by decide +kernel
theorem dJxf58ca_floatToIntBits_5c35a_7 : decode cJxf58ca_floatToIntBits_5c35a 7 = .ok (.fload_n 0, 1) := by decide +kernel
theorem dJxf58ca_floatToIntBits_5c35a_8 : decode cJxf58ca_floatToIntBits_5c35a 8 = .ok (.invokestatic 74, 3) := by decide +kernel
theorem dJxf58ca_floatToIntBits_5c35a_11 : decode cJxf58ca_floatToIntBits_5c35a 11 = .ok (.ireturn, 1) := by decide +kernel
theorem dJxf58ca_floatToIntBits_5c35a_12 : decode cJxf58ca_floatToIntBits_5c35a 12 = .ok (.ldc 77, 2) := by decide +kernel
theorem dJxf58ca_floatToIntBits_5c35a_14 : decode cJxf58ca_floatToIntBits_5c35a 14 = .ok (.ireturn, 1) := by decide +kernel
theorem dJ6_bitCount_0f7a4_0 : decode cJ6_bitCount_0f7a4 0 = .ok (.iload_n 0, 1) := by decide +kernel
theorem dJ6_bitCount_0f7a4_1 : decode cJ6_bitCount_0f7a4 1 = .ok (.iload_n 0, 1) := by decide +kernel
theorem dJ6_bitCount_0f7a4_2 : decode cJ6_bitCount_0f7a4 2 = .ok (.iconst 1, 1) := by decide +kernel
theorem dJ6_bitCount_0f7a4_3 : decode cJ6_bitCount_0f7a4 3 = .ok (.iushr, 1) := by decide +kernel
theorem dJ6_bitCount_0f7a4_4 : decode cJ6_bitCount_0f7a4 4 = .ok (.ldc_w 265, 3) := by decide +kernel
theorem dJ6_bitCount_0f7a4_7 : decode cJ6_bitCount_0f7a4 7 = .ok (.iand, 1) := by decide +kernel
theorem dJ6_bitCount_0f7a4_8 : decode cJ6_bitCount_0f7a4 8 = .ok (.isub, 1) := by decide +kernel
theorem dJ6_bitCount_0f7a4_9 : decode cJ6_bitCount_0f7a4 9 = .ok (.istore_n 0, 1) := by decide +kernel
theorem dJ6_bitCount_0f7a4_10 : decode cJ6_bitCount_0f7a4 10 = .ok (.iload_n 0, 1) := by decide +kernel
theorem dJ6_bitCount_0f7a4_11 : decode cJ6_bitCount_0f7a4 11 = .ok (.ldc_w 266, 3) := by decide +kernel
theorem dJ6_bitCount_0f7a4_14 : decode cJ6_bitCount_0f7a4 14 = .ok (.iand, 1) := by decide +kernel
theorem dJ6_bitCount_0f7a4_15 : decode cJ6_bitCount_0f7a4 15 = .ok (.iload_n 0, 1) := by decide +kernel
theorem dJ6_bitCount_0f7a4_16 : decode cJ6_bitCount_0f7a4 16 = .ok (.iconst 2, 1) := by decide +kernel
theorem dJ6_bitCount_0f7a4_17 : decode cJ6_bitCount_0f7a4 17 = .ok (.iushr, 1) := by decide +kernel
theorem dJ6_bitCount_0f7a4_18 : decode cJ6_bitCount_0f7a4 18 = .ok (.ldc_w 266, 3) := by decide +kernel
theorem dJ6_bitCount_0f7a4_21 : decode cJ6_bitCount_0f7a4 21 = .ok (.iand, 1) := by decide +kernel
theorem dJ6_bitCount_0f7a4_22 : decode cJ6_bitCount_0f7a4 22 = .ok (.iadd, 1) := by decide +kernel
theorem dJ6_bitCount_0f7a4_23 : decode cJ6_bitCount_0f7a4 23 = .ok (.istore_n 0, 1) := by decide +kernel
theorem dJ6_bitCount_0f7a4_24 : decode cJ6_bitCount_0f7a4 24 = .ok (.iload_n 0, 1) := by decide +kernel
theorem dJ6_bitCount_0f7a4_25 : decode cJ6_bitCount_0f7a4 25 = .ok (.iload_n 0, 1) := by decide +kernel
theorem dJ6_bitCount_0f7a4_26 : decode cJ6_bitCount_0f7a4 26 = .ok (.iconst 4, 1) := by decide +kernel
theorem dJ6_bitCount_0f7a4_27 : decode cJ6_bitCount_0f7a4 27 = .ok (.iushr, 1) := by decide +kernel
theorem dJ6_bitCount_0f7a4_28 : decode cJ6_bitCount_0f7a4 28 = .ok (.iadd, 1) := by decide +kernel
theorem dJ6_bitCount_0f7a4_29 : decode cJ6_bitCount_0f7a4 29 = .ok (.ldc_w 267, 3) := by decide +kernel
theorem dJ6_bitCount_0f7a4_32 : decode cJ6_bitCount_0f7a4 32 = .ok (.iand, 1) := by decide +kernel
theorem dJ6_bitCount_0f7a4_33 : decode cJ6_bitCount_0f7a4 33 = .ok (.istore_n 0, 1) := by decide +kernel
theorem dJ6_bitCount_0f7a4_34 : decode cJ6_bitCount_0f7a4 34 = .ok (.iload_n 0, 1) := by decide +kernel
theorem dJ6_bitCount_0f7a4_35 : decode cJ6_bitCount_0f7a4 35 = .ok (.iload_n 0, 1) := by decide +kernel
theorem dJ6_bitCount_0f7a4_36 : decode cJ6_bitCount_0f7a4 36 = .ok (.bipush 8, 2) := by decide +kernel
theorem dJ6_bitCount_0f7a4_38 : decode cJ6_bitCount_0f7a4 38 = .ok (.iushr, 1) := by decide +kernel
theorem dJ6_bitCount_0f7a4_39 : decode cJ6_bitCount_0f7a4 39 = .ok (.iadd, 1) := by decide +kernel
theorem dJ6_bitCount_0f7a4_40 : decode cJ6_bitCount_0f7a4 40 = .ok (.istore_n 0, 1) := by decide +kernel
theorem dJ6_bitCount_0f7a4_41 : decode cJ6_bitCount_0f7a4 41 = .ok (.iload_n 0, 1) := by decide +kernel
theorem dJ6_bitCount_0f7a4_42 : decode cJ6_bitCount_0f7a4 42 = .ok (.iload_n 0, 1) := by decide +kernel
theorem dJ6_bitCount_0f7a4_43 : decode cJ6_bitCount_0f7a4 43 = .ok (.bipush 16, 2) := by decide +kernel
theorem dJ6_bitCount_0f7a4_45 : decode cJ6_bitCount_0f7a4 45 = .ok (.iushr, 1) := by decide +kernel
theorem dJ6_bitCount_0f7a4_46 : decode cJ6_bitCount_0f7a4 46 = .ok (.iadd, 1) := by decide +kernel
theorem dJ6_bitCount_0f7a4_47 : decode cJ6_bitCount_0f7a4 47 = .ok (.istore_n 0, 1) := by decide +kernel
theorem dJ6_bitCount_0f7a4_48 : decode cJ6_bitCount_0f7a4 48 = .ok (.iload_n 0, 1) := by decide +kernel
theorem dJ6_bitCount_0f7a4_49 : decode cJ6_bitCount_0f7a4 49 = .ok (.bipush 63, 2) := by decide +kernel
theorem dJ6_bitCount_0f7a4_51 : decode cJ6_bitCount_0f7a4 51 = .ok (.iand, 1) := by decide +kernel
theorem dJ6_bitCount_0f7a4_52 : decode cJ6_bitCount_0f7a4 52 = .ok (.ireturn, 1) := by decide +kernel
theorem dJ9_floorMod_7cf53_0 : decode cJ9_floorMod_7cf53 0 = .ok (.iload_n 0, 1) := by decide +kernel
theorem dJ9_floorMod_7cf53_1 : decode cJ9_floorMod_7cf53 1 = .ok (.iload_n 1, 1) := by decide +kernel
theorem dJ9_floorMod_7cf53_2 : decode cJ9_floorMod_7cf53 2 = .ok (.irem, 1) := by decide +kernel
theorem dJ9_floorMod_7cf53_3 : decode cJ9_floorMod_7cf53 3 = .ok (.istore_n 2, 1) := by decide +kernel
theorem dJ9_floorMod_7cf53_4 : decode cJ9_floorMod_7cf53 4 = .ok (.iload_n 0, 1) := by decide +kernel
theorem dJ9_floorMod_7cf53_5 : decode cJ9_floorMod_7cf53 5 = .ok (.iload_n 1, 1) := by decide +kernel
theorem dJ9_floorMod_7cf53_6 : decode cJ9_floorMod_7cf53 6 = .ok (.ixor, 1) := by decide +kernel
theorem dJ9_floorMod_7cf53_7 : decode cJ9_floorMod_7cf53 7 = .ok (.ifCond .ge 11, 3) := by decide +kernel
theorem dJ9_floorMod_7cf53_10 : decode cJ9_floorMod_7cf53 10 = .ok (.iload_n 2, 1) := by decide +kernel
theorem dJ9_floorMod_7cf53_11 : decode cJ9_floorMod_7cf53 11 = .ok (.ifCond .eq 7, 3) := by decide +kernel
theorem dJ9_floorMod_7cf53_14 : decode cJ9_floorMod_7cf53 14 = .ok (.iload_n 2, 1) := by decide +kernel
theorem dJ9_floorMod_7cf53_15 : decode cJ9_floorMod_7cf53 15 = .ok (.iload_n 1, 1) := by decide +kernel
theorem dJ9_floorMod_7cf53_16 : decode cJ9_floorMod_7cf53 16 = .ok (.iadd, 1) := by decide +kernel
theorem dJ9_floorMod_7cf53_17 : decode cJ9_floorMod_7cf53 17 = .ok (.ireturn, 1) := by decide +kernel
theorem dJ9_floorMod_7cf53_18 : decode cJ9_floorMod_7cf53 18 = .ok (.iload_n 2, 1) := by decide +kernel
theorem dJ9_floorMod_7cf53_19 : decode cJ9_floorMod_7cf53 19 = .ok (.ireturn, 1) := by decide +kernel
theorem dJ9_abs_0f7a4_0 : decode cJ9_abs_0f7a4 0 = .ok (.iload_n 0, 1) := by decide +kernel
theorem dJ9_abs_0f7a4_1 : decode cJ9_abs_0f7a4 1 = .ok (.ifCond .ge 8, 3) := by decide +kernel
theorem dJ9_abs_0f7a4_4 : decode cJ9_abs_0f7a4 4 = .ok (.iload_n 0, 1) := by decide +kernel
theorem dJ9_abs_0f7a4_5 : decode cJ9_abs_0f7a4 5 = .ok (.ineg, 1) := by decide +kernel
theorem dJ9_abs_0f7a4_6 : decode cJ9_abs_0f7a4 6 = .ok (.goto 4, 3) := by decide +kernel
theorem dJ9_abs_0f7a4_9 : decode cJ9_abs_0f7a4 9 = .ok (.iload_n 0, 1) := by decide +kernel
theorem dJ9_abs_0f7a4_10 : decode cJ9_abs_0f7a4 10 = .ok (.ireturn, 1) := by decide +kernel
theorem dJ9_max_7cf53_0 : decode cJ9_max_7cf53 0 = .ok (.iload_n 0, 1) := by decide +kernel
theorem dJ9_max_7cf53_1 : decode cJ9_max_7cf53 1 = .ok (.iload_n 1, 1) := by decide +kernel
theorem dJ9_max_7cf53_2 : decode cJ9_max_7cf53 2 = .ok (.if_icmp .lt 7, 3) := by decide +kernel
theorem dJ9_max_7cf53_5 : decode cJ9_max_7cf53 5 = .ok (.iload_n 0, 1) := by decide +kernel
theorem dJ9_max_7cf53_6 : decode cJ9_max_7cf53 6 = .ok (.goto 4, 3) := by decide +kernel
theorem dJ9_max_7cf53_9 : decode cJ9_max_7cf53 9 = .ok (.iload_n 1, 1) := by decide +kernel
theorem dJ9_max_7cf53_10 : decode cJ9_max_7cf53 10 = .ok (.ireturn, 1) := by decide +kernel
theorem dJ9_min_7cf53_0 : decode cJ9_min_7cf53 0 = .ok (.iload_n 0, 1) := by decide +kernel
theorem dJ9_min_7cf53_1 : decode cJ9_min_7cf53 1 = .ok (.iload_n 1, 1) := by decide +kernel
theorem dJ9_min_7cf53_2 : decode cJ9_min_7cf53 2 = .ok (.if_icmp .gt 7, 3) := by decide +kernel
theorem dJ9_min_7cf53_5 : decode cJ9_min_7cf53 5 = .ok (.iload_n 0, 1) := by decide +kernel
theorem dJ9_min_7cf53_6 : decode cJ9_min_7cf53 6 = .ok (.goto 4, 3) := by decide +kernel
theorem dJ9_min_7cf53_9 : decode cJ9_min_7cf53 9 = .ok (.iload_n 1, 1) := by decide +kernel
theorem dJ9_min_7cf53_10 : decode cJ9_min_7cf53 10 = .ok (.ireturn, 1) := by decide +kernel
theorem dJ7_fill_53178_0 : decode cJ7_fill_53178 0 = .ok (.iconst 0, 1) := by decide +kernel
theorem dJ7_fill_53178_1 : decode cJ7_fill_53178 1 = .ok (.istore_n 2, 1) := by decide +kernel
theorem dJ7_fill_53178_2 : decode cJ7_fill_53178 2 = .ok (.aload_n 0, 1) := by decide +kernel
theorem dJ7_fill_53178_3 : decode cJ7_fill_53178 3 = .ok (.arraylength, 1) := by decide +kernel
theorem dJ7_fill_53178_4 : decode cJ7_fill_53178 4 = .ok (.istore_n 3, 1) := by decide +kernel
theorem dJ7_fill_53178_5 : decode cJ7_fill_53178 5 = .ok (.iload_n 2, 1) := by decide +kernel
theorem dJ7_fill_53178_6 : decode cJ7_fill_53178 6 = .ok (.iload_n 3, 1) := by decide +kernel
theorem dJ7_fill_53178_7 : decode cJ7_fill_53178 7 = .ok (.if_icmp .ge 13, 3) := by decide +kernel
theorem dJ7_fill_53178_10 : decode cJ7_fill_53178 10 = .ok (.aload_n 0, 1) := by decide +kernel
theorem dJ7_fill_53178_11 : decode cJ7_fill_53178 11 = .ok (.iload_n 2, 1) := by decide +kernel
theorem dJ7_fill_53178_12 : decode cJ7_fill_53178 12 = .ok (.iload_n 1, 1) := by decide +kernel
theorem dJ7_fill_53178_13 : decode cJ7_fill_53178 13 = .ok (.iastore, 1) := by decide +kernel
theorem dJ7_fill_53178_14 : decode cJ7_fill_53178 14 = .ok (.iinc 2 1, 3) := by decide +kernel
theorem dJ7_fill_53178_17 : decode cJ7_fill_53178 17 = .ok (.goto (-12), 3) := by decide +kernel
theorem dJ7_fill_53178_20 : decode cJ7_fill_53178 20 = .ok (.return_, 1) := by decide +kernel
theorem dL_law_0 : decode cL_law 0 = .ok (.new 7, 3) := by decide +kernel
theorem dL_law_3 : decode cL_law 3 = .ok (.dup, 1) := by decide +kernel
theorem dL_law_4 : decode cL_law 4 = .ok (.invokespecial 9, 3) := by decide +kernel
theorem dL_law_7 : decode cL_law 7 = .ok (.astore_n 1, 1) := by decide +kernel
theorem dL_law_8 : decode cL_law 8 = .ok (.new 10, 3) := by decide +kernel
theorem dL_law_11 : decode cL_law 11 = .ok (.dup, 1) := by decide +kernel
theorem dL_law_12 : decode cL_law 12 = .ok (.invokespecial 12, 3) := by decide +kernel
theorem dL_law_15 : decode cL_law 15 = .ok (.astore_n 2, 1) := by decide +kernel
theorem dL_law_16 : decode cL_law 16 = .ok (.iconst 0, 1) := by decide +kernel
theorem dL_law_17 : decode cL_law 17 = .ok (.istore_n 3, 1) := by decide +kernel
theorem dL_law_18 : decode cL_law 18 = .ok (.iload_n 3, 1) := by decide +kernel
theorem dL_law_19 : decode cL_law 19 = .ok (.aload_n 0, 1) := by decide +kernel
theorem dL_law_20 : decode cL_law 20 = .ok (.arraylength, 1) := by decide +kernel
theorem dL_law_21 : decode cL_law 21 = .ok (.iconst 4, 1) := by decide +kernel
theorem dL_law_22 : decode cL_law 22 = .ok (.isub, 1) := by decide +kernel
theorem dL_law_23 : decode cL_law 23 = .ok (.if_icmp .gt 900, 3) := by decide +kernel
theorem dL_law_26 : decode cL_law 26 = .ok (.aload_n 0, 1) := by decide +kernel
theorem dL_law_27 : decode cL_law 27 = .ok (.iload_n 3, 1) := by decide +kernel
theorem dL_law_28 : decode cL_law 28 = .ok (.iaload, 1) := by decide +kernel
theorem dL_law_29 : decode cL_law 29 = .ok (.bipush 31, 2) := by decide +kernel
theorem dL_law_31 : decode cL_law 31 = .ok (.iand, 1) := by decide +kernel
theorem dL_law_32 : decode cL_law 32 = .ok (.tableswitch 885 0 26 #[124, 167, 200, 243, 266, 299, 322, 345, 378, 411, 444, 477, 520, 553, 586, 619, 652, 675, 708, 731, 754, 777, 800, 813, 836, 849, 872], 124) := by decide +kernel
theorem dL_law_156 : decode cL_law 156 = .ok (.aload_n 1, 1) := by decide +kernel
theorem dL_law_157 : decode cL_law 157 = .ok (.aload_n 0, 1) := by decide +kernel
theorem dL_law_158 : decode cL_law 158 = .ok (.iload_n 3, 1) := by decide +kernel
theorem dL_law_159 : decode cL_law 159 = .ok (.iconst 1, 1) := by decide +kernel
theorem dL_law_160 : decode cL_law 160 = .ok (.iadd, 1) := by decide +kernel
theorem dL_law_161 : decode cL_law 161 = .ok (.iaload, 1) := by decide +kernel
theorem dL_law_162 : decode cL_law 162 = .ok (.aload_n 0, 1) := by decide +kernel
theorem dL_law_163 : decode cL_law 163 = .ok (.iload_n 3, 1) := by decide +kernel
theorem dL_law_164 : decode cL_law 164 = .ok (.iconst 2, 1) := by decide +kernel
theorem dL_law_165 : decode cL_law 165 = .ok (.iadd, 1) := by decide +kernel
theorem dL_law_166 : decode cL_law 166 = .ok (.iaload, 1) := by decide +kernel
theorem dL_law_167 : decode cL_law 167 = .ok (.aload_n 0, 1) := by decide +kernel
theorem dL_law_168 : decode cL_law 168 = .ok (.iload_n 3, 1) := by decide +kernel
theorem dL_law_169 : decode cL_law 169 = .ok (.iconst 3, 1) := by decide +kernel
theorem dL_law_170 : decode cL_law 170 = .ok (.iadd, 1) := by decide +kernel
theorem dL_law_171 : decode cL_law 171 = .ok (.iaload, 1) := by decide +kernel
theorem dL_law_172 : decode cL_law 172 = .ok (.invokevirtual 13, 3) := by decide +kernel
theorem dL_law_175 : decode cL_law 175 = .ok (.aload_n 2, 1) := by decide +kernel
theorem dL_law_176 : decode cL_law 176 = .ok (.aload_n 0, 1) := by decide +kernel
theorem dL_law_177 : decode cL_law 177 = .ok (.iload_n 3, 1) := by decide +kernel
theorem dL_law_178 : decode cL_law 178 = .ok (.iconst 1, 1) := by decide +kernel
theorem dL_law_179 : decode cL_law 179 = .ok (.iadd, 1) := by decide +kernel
theorem dL_law_180 : decode cL_law 180 = .ok (.iaload, 1) := by decide +kernel
theorem dL_law_181 : decode cL_law 181 = .ok (.aload_n 0, 1) := by decide +kernel
theorem dL_law_182 : decode cL_law 182 = .ok (.iload_n 3, 1) := by decide +kernel
theorem dL_law_183 : decode cL_law 183 = .ok (.iconst 2, 1) := by decide +kernel
theorem dL_law_184 : decode cL_law 184 = .ok (.iadd, 1) := by decide +kernel
theorem dL_law_185 : decode cL_law 185 = .ok (.iaload, 1) := by decide +kernel
theorem dL_law_186 : decode cL_law 186 = .ok (.aload_n 0, 1) := by decide +kernel
theorem dL_law_187 : decode cL_law 187 = .ok (.iload_n 3, 1) := by decide +kernel
theorem dL_law_188 : decode cL_law 188 = .ok (.iconst 3, 1) := by decide +kernel
theorem dL_law_189 : decode cL_law 189 = .ok (.iadd, 1) := by decide +kernel
theorem dL_law_190 : decode cL_law 190 = .ok (.iaload, 1) := by decide +kernel
theorem dL_law_191 : decode cL_law 191 = .ok (.invokevirtual 17, 3) := by decide +kernel
theorem dL_law_194 : decode cL_law 194 = .ok (.if_icmp .eq 723, 3) := by decide +kernel
theorem dL_law_197 : decode cL_law 197 = .ok (.iconst 0, 1) := by decide +kernel
theorem dL_law_198 : decode cL_law 198 = .ok (.ireturn, 1) := by decide +kernel
theorem dL_law_199 : decode cL_law 199 = .ok (.aload_n 1, 1) := by decide +kernel
theorem dL_law_200 : decode cL_law 200 = .ok (.aload_n 0, 1) := by decide +kernel
theorem dL_law_201 : decode cL_law 201 = .ok (.iload_n 3, 1) := by decide +kernel
theorem dL_law_202 : decode cL_law 202 = .ok (.iconst 1, 1) := by decide +kernel
theorem dL_law_203 : decode cL_law 203 = .ok (.iadd, 1) := by decide +kernel
theorem dL_law_204 : decode cL_law 204 = .ok (.iaload, 1) := by decide +kernel
theorem dL_law_205 : decode cL_law 205 = .ok (.aload_n 0, 1) := by decide +kernel
theorem dL_law_206 : decode cL_law 206 = .ok (.iload_n 3, 1) := by decide +kernel
theorem dL_law_207 : decode cL_law 207 = .ok (.iconst 2, 1) := by decide +kernel
theorem dL_law_208 : decode cL_law 208 = .ok (.iadd, 1) := by decide +kernel
theorem dL_law_209 : decode cL_law 209 = .ok (.iaload, 1) := by decide +kernel
theorem dL_law_210 : decode cL_law 210 = .ok (.invokevirtual 18, 3) := by decide +kernel
theorem dL_law_213 : decode cL_law 213 = .ok (.aload_n 2, 1) := by decide +kernel
theorem dL_law_214 : decode cL_law 214 = .ok (.aload_n 0, 1) := by decide +kernel
theorem dL_law_215 : decode cL_law 215 = .ok (.iload_n 3, 1) := by decide +kernel
theorem dL_law_216 : decode cL_law 216 = .ok (.iconst 1, 1) := by decide +kernel
theorem dL_law_217 : decode cL_law 217 = .ok (.iadd, 1) := by decide +kernel
theorem dL_law_218 : decode cL_law 218 = .ok (.iaload, 1) := by decide +kernel
theorem dL_law_219 : decode cL_law 219 = .ok (.aload_n 0, 1) := by decide +kernel
theorem dL_law_220 : decode cL_law 220 = .ok (.iload_n 3, 1) := by decide +kernel
theorem dL_law_221 : decode cL_law 221 = .ok (.iconst 2, 1) := by decide +kernel
theorem dL_law_222 : decode cL_law 222 = .ok (.iadd, 1) := by decide +kernel
theorem dL_law_223 : decode cL_law 223 = .ok (.iaload, 1) := by decide +kernel
theorem dL_law_224 : decode cL_law 224 = .ok (.invokevirtual 22, 3) := by decide +kernel
theorem dL_law_227 : decode cL_law 227 = .ok (.if_icmp .eq 690, 3) := by decide +kernel
theorem dL_law_230 : decode cL_law 230 = .ok (.iconst 0, 1) := by decide +kernel
theorem dL_law_231 : decode cL_law 231 = .ok (.ireturn, 1) := by decide +kernel
theorem dL_law_232 : decode cL_law 232 = .ok (.aload_n 1, 1) := by decide +kernel
theorem dL_law_233 : decode cL_law 233 = .ok (.aload_n 0, 1) := by decide +kernel
theorem dL_law_234 : decode cL_law 234 = .ok (.iload_n 3, 1) := by decide +kernel
theorem dL_law_235 : decode cL_law 235 = .ok (.iconst 1, 1) := by decide +kernel
theorem dL_law_236 : decode cL_law 236 = .ok (.iadd, 1) := by decide +kernel
theorem dL_law_237 : decode cL_law 237 = .ok (.iaload, 1) := by decide +kernel
theorem dL_law_238 : decode cL_law 238 = .ok (.aload_n 0, 1) := by decide +kernel
theorem dL_law_239 : decode cL_law 239 = .ok (.iload_n 3, 1) := by decide +kernel
theorem dL_law_240 : decode cL_law 240 = .ok (.iconst 2, 1) := by decide +kernel
theorem dL_law_241 : decode cL_law 241 = .ok (.iadd, 1) := by decide +kernel
theorem dL_law_242 : decode cL_law 242 = .ok (.iaload, 1) := by decide +kernel
theorem dL_law_243 : decode cL_law 243 = .ok (.aload_n 0, 1) := by decide +kernel
theorem dL_law_244 : decode cL_law 244 = .ok (.iload_n 3, 1) := by decide +kernel
theorem dL_law_245 : decode cL_law 245 = .ok (.iconst 3, 1) := by decide +kernel
theorem dL_law_246 : decode cL_law 246 = .ok (.iadd, 1) := by decide +kernel
theorem dL_law_247 : decode cL_law 247 = .ok (.iaload, 1) := by decide +kernel
theorem dL_law_248 : decode cL_law 248 = .ok (.invokevirtual 23, 3) := by decide +kernel
theorem dL_law_251 : decode cL_law 251 = .ok (.aload_n 2, 1) := by decide +kernel
theorem dL_law_252 : decode cL_law 252 = .ok (.aload_n 0, 1) := by decide +kernel
theorem dL_law_253 : decode cL_law 253 = .ok (.iload_n 3, 1) := by decide +kernel
theorem dL_law_254 : decode cL_law 254 = .ok (.iconst 1, 1) := by decide +kernel
theorem dL_law_255 : decode cL_law 255 = .ok (.iadd, 1) := by decide +kernel
theorem dL_law_256 : decode cL_law 256 = .ok (.iaload, 1) := by decide +kernel
theorem dL_law_257 : decode cL_law 257 = .ok (.aload_n 0, 1) := by decide +kernel
theorem dL_law_258 : decode cL_law 258 = .ok (.iload_n 3, 1) := by decide +kernel
theorem dL_law_259 : decode cL_law 259 = .ok (.iconst 2, 1) := by decide +kernel
theorem dL_law_260 : decode cL_law 260 = .ok (.iadd, 1) := by decide +kernel
theorem dL_law_261 : decode cL_law 261 = .ok (.iaload, 1) := by decide +kernel
theorem dL_law_262 : decode cL_law 262 = .ok (.aload_n 0, 1) := by decide +kernel
theorem dL_law_263 : decode cL_law 263 = .ok (.iload_n 3, 1) := by decide +kernel
theorem dL_law_264 : decode cL_law 264 = .ok (.iconst 3, 1) := by decide +kernel
theorem dL_law_265 : decode cL_law 265 = .ok (.iadd, 1) := by decide +kernel
theorem dL_law_266 : decode cL_law 266 = .ok (.iaload, 1) := by decide +kernel
theorem dL_law_267 : decode cL_law 267 = .ok (.invokevirtual 26, 3) := by decide +kernel
theorem dL_law_270 : decode cL_law 270 = .ok (.if_icmp .eq 647, 3) := by decide +kernel
theorem dL_law_273 : decode cL_law 273 = .ok (.iconst 0, 1) := by decide +kernel
theorem dL_law_274 : decode cL_law 274 = .ok (.ireturn, 1) := by decide +kernel
theorem dL_law_275 : decode cL_law 275 = .ok (.aload_n 1, 1) := by decide +kernel
theorem dL_law_276 : decode cL_law 276 = .ok (.aload_n 0, 1) := by decide +kernel
theorem dL_law_277 : decode cL_law 277 = .ok (.iload_n 3, 1) := by decide +kernel
theorem dL_law_278 : decode cL_law 278 = .ok (.iconst 1, 1) := by decide +kernel
theorem dL_law_279 : decode cL_law 279 = .ok (.iadd, 1) := by decide +kernel
theorem dL_law_280 : decode cL_law 280 = .ok (.iaload, 1) := by decide +kernel
theorem dL_law_281 : decode cL_law 281 = .ok (.invokevirtual 27, 3) := by decide +kernel
theorem dL_law_284 : decode cL_law 284 = .ok (.aload_n 2, 1) := by decide +kernel
theorem dL_law_285 : decode cL_law 285 = .ok (.aload_n 0, 1) := by decide +kernel
theorem dL_law_286 : decode cL_law 286 = .ok (.iload_n 3, 1) := by decide +kernel
theorem dL_law_287 : decode cL_law 287 = .ok (.iconst 1, 1) := by decide +kernel
theorem dL_law_288 : decode cL_law 288 = .ok (.iadd, 1) := by decide +kernel
theorem dL_law_289 : decode cL_law 289 = .ok (.iaload, 1) := by decide +kernel
theorem dL_law_290 : decode cL_law 290 = .ok (.invokevirtual 31, 3) := by decide +kernel
theorem dL_law_293 : decode cL_law 293 = .ok (.if_icmp .eq 624, 3) := by decide +kernel
theorem dL_law_296 : decode cL_law 296 = .ok (.iconst 0, 1) := by decide +kernel
theorem dL_law_297 : decode cL_law 297 = .ok (.ireturn, 1) := by decide +kernel
theorem dL_law_298 : decode cL_law 298 = .ok (.aload_n 1, 1) := by decide +kernel
theorem dL_law_299 : decode cL_law 299 = .ok (.aload_n 0, 1) := by decide +kernel
theorem dL_law_300 : decode cL_law 300 = .ok (.iload_n 3, 1) := by decide +kernel
theorem dL_law_301 : decode cL_law 301 = .ok (.iconst 1, 1) := by decide +kernel
theorem dL_law_302 : decode cL_law 302 = .ok (.iadd, 1) := by decide +kernel
theorem dL_law_303 : decode cL_law 303 = .ok (.iaload, 1) := by decide +kernel
theorem dL_law_304 : decode cL_law 304 = .ok (.aload_n 0, 1) := by decide +kernel
theorem dL_law_305 : decode cL_law 305 = .ok (.iload_n 3, 1) := by decide +kernel
theorem dL_law_306 : decode cL_law 306 = .ok (.iconst 2, 1) := by decide +kernel
theorem dL_law_307 : decode cL_law 307 = .ok (.iadd, 1) := by decide +kernel
theorem dL_law_308 : decode cL_law 308 = .ok (.iaload, 1) := by decide +kernel
theorem dL_law_309 : decode cL_law 309 = .ok (.invokevirtual 32, 3) := by decide +kernel
theorem dL_law_312 : decode cL_law 312 = .ok (.aload_n 2, 1) := by decide +kernel
theorem dL_law_313 : decode cL_law 313 = .ok (.aload_n 0, 1) := by decide +kernel
theorem dL_law_314 : decode cL_law 314 = .ok (.iload_n 3, 1) := by decide +kernel
theorem dL_law_315 : decode cL_law 315 = .ok (.iconst 1, 1) := by decide +kernel
theorem dL_law_316 : decode cL_law 316 = .ok (.iadd, 1) := by decide +kernel
theorem dL_law_317 : decode cL_law 317 = .ok (.iaload, 1) := by decide +kernel
theorem dL_law_318 : decode cL_law 318 = .ok (.aload_n 0, 1) := by decide +kernel
theorem dL_law_319 : decode cL_law 319 = .ok (.iload_n 3, 1) := by decide +kernel
theorem dL_law_320 : decode cL_law 320 = .ok (.iconst 2, 1) := by decide +kernel
theorem dL_law_321 : decode cL_law 321 = .ok (.iadd, 1) := by decide +kernel
theorem dL_law_322 : decode cL_law 322 = .ok (.iaload, 1) := by decide +kernel
theorem dL_law_323 : decode cL_law 323 = .ok (.invokevirtual 35, 3) := by decide +kernel
theorem dL_law_326 : decode cL_law 326 = .ok (.if_icmp .eq 591, 3) := by decide +kernel
theorem dL_law_329 : decode cL_law 329 = .ok (.iconst 0, 1) := by decide +kernel
theorem dL_law_330 : decode cL_law 330 = .ok (.ireturn, 1) := by decide +kernel
theorem dL_law_331 : decode cL_law 331 = .ok (.aload_n 1, 1) := by decide +kernel
theorem dL_law_332 : decode cL_law 332 = .ok (.aload_n 0, 1) := by decide +kernel
theorem dL_law_333 : decode cL_law 333 = .ok (.iload_n 3, 1) := by decide +kernel
theorem dL_law_334 : decode cL_law 334 = .ok (.iconst 1, 1) := by decide +kernel
theorem dL_law_335 : decode cL_law 335 = .ok (.iadd, 1) := by decide +kernel
theorem dL_law_336 : decode cL_law 336 = .ok (.iaload, 1) := by decide +kernel
theorem dL_law_337 : decode cL_law 337 = .ok (.invokevirtual 36, 3) := by decide +kernel
theorem dL_law_340 : decode cL_law 340 = .ok (.aload_n 2, 1) := by decide +kernel
theorem dL_law_341 : decode cL_law 341 = .ok (.aload_n 0, 1) := by decide +kernel
theorem dL_law_342 : decode cL_law 342 = .ok (.iload_n 3, 1) := by decide +kernel
theorem dL_law_343 : decode cL_law 343 = .ok (.iconst 1, 1) := by decide +kernel
theorem dL_law_344 : decode cL_law 344 = .ok (.iadd, 1) := by decide +kernel
theorem dL_law_345 : decode cL_law 345 = .ok (.iaload, 1) := by decide +kernel
theorem dL_law_346 : decode cL_law 346 = .ok (.invokevirtual 39, 3) := by decide +kernel
theorem dL_law_349 : decode cL_law 349 = .ok (.if_icmp .eq 568, 3) := by decide +kernel
theorem dL_law_352 : decode cL_law 352 = .ok (.iconst 0, 1) := by decide +kernel
theorem dL_law_353 : decode cL_law 353 = .ok (.ireturn, 1) := by decide +kernel
theorem dL_law_354 : decode cL_law 354 = .ok (.aload_n 1, 1) := by decide +kernel
theorem dL_law_355 : decode cL_law 355 = .ok (.aload_n 0, 1) := by decide +kernel
theorem dL_law_356 : decode cL_law 356 = .ok (.iload_n 3, 1) := by decide +kernel
theorem dL_law_357 : decode cL_law 357 = .ok (.iconst 1, 1) := by decide +kernel
theorem dL_law_358 : decode cL_law 358 = .ok (.iadd, 1) := by decide +kernel
theorem dL_law_359 : decode cL_law 359 = .ok (.iaload, 1) := by decide +kernel
theorem dL_law_360 : decode cL_law 360 = .ok (.invokevirtual 40, 3) := by decide +kernel
theorem dL_law_363 : decode cL_law 363 = .ok (.aload_n 2, 1) := by decide +kernel
theorem dL_law_364 : decode cL_law 364 = .ok (.aload_n 0, 1) := by decide +kernel
theorem dL_law_365 : decode cL_law 365 = .ok (.iload_n 3, 1) := by decide +kernel
theorem dL_law_366 : decode cL_law 366 = .ok (.iconst 1, 1) := by decide +kernel
theorem dL_law_367 : decode cL_law 367 = .ok (.iadd, 1) := by decide +kernel
theorem dL_law_368 : decode cL_law 368 = .ok (.iaload, 1) := by decide +kernel
theorem dL_law_369 : decode cL_law 369 = .ok (.invokevirtual 43, 3) := by decide +kernel
theorem dL_law_372 : decode cL_law 372 = .ok (.if_icmp .eq 545, 3) := by decide +kernel
theorem dL_law_375 : decode cL_law 375 = .ok (.iconst 0, 1) := by decide +kernel
theorem dL_law_376 : decode cL_law 376 = .ok (.ireturn, 1) := by decide +kernel
theorem dL_law_377 : decode cL_law 377 = .ok (.aload_n 1, 1) := by decide +kernel
theorem dL_law_378 : decode cL_law 378 = .ok (.aload_n 0, 1) := by decide +kernel
theorem dL_law_379 : decode cL_law 379 = .ok (.iload_n 3, 1) := by decide +kernel
theorem dL_law_380 : decode cL_law 380 = .ok (.iconst 1, 1) := by decide +kernel
theorem dL_law_381 : decode cL_law 381 = .ok (.iadd, 1) := by decide +kernel
theorem dL_law_382 : decode cL_law 382 = .ok (.iaload, 1) := by decide +kernel
theorem dL_law_383 : decode cL_law 383 = .ok (.aload_n 0, 1) := by decide +kernel
theorem dL_law_384 : decode cL_law 384 = .ok (.iload_n 3, 1) := by decide +kernel
theorem dL_law_385 : decode cL_law 385 = .ok (.iconst 2, 1) := by decide +kernel
theorem dL_law_386 : decode cL_law 386 = .ok (.iadd, 1) := by decide +kernel
theorem dL_law_387 : decode cL_law 387 = .ok (.iaload, 1) := by decide +kernel
theorem dL_law_388 : decode cL_law 388 = .ok (.invokevirtual 44, 3) := by decide +kernel
theorem dL_law_391 : decode cL_law 391 = .ok (.aload_n 2, 1) := by decide +kernel
theorem dL_law_392 : decode cL_law 392 = .ok (.aload_n 0, 1) := by decide +kernel
theorem dL_law_393 : decode cL_law 393 = .ok (.iload_n 3, 1) := by decide +kernel
theorem dL_law_394 : decode cL_law 394 = .ok (.iconst 1, 1) := by decide +kernel
theorem dL_law_395 : decode cL_law 395 = .ok (.iadd, 1) := by decide +kernel
theorem dL_law_396 : decode cL_law 396 = .ok (.iaload, 1) := by decide +kernel
theorem dL_law_397 : decode cL_law 397 = .ok (.aload_n 0, 1) := by decide +kernel
theorem dL_law_398 : decode cL_law 398 = .ok (.iload_n 3, 1) := by decide +kernel
theorem dL_law_399 : decode cL_law 399 = .ok (.iconst 2, 1) := by decide +kernel
theorem dL_law_400 : decode cL_law 400 = .ok (.iadd, 1) := by decide +kernel
theorem dL_law_401 : decode cL_law 401 = .ok (.iaload, 1) := by decide +kernel
theorem dL_law_402 : decode cL_law 402 = .ok (.invokevirtual 47, 3) := by decide +kernel
theorem dL_law_405 : decode cL_law 405 = .ok (.if_icmp .eq 512, 3) := by decide +kernel
theorem dL_law_408 : decode cL_law 408 = .ok (.iconst 0, 1) := by decide +kernel
theorem dL_law_409 : decode cL_law 409 = .ok (.ireturn, 1) := by decide +kernel
theorem dL_law_410 : decode cL_law 410 = .ok (.aload_n 1, 1) := by decide +kernel
theorem dL_law_411 : decode cL_law 411 = .ok (.aload_n 0, 1) := by decide +kernel
theorem dL_law_412 : decode cL_law 412 = .ok (.iload_n 3, 1) := by decide +kernel
theorem dL_law_413 : decode cL_law 413 = .ok (.iconst 1, 1) := by decide +kernel
theorem dL_law_414 : decode cL_law 414 = .ok (.iadd, 1) := by decide +kernel
theorem dL_law_415 : decode cL_law 415 = .ok (.iaload, 1) := by decide +kernel
theorem dL_law_416 : decode cL_law 416 = .ok (.aload_n 0, 1) := by decide +kernel
theorem dL_law_417 : decode cL_law 417 = .ok (.iload_n 3, 1) := by decide +kernel
theorem dL_law_418 : decode cL_law 418 = .ok (.iconst 2, 1) := by decide +kernel
theorem dL_law_419 : decode cL_law 419 = .ok (.iadd, 1) := by decide +kernel
theorem dL_law_420 : decode cL_law 420 = .ok (.iaload, 1) := by decide +kernel
theorem dL_law_421 : decode cL_law 421 = .ok (.invokevirtual 48, 3) := by decide +kernel
theorem dL_law_424 : decode cL_law 424 = .ok (.aload_n 2, 1) := by decide +kernel
theorem dL_law_425 : decode cL_law 425 = .ok (.aload_n 0, 1) := by decide +kernel
theorem dL_law_426 : decode cL_law 426 = .ok (.iload_n 3, 1) := by decide +kernel
theorem dL_law_427 : decode cL_law 427 = .ok (.iconst 1, 1) := by decide +kernel
theorem dL_law_428 : decode cL_law 428 = .ok (.iadd, 1) := by decide +kernel
theorem dL_law_429 : decode cL_law 429 = .ok (.iaload, 1) := by decide +kernel
theorem dL_law_430 : decode cL_law 430 = .ok (.aload_n 0, 1) := by decide +kernel
theorem dL_law_431 : decode cL_law 431 = .ok (.iload_n 3, 1) := by decide +kernel
theorem dL_law_432 : decode cL_law 432 = .ok (.iconst 2, 1) := by decide +kernel
theorem dL_law_433 : decode cL_law 433 = .ok (.iadd, 1) := by decide +kernel
theorem dL_law_434 : decode cL_law 434 = .ok (.iaload, 1) := by decide +kernel
theorem dL_law_435 : decode cL_law 435 = .ok (.invokevirtual 51, 3) := by decide +kernel
theorem dL_law_438 : decode cL_law 438 = .ok (.if_icmp .eq 479, 3) := by decide +kernel
theorem dL_law_441 : decode cL_law 441 = .ok (.iconst 0, 1) := by decide +kernel
theorem dL_law_442 : decode cL_law 442 = .ok (.ireturn, 1) := by decide +kernel
theorem dL_law_443 : decode cL_law 443 = .ok (.aload_n 1, 1) := by decide +kernel
theorem dL_law_444 : decode cL_law 444 = .ok (.aload_n 0, 1) := by decide +kernel
theorem dL_law_445 : decode cL_law 445 = .ok (.iload_n 3, 1) := by decide +kernel
theorem dL_law_446 : decode cL_law 446 = .ok (.iconst 1, 1) := by decide +kernel
theorem dL_law_447 : decode cL_law 447 = .ok (.iadd, 1) := by decide +kernel
theorem dL_law_448 : decode cL_law 448 = .ok (.iaload, 1) := by decide +kernel
theorem dL_law_449 : decode cL_law 449 = .ok (.aload_n 0, 1) := by decide +kernel
theorem dL_law_450 : decode cL_law 450 = .ok (.iload_n 3, 1) := by decide +kernel
theorem dL_law_451 : decode cL_law 451 = .ok (.iconst 2, 1) := by decide +kernel
theorem dL_law_452 : decode cL_law 452 = .ok (.iadd, 1) := by decide +kernel
theorem dL_law_453 : decode cL_law 453 = .ok (.iaload, 1) := by decide +kernel
theorem dL_law_454 : decode cL_law 454 = .ok (.invokevirtual 52, 3) := by decide +kernel
theorem dL_law_457 : decode cL_law 457 = .ok (.aload_n 2, 1) := by decide +kernel
theorem dL_law_458 : decode cL_law 458 = .ok (.aload_n 0, 1) := by decide +kernel
theorem dL_law_459 : decode cL_law 459 = .ok (.iload_n 3, 1) := by decide +kernel
theorem dL_law_460 : decode cL_law 460 = .ok (.iconst 1, 1) := by decide +kernel
theorem dL_law_461 : decode cL_law 461 = .ok (.iadd, 1) := by decide +kernel
theorem dL_law_462 : decode cL_law 462 = .ok (.iaload, 1) := by decide +kernel
theorem dL_law_463 : decode cL_law 463 = .ok (.aload_n 0, 1) := by decide +kernel
theorem dL_law_464 : decode cL_law 464 = .ok (.iload_n 3, 1) := by decide +kernel
theorem dL_law_465 : decode cL_law 465 = .ok (.iconst 2, 1) := by decide +kernel
theorem dL_law_466 : decode cL_law 466 = .ok (.iadd, 1) := by decide +kernel
theorem dL_law_467 : decode cL_law 467 = .ok (.iaload, 1) := by decide +kernel
theorem dL_law_468 : decode cL_law 468 = .ok (.invokevirtual 55, 3) := by decide +kernel
theorem dL_law_471 : decode cL_law 471 = .ok (.if_icmp .eq 446, 3) := by decide +kernel
theorem dL_law_474 : decode cL_law 474 = .ok (.iconst 0, 1) := by decide +kernel
theorem dL_law_475 : decode cL_law 475 = .ok (.ireturn, 1) := by decide +kernel
theorem dL_law_476 : decode cL_law 476 = .ok (.aload_n 1, 1) := by decide +kernel
theorem dL_law_477 : decode cL_law 477 = .ok (.aload_n 0, 1) := by decide +kernel
theorem dL_law_478 : decode cL_law 478 = .ok (.iload_n 3, 1) := by decide +kernel
theorem dL_law_479 : decode cL_law 479 = .ok (.iconst 1, 1) := by decide +kernel
theorem dL_law_480 : decode cL_law 480 = .ok (.iadd, 1) := by decide +kernel
theorem dL_law_481 : decode cL_law 481 = .ok (.iaload, 1) := by decide +kernel
theorem dL_law_482 : decode cL_law 482 = .ok (.aload_n 0, 1) := by decide +kernel
theorem dL_law_483 : decode cL_law 483 = .ok (.iload_n 3, 1) := by decide +kernel
theorem dL_law_484 : decode cL_law 484 = .ok (.iconst 2, 1) := by decide +kernel
theorem dL_law_485 : decode cL_law 485 = .ok (.iadd, 1) := by decide +kernel
theorem dL_law_486 : decode cL_law 486 = .ok (.iaload, 1) := by decide +kernel
theorem dL_law_487 : decode cL_law 487 = .ok (.invokevirtual 56, 3) := by decide +kernel
theorem dL_law_490 : decode cL_law 490 = .ok (.aload_n 2, 1) := by decide +kernel
theorem dL_law_491 : decode cL_law 491 = .ok (.aload_n 0, 1) := by decide +kernel
theorem dL_law_492 : decode cL_law 492 = .ok (.iload_n 3, 1) := by decide +kernel
theorem dL_law_493 : decode cL_law 493 = .ok (.iconst 1, 1) := by decide +kernel
theorem dL_law_494 : decode cL_law 494 = .ok (.iadd, 1) := by decide +kernel
theorem dL_law_495 : decode cL_law 495 = .ok (.iaload, 1) := by decide +kernel
theorem dL_law_496 : decode cL_law 496 = .ok (.aload_n 0, 1) := by decide +kernel
theorem dL_law_497 : decode cL_law 497 = .ok (.iload_n 3, 1) := by decide +kernel
theorem dL_law_498 : decode cL_law 498 = .ok (.iconst 2, 1) := by decide +kernel
theorem dL_law_499 : decode cL_law 499 = .ok (.iadd, 1) := by decide +kernel
theorem dL_law_500 : decode cL_law 500 = .ok (.iaload, 1) := by decide +kernel
theorem dL_law_501 : decode cL_law 501 = .ok (.invokevirtual 59, 3) := by decide +kernel
theorem dL_law_504 : decode cL_law 504 = .ok (.if_icmp .eq 413, 3) := by decide +kernel
theorem dL_law_507 : decode cL_law 507 = .ok (.iconst 0, 1) := by decide +kernel
theorem dL_law_508 : decode cL_law 508 = .ok (.ireturn, 1) := by decide +kernel
theorem dL_law_509 : decode cL_law 509 = .ok (.aload_n 1, 1) := by decide +kernel
theorem dL_law_510 : decode cL_law 510 = .ok (.aload_n 0, 1) := by decide +kernel
theorem dL_law_511 : decode cL_law 511 = .ok (.iload_n 3, 1) := by decide +kernel
theorem dL_law_512 : decode cL_law 512 = .ok (.iconst 1, 1) := by decide +kernel
theorem dL_law_513 : decode cL_law 513 = .ok (.iadd, 1) := by decide +kernel
theorem dL_law_514 : decode cL_law 514 = .ok (.iaload, 1) := by decide +kernel
theorem dL_law_515 : decode cL_law 515 = .ok (.aload_n 0, 1) := by decide +kernel
theorem dL_law_516 : decode cL_law 516 = .ok (.iload_n 3, 1) := by decide +kernel
theorem dL_law_517 : decode cL_law 517 = .ok (.iconst 2, 1) := by decide +kernel
theorem dL_law_518 : decode cL_law 518 = .ok (.iadd, 1) := by decide +kernel
theorem dL_law_519 : decode cL_law 519 = .ok (.iaload, 1) := by decide +kernel
theorem dL_law_520 : decode cL_law 520 = .ok (.aload_n 0, 1) := by decide +kernel
theorem dL_law_521 : decode cL_law 521 = .ok (.iload_n 3, 1) := by decide +kernel
theorem dL_law_522 : decode cL_law 522 = .ok (.iconst 3, 1) := by decide +kernel
theorem dL_law_523 : decode cL_law 523 = .ok (.iadd, 1) := by decide +kernel
theorem dL_law_524 : decode cL_law 524 = .ok (.iaload, 1) := by decide +kernel
theorem dL_law_525 : decode cL_law 525 = .ok (.invokevirtual 60, 3) := by decide +kernel
theorem dL_law_528 : decode cL_law 528 = .ok (.aload_n 2, 1) := by decide +kernel
theorem dL_law_529 : decode cL_law 529 = .ok (.aload_n 0, 1) := by decide +kernel
theorem dL_law_530 : decode cL_law 530 = .ok (.iload_n 3, 1) := by decide +kernel
theorem dL_law_531 : decode cL_law 531 = .ok (.iconst 1, 1) := by decide +kernel
theorem dL_law_532 : decode cL_law 532 = .ok (.iadd, 1) := by decide +kernel
theorem dL_law_533 : decode cL_law 533 = .ok (.iaload, 1) := by decide +kernel
theorem dL_law_534 : decode cL_law 534 = .ok (.aload_n 0, 1) := by decide +kernel
theorem dL_law_535 : decode cL_law 535 = .ok (.iload_n 3, 1) := by decide +kernel
theorem dL_law_536 : decode cL_law 536 = .ok (.iconst 2, 1) := by decide +kernel
theorem dL_law_537 : decode cL_law 537 = .ok (.iadd, 1) := by decide +kernel
theorem dL_law_538 : decode cL_law 538 = .ok (.iaload, 1) := by decide +kernel
theorem dL_law_539 : decode cL_law 539 = .ok (.aload_n 0, 1) := by decide +kernel
theorem dL_law_540 : decode cL_law 540 = .ok (.iload_n 3, 1) := by decide +kernel
theorem dL_law_541 : decode cL_law 541 = .ok (.iconst 3, 1) := by decide +kernel
theorem dL_law_542 : decode cL_law 542 = .ok (.iadd, 1) := by decide +kernel
theorem dL_law_543 : decode cL_law 543 = .ok (.iaload, 1) := by decide +kernel
theorem dL_law_544 : decode cL_law 544 = .ok (.invokevirtual 63, 3) := by decide +kernel
theorem dL_law_547 : decode cL_law 547 = .ok (.if_icmp .eq 370, 3) := by decide +kernel
theorem dL_law_550 : decode cL_law 550 = .ok (.iconst 0, 1) := by decide +kernel
theorem dL_law_551 : decode cL_law 551 = .ok (.ireturn, 1) := by decide +kernel
theorem dL_law_552 : decode cL_law 552 = .ok (.aload_n 1, 1) := by decide +kernel
theorem dL_law_553 : decode cL_law 553 = .ok (.aload_n 0, 1) := by decide +kernel
theorem dL_law_554 : decode cL_law 554 = .ok (.iload_n 3, 1) := by decide +kernel
theorem dL_law_555 : decode cL_law 555 = .ok (.iconst 1, 1) := by decide +kernel
theorem dL_law_556 : decode cL_law 556 = .ok (.iadd, 1) := by decide +kernel
theorem dL_law_557 : decode cL_law 557 = .ok (.iaload, 1) := by decide +kernel
theorem dL_law_558 : decode cL_law 558 = .ok (.aload_n 0, 1) := by decide +kernel
theorem dL_law_559 : decode cL_law 559 = .ok (.iload_n 3, 1) := by decide +kernel
theorem dL_law_560 : decode cL_law 560 = .ok (.iconst 2, 1) := by decide +kernel
theorem dL_law_561 : decode cL_law 561 = .ok (.iadd, 1) := by decide +kernel
theorem dL_law_562 : decode cL_law 562 = .ok (.iaload, 1) := by decide +kernel
theorem dL_law_563 : decode cL_law 563 = .ok (.invokevirtual 64, 3) := by decide +kernel
theorem dL_law_566 : decode cL_law 566 = .ok (.aload_n 2, 1) := by decide +kernel
theorem dL_law_567 : decode cL_law 567 = .ok (.aload_n 0, 1) := by decide +kernel
theorem dL_law_568 : decode cL_law 568 = .ok (.iload_n 3, 1) := by decide +kernel
theorem dL_law_569 : decode cL_law 569 = .ok (.iconst 1, 1) := by decide +kernel
theorem dL_law_570 : decode cL_law 570 = .ok (.iadd, 1) := by decide +kernel
theorem dL_law_571 : decode cL_law 571 = .ok (.iaload, 1) := by decide +kernel
theorem dL_law_572 : decode cL_law 572 = .ok (.aload_n 0, 1) := by decide +kernel
theorem dL_law_573 : decode cL_law 573 = .ok (.iload_n 3, 1) := by decide +kernel
theorem dL_law_574 : decode cL_law 574 = .ok (.iconst 2, 1) := by decide +kernel
theorem dL_law_575 : decode cL_law 575 = .ok (.iadd, 1) := by decide +kernel
theorem dL_law_576 : decode cL_law 576 = .ok (.iaload, 1) := by decide +kernel
theorem dL_law_577 : decode cL_law 577 = .ok (.invokevirtual 67, 3) := by decide +kernel
theorem dL_law_580 : decode cL_law 580 = .ok (.if_icmp .eq 337, 3) := by decide +kernel
theorem dL_law_583 : decode cL_law 583 = .ok (.iconst 0, 1) := by decide +kernel
theorem dL_law_584 : decode cL_law 584 = .ok (.ireturn, 1) := by decide +kernel
theorem dL_law_585 : decode cL_law 585 = .ok (.aload_n 1, 1) := by decide +kernel
theorem dL_law_586 : decode cL_law 586 = .ok (.aload_n 0, 1) := by decide +kernel
theorem dL_law_587 : decode cL_law 587 = .ok (.iload_n 3, 1) := by decide +kernel
theorem dL_law_588 : decode cL_law 588 = .ok (.iconst 1, 1) := by decide +kernel
theorem dL_law_589 : decode cL_law 589 = .ok (.iadd, 1) := by decide +kernel
theorem dL_law_590 : decode cL_law 590 = .ok (.iaload, 1) := by decide +kernel
theorem dL_law_591 : decode cL_law 591 = .ok (.aload_n 0, 1) := by decide +kernel
theorem dL_law_592 : decode cL_law 592 = .ok (.iload_n 3, 1) := by decide +kernel
theorem dL_law_593 : decode cL_law 593 = .ok (.iconst 2, 1) := by decide +kernel
theorem dL_law_594 : decode cL_law 594 = .ok (.iadd, 1) := by decide +kernel
theorem dL_law_595 : decode cL_law 595 = .ok (.iaload, 1) := by decide +kernel
theorem dL_law_596 : decode cL_law 596 = .ok (.invokevirtual 68, 3) := by decide +kernel
theorem dL_law_599 : decode cL_law 599 = .ok (.aload_n 2, 1) := by decide +kernel
theorem dL_law_600 : decode cL_law 600 = .ok (.aload_n 0, 1) := by decide +kernel
theorem dL_law_601 : decode cL_law 601 = .ok (.iload_n 3, 1) := by decide +kernel
theorem dL_law_602 : decode cL_law 602 = .ok (.iconst 1, 1) := by decide +kernel
theorem dL_law_603 : decode cL_law 603 = .ok (.iadd, 1) := by decide +kernel
theorem dL_law_604 : decode cL_law 604 = .ok (.iaload, 1) := by decide +kernel
theorem dL_law_605 : decode cL_law 605 = .ok (.aload_n 0, 1) := by decide +kernel
theorem dL_law_606 : decode cL_law 606 = .ok (.iload_n 3, 1) := by decide +kernel
theorem dL_law_607 : decode cL_law 607 = .ok (.iconst 2, 1) := by decide +kernel
theorem dL_law_608 : decode cL_law 608 = .ok (.iadd, 1) := by decide +kernel
theorem dL_law_609 : decode cL_law 609 = .ok (.iaload, 1) := by decide +kernel
theorem dL_law_610 : decode cL_law 610 = .ok (.invokevirtual 71, 3) := by decide +kernel
theorem dL_law_613 : decode cL_law 613 = .ok (.if_icmp .eq 304, 3) := by decide +kernel
theorem dL_law_616 : decode cL_law 616 = .ok (.iconst 0, 1) := by decide +kernel
theorem dL_law_617 : decode cL_law 617 = .ok (.ireturn, 1) := by decide +kernel
theorem dL_law_618 : decode cL_law 618 = .ok (.aload_n 1, 1) := by decide +kernel
theorem dL_law_619 : decode cL_law 619 = .ok (.aload_n 0, 1) := by decide +kernel
theorem dL_law_620 : decode cL_law 620 = .ok (.iload_n 3, 1) := by decide +kernel
theorem dL_law_621 : decode cL_law 621 = .ok (.iconst 1, 1) := by decide +kernel
theorem dL_law_622 : decode cL_law 622 = .ok (.iadd, 1) := by decide +kernel
theorem dL_law_623 : decode cL_law 623 = .ok (.iaload, 1) := by decide +kernel
theorem dL_law_624 : decode cL_law 624 = .ok (.aload_n 0, 1) := by decide +kernel
theorem dL_law_625 : decode cL_law 625 = .ok (.iload_n 3, 1) := by decide +kernel
theorem dL_law_626 : decode cL_law 626 = .ok (.iconst 2, 1) := by decide +kernel
theorem dL_law_627 : decode cL_law 627 = .ok (.iadd, 1) := by decide +kernel
theorem dL_law_628 : decode cL_law 628 = .ok (.iaload, 1) := by decide +kernel
theorem dL_law_629 : decode cL_law 629 = .ok (.invokevirtual 72, 3) := by decide +kernel
theorem dL_law_632 : decode cL_law 632 = .ok (.aload_n 2, 1) := by decide +kernel
theorem dL_law_633 : decode cL_law 633 = .ok (.aload_n 0, 1) := by decide +kernel
theorem dL_law_634 : decode cL_law 634 = .ok (.iload_n 3, 1) := by decide +kernel
theorem dL_law_635 : decode cL_law 635 = .ok (.iconst 1, 1) := by decide +kernel
theorem dL_law_636 : decode cL_law 636 = .ok (.iadd, 1) := by decide +kernel
theorem dL_law_637 : decode cL_law 637 = .ok (.iaload, 1) := by decide +kernel
theorem dL_law_638 : decode cL_law 638 = .ok (.aload_n 0, 1) := by decide +kernel
theorem dL_law_639 : decode cL_law 639 = .ok (.iload_n 3, 1) := by decide +kernel
theorem dL_law_640 : decode cL_law 640 = .ok (.iconst 2, 1) := by decide +kernel
theorem dL_law_641 : decode cL_law 641 = .ok (.iadd, 1) := by decide +kernel
theorem dL_law_642 : decode cL_law 642 = .ok (.iaload, 1) := by decide +kernel
theorem dL_law_643 : decode cL_law 643 = .ok (.invokevirtual 75, 3) := by decide +kernel
theorem dL_law_646 : decode cL_law 646 = .ok (.if_icmp .eq 271, 3) := by decide +kernel
theorem dL_law_649 : decode cL_law 649 = .ok (.iconst 0, 1) := by decide +kernel
theorem dL_law_650 : decode cL_law 650 = .ok (.ireturn, 1) := by decide +kernel
theorem dL_law_651 : decode cL_law 651 = .ok (.aload_n 1, 1) := by decide +kernel
theorem dL_law_652 : decode cL_law 652 = .ok (.aload_n 0, 1) := by decide +kernel
theorem dL_law_653 : decode cL_law 653 = .ok (.iload_n 3, 1) := by decide +kernel
theorem dL_law_654 : decode cL_law 654 = .ok (.iconst 1, 1) := by decide +kernel
theorem dL_law_655 : decode cL_law 655 = .ok (.iadd, 1) := by decide +kernel
theorem dL_law_656 : decode cL_law 656 = .ok (.iaload, 1) := by decide +kernel
theorem dL_law_657 : decode cL_law 657 = .ok (.aload_n 0, 1) := by decide +kernel
theorem dL_law_658 : decode cL_law 658 = .ok (.iload_n 3, 1) := by decide +kernel
theorem dL_law_659 : decode cL_law 659 = .ok (.iconst 2, 1) := by decide +kernel
theorem dL_law_660 : decode cL_law 660 = .ok (.iadd, 1) := by decide +kernel
theorem dL_law_661 : decode cL_law 661 = .ok (.iaload, 1) := by decide +kernel
theorem dL_law_662 : decode cL_law 662 = .ok (.invokevirtual 76, 3) := by decide +kernel
theorem dL_law_665 : decode cL_law 665 = .ok (.aload_n 2, 1) := by decide +kernel
theorem dL_law_666 : decode cL_law 666 = .ok (.aload_n 0, 1) := by decide +kernel
theorem dL_law_667 : decode cL_law 667 = .ok (.iload_n 3, 1) := by decide +kernel
theorem dL_law_668 : decode cL_law 668 = .ok (.iconst 1, 1) := by decide +kernel
theorem dL_law_669 : decode cL_law 669 = .ok (.iadd, 1) := by decide +kernel
theorem dL_law_670 : decode cL_law 670 = .ok (.iaload, 1) := by decide +kernel
theorem dL_law_671 : decode cL_law 671 = .ok (.aload_n 0, 1) := by decide +kernel
theorem dL_law_672 : decode cL_law 672 = .ok (.iload_n 3, 1) := by decide +kernel
theorem dL_law_673 : decode cL_law 673 = .ok (.iconst 2, 1) := by decide +kernel
theorem dL_law_674 : decode cL_law 674 = .ok (.iadd, 1) := by decide +kernel
theorem dL_law_675 : decode cL_law 675 = .ok (.iaload, 1) := by decide +kernel
theorem dL_law_676 : decode cL_law 676 = .ok (.invokevirtual 79, 3) := by decide +kernel
theorem dL_law_679 : decode cL_law 679 = .ok (.if_icmp .eq 238, 3) := by decide +kernel
theorem dL_law_682 : decode cL_law 682 = .ok (.iconst 0, 1) := by decide +kernel
theorem dL_law_683 : decode cL_law 683 = .ok (.ireturn, 1) := by decide +kernel
theorem dL_law_684 : decode cL_law 684 = .ok (.aload_n 1, 1) := by decide +kernel
theorem dL_law_685 : decode cL_law 685 = .ok (.aload_n 0, 1) := by decide +kernel
theorem dL_law_686 : decode cL_law 686 = .ok (.iload_n 3, 1) := by decide +kernel
theorem dL_law_687 : decode cL_law 687 = .ok (.iconst 1, 1) := by decide +kernel
theorem dL_law_688 : decode cL_law 688 = .ok (.iadd, 1) := by decide +kernel
theorem dL_law_689 : decode cL_law 689 = .ok (.iaload, 1) := by decide +kernel
theorem dL_law_690 : decode cL_law 690 = .ok (.invokevirtual 80, 3) := by decide +kernel
theorem dL_law_693 : decode cL_law 693 = .ok (.aload_n 2, 1) := by decide +kernel
theorem dL_law_694 : decode cL_law 694 = .ok (.aload_n 0, 1) := by decide +kernel
theorem dL_law_695 : decode cL_law 695 = .ok (.iload_n 3, 1) := by decide +kernel
theorem dL_law_696 : decode cL_law 696 = .ok (.iconst 1, 1) := by decide +kernel
theorem dL_law_697 : decode cL_law 697 = .ok (.iadd, 1) := by decide +kernel
theorem dL_law_698 : decode cL_law 698 = .ok (.iaload, 1) := by decide +kernel
theorem dL_law_699 : decode cL_law 699 = .ok (.invokevirtual 83, 3) := by decide +kernel
theorem dL_law_702 : decode cL_law 702 = .ok (.if_icmp .eq 215, 3) := by decide +kernel
theorem dL_law_705 : decode cL_law 705 = .ok (.iconst 0, 1) := by decide +kernel
theorem dL_law_706 : decode cL_law 706 = .ok (.ireturn, 1) := by decide +kernel
theorem dL_law_707 : decode cL_law 707 = .ok (.aload_n 1, 1) := by decide +kernel
theorem dL_law_708 : decode cL_law 708 = .ok (.aload_n 0, 1) := by decide +kernel
theorem dL_law_709 : decode cL_law 709 = .ok (.iload_n 3, 1) := by decide +kernel
theorem dL_law_710 : decode cL_law 710 = .ok (.iconst 1, 1) := by decide +kernel
theorem dL_law_711 : decode cL_law 711 = .ok (.iadd, 1) := by decide +kernel
theorem dL_law_712 : decode cL_law 712 = .ok (.iaload, 1) := by decide +kernel
theorem dL_law_713 : decode cL_law 713 = .ok (.aload_n 0, 1) := by decide +kernel
theorem dL_law_714 : decode cL_law 714 = .ok (.iload_n 3, 1) := by decide +kernel
theorem dL_law_715 : decode cL_law 715 = .ok (.iconst 2, 1) := by decide +kernel
theorem dL_law_716 : decode cL_law 716 = .ok (.iadd, 1) := by decide +kernel
theorem dL_law_717 : decode cL_law 717 = .ok (.iaload, 1) := by decide +kernel
theorem dL_law_718 : decode cL_law 718 = .ok (.invokevirtual 84, 3) := by decide +kernel
theorem dL_law_721 : decode cL_law 721 = .ok (.aload_n 2, 1) := by decide +kernel
theorem dL_law_722 : decode cL_law 722 = .ok (.aload_n 0, 1) := by decide +kernel
theorem dL_law_723 : decode cL_law 723 = .ok (.iload_n 3, 1) := by decide +kernel
theorem dL_law_724 : decode cL_law 724 = .ok (.iconst 1, 1) := by decide +kernel
theorem dL_law_725 : decode cL_law 725 = .ok (.iadd, 1) := by decide +kernel
theorem dL_law_726 : decode cL_law 726 = .ok (.iaload, 1) := by decide +kernel
theorem dL_law_727 : decode cL_law 727 = .ok (.aload_n 0, 1) := by decide +kernel
theorem dL_law_728 : decode cL_law 728 = .ok (.iload_n 3, 1) := by decide +kernel
theorem dL_law_729 : decode cL_law 729 = .ok (.iconst 2, 1) := by decide +kernel
theorem dL_law_730 : decode cL_law 730 = .ok (.iadd, 1) := by decide +kernel
theorem dL_law_731 : decode cL_law 731 = .ok (.iaload, 1) := by decide +kernel
theorem dL_law_732 : decode cL_law 732 = .ok (.invokevirtual 87, 3) := by decide +kernel
theorem dL_law_735 : decode cL_law 735 = .ok (.if_icmp .eq 182, 3) := by decide +kernel
theorem dL_law_738 : decode cL_law 738 = .ok (.iconst 0, 1) := by decide +kernel
theorem dL_law_739 : decode cL_law 739 = .ok (.ireturn, 1) := by decide +kernel
theorem dL_law_740 : decode cL_law 740 = .ok (.aload_n 1, 1) := by decide +kernel
theorem dL_law_741 : decode cL_law 741 = .ok (.aload_n 0, 1) := by decide +kernel
theorem dL_law_742 : decode cL_law 742 = .ok (.iload_n 3, 1) := by decide +kernel
theorem dL_law_743 : decode cL_law 743 = .ok (.iconst 1, 1) := by decide +kernel
theorem dL_law_744 : decode cL_law 744 = .ok (.iadd, 1) := by decide +kernel
theorem dL_law_745 : decode cL_law 745 = .ok (.iaload, 1) := by decide +kernel
theorem dL_law_746 : decode cL_law 746 = .ok (.invokevirtual 88, 3) := by decide +kernel
theorem dL_law_749 : decode cL_law 749 = .ok (.aload_n 2, 1) := by decide +kernel
theorem dL_law_750 : decode cL_law 750 = .ok (.aload_n 0, 1) := by decide +kernel
theorem dL_law_751 : decode cL_law 751 = .ok (.iload_n 3, 1) := by decide +kernel
theorem dL_law_752 : decode cL_law 752 = .ok (.iconst 1, 1) := by decide +kernel
theorem dL_law_753 : decode cL_law 753 = .ok (.iadd, 1) := by decide +kernel
theorem dL_law_754 : decode cL_law 754 = .ok (.iaload, 1) := by decide +kernel
theorem dL_law_755 : decode cL_law 755 = .ok (.invokevirtual 91, 3) := by decide +kernel
theorem dL_law_758 : decode cL_law 758 = .ok (.if_icmp .eq 159, 3) := by decide +kernel
theorem dL_law_761 : decode cL_law 761 = .ok (.iconst 0, 1) := by decide +kernel
theorem dL_law_762 : decode cL_law 762 = .ok (.ireturn, 1) := by decide +kernel
theorem dL_law_763 : decode cL_law 763 = .ok (.aload_n 1, 1) := by decide +kernel
theorem dL_law_764 : decode cL_law 764 = .ok (.aload_n 0, 1) := by decide +kernel
theorem dL_law_765 : decode cL_law 765 = .ok (.iload_n 3, 1) := by decide +kernel
theorem dL_law_766 : decode cL_law 766 = .ok (.iconst 1, 1) := by decide +kernel
theorem dL_law_767 : decode cL_law 767 = .ok (.iadd, 1) := by decide +kernel
theorem dL_law_768 : decode cL_law 768 = .ok (.iaload, 1) := by decide +kernel
theorem dL_law_769 : decode cL_law 769 = .ok (.invokevirtual 92, 3) := by decide +kernel
theorem dL_law_772 : decode cL_law 772 = .ok (.aload_n 2, 1) := by decide +kernel
theorem dL_law_773 : decode cL_law 773 = .ok (.aload_n 0, 1) := by decide +kernel
theorem dL_law_774 : decode cL_law 774 = .ok (.iload_n 3, 1) := by decide +kernel
theorem dL_law_775 : decode cL_law 775 = .ok (.iconst 1, 1) := by decide +kernel
theorem dL_law_776 : decode cL_law 776 = .ok (.iadd, 1) := by decide +kernel
theorem dL_law_777 : decode cL_law 777 = .ok (.iaload, 1) := by decide +kernel
theorem dL_law_778 : decode cL_law 778 = .ok (.invokevirtual 95, 3) := by decide +kernel
theorem dL_law_781 : decode cL_law 781 = .ok (.if_icmp .eq 136, 3) := by decide +kernel
theorem dL_law_784 : decode cL_law 784 = .ok (.iconst 0, 1) := by decide +kernel
theorem dL_law_785 : decode cL_law 785 = .ok (.ireturn, 1) := by decide +kernel
theorem dL_law_786 : decode cL_law 786 = .ok (.aload_n 1, 1) := by decide +kernel
theorem dL_law_787 : decode cL_law 787 = .ok (.aload_n 0, 1) := by decide +kernel
theorem dL_law_788 : decode cL_law 788 = .ok (.iload_n 3, 1) := by decide +kernel
theorem dL_law_789 : decode cL_law 789 = .ok (.iconst 1, 1) := by decide +kernel
theorem dL_law_790 : decode cL_law 790 = .ok (.iadd, 1) := by decide +kernel
theorem dL_law_791 : decode cL_law 791 = .ok (.iaload, 1) := by decide +kernel
theorem dL_law_792 : decode cL_law 792 = .ok (.invokevirtual 96, 3) := by decide +kernel
theorem dL_law_795 : decode cL_law 795 = .ok (.aload_n 2, 1) := by decide +kernel
theorem dL_law_796 : decode cL_law 796 = .ok (.aload_n 0, 1) := by decide +kernel
theorem dL_law_797 : decode cL_law 797 = .ok (.iload_n 3, 1) := by decide +kernel
theorem dL_law_798 : decode cL_law 798 = .ok (.iconst 1, 1) := by decide +kernel
theorem dL_law_799 : decode cL_law 799 = .ok (.iadd, 1) := by decide +kernel
theorem dL_law_800 : decode cL_law 800 = .ok (.iaload, 1) := by decide +kernel
theorem dL_law_801 : decode cL_law 801 = .ok (.invokevirtual 99, 3) := by decide +kernel
theorem dL_law_804 : decode cL_law 804 = .ok (.if_icmp .eq 113, 3) := by decide +kernel
theorem dL_law_807 : decode cL_law 807 = .ok (.iconst 0, 1) := by decide +kernel
theorem dL_law_808 : decode cL_law 808 = .ok (.ireturn, 1) := by decide +kernel
theorem dL_law_809 : decode cL_law 809 = .ok (.aload_n 1, 1) := by decide +kernel
theorem dL_law_810 : decode cL_law 810 = .ok (.aload_n 0, 1) := by decide +kernel
theorem dL_law_811 : decode cL_law 811 = .ok (.iload_n 3, 1) := by decide +kernel
theorem dL_law_812 : decode cL_law 812 = .ok (.iconst 1, 1) := by decide +kernel
theorem dL_law_813 : decode cL_law 813 = .ok (.iadd, 1) := by decide +kernel
theorem dL_law_814 : decode cL_law 814 = .ok (.iaload, 1) := by decide +kernel
theorem dL_law_815 : decode cL_law 815 = .ok (.invokevirtual 100, 3) := by decide +kernel
theorem dL_law_818 : decode cL_law 818 = .ok (.aload_n 2, 1) := by decide +kernel
theorem dL_law_819 : decode cL_law 819 = .ok (.aload_n 0, 1) := by decide +kernel
theorem dL_law_820 : decode cL_law 820 = .ok (.iload_n 3, 1) := by decide +kernel
theorem dL_law_821 : decode cL_law 821 = .ok (.iconst 1, 1) := by decide +kernel
theorem dL_law_822 : decode cL_law 822 = .ok (.iadd, 1) := by decide +kernel
theorem dL_law_823 : decode cL_law 823 = .ok (.iaload, 1) := by decide +kernel
theorem dL_law_824 : decode cL_law 824 = .ok (.invokevirtual 103, 3) := by decide +kernel
theorem dL_law_827 : decode cL_law 827 = .ok (.if_icmp .eq 90, 3) := by decide +kernel
theorem dL_law_830 : decode cL_law 830 = .ok (.iconst 0, 1) := by decide +kernel
theorem dL_law_831 : decode cL_law 831 = .ok (.ireturn, 1) := by decide +kernel
theorem dL_law_832 : decode cL_law 832 = .ok (.aload_n 1, 1) := by decide +kernel
theorem dL_law_833 : decode cL_law 833 = .ok (.invokevirtual 104, 3) := by decide +kernel
theorem dL_law_836 : decode cL_law 836 = .ok (.aload_n 2, 1) := by decide +kernel
theorem dL_law_837 : decode cL_law 837 = .ok (.invokevirtual 108, 3) := by decide +kernel
theorem dL_law_840 : decode cL_law 840 = .ok (.if_icmp .eq 77, 3) := by decide +kernel
theorem dL_law_843 : decode cL_law 843 = .ok (.iconst 0, 1) := by decide +kernel
theorem dL_law_844 : decode cL_law 844 = .ok (.ireturn, 1) := by decide +kernel
theorem dL_law_845 : decode cL_law 845 = .ok (.aload_n 1, 1) := by decide +kernel
theorem dL_law_846 : decode cL_law 846 = .ok (.aload_n 0, 1) := by decide +kernel
theorem dL_law_847 : decode cL_law 847 = .ok (.iload_n 3, 1) := by decide +kernel
theorem dL_law_848 : decode cL_law 848 = .ok (.iconst 1, 1) := by decide +kernel
theorem dL_law_849 : decode cL_law 849 = .ok (.iadd, 1) := by decide +kernel
theorem dL_law_850 : decode cL_law 850 = .ok (.iaload, 1) := by decide +kernel
theorem dL_law_851 : decode cL_law 851 = .ok (.invokevirtual 109, 3) := by decide +kernel
theorem dL_law_854 : decode cL_law 854 = .ok (.aload_n 2, 1) := by decide +kernel
theorem dL_law_855 : decode cL_law 855 = .ok (.aload_n 0, 1) := by decide +kernel
theorem dL_law_856 : decode cL_law 856 = .ok (.iload_n 3, 1) := by decide +kernel
theorem dL_law_857 : decode cL_law 857 = .ok (.iconst 1, 1) := by decide +kernel
theorem dL_law_858 : decode cL_law 858 = .ok (.iadd, 1) := by decide +kernel
theorem dL_law_859 : decode cL_law 859 = .ok (.iaload, 1) := by decide +kernel
theorem dL_law_860 : decode cL_law 860 = .ok (.invokevirtual 112, 3) := by decide +kernel
theorem dL_law_863 : decode cL_law 863 = .ok (.if_icmp .eq 54, 3) := by decide +kernel
theorem dL_law_866 : decode cL_law 866 = .ok (.iconst 0, 1) := by decide +kernel
theorem dL_law_867 : decode cL_law 867 = .ok (.ireturn, 1) := by decide +kernel
theorem dL_law_868 : decode cL_law 868 = .ok (.aload_n 1, 1) := by decide +kernel
theorem dL_law_869 : decode cL_law 869 = .ok (.invokevirtual 113, 3) := by decide +kernel
theorem dL_law_872 : decode cL_law 872 = .ok (.aload_n 2, 1) := by decide +kernel
theorem dL_law_873 : decode cL_law 873 = .ok (.invokevirtual 116, 3) := by decide +kernel
theorem dL_law_876 : decode cL_law 876 = .ok (.if_icmp .eq 41, 3) := by decide +kernel
theorem dL_law_879 : decode cL_law 879 = .ok (.iconst 0, 1) := by decide +kernel
theorem dL_law_880 : decode cL_law 880 = .ok (.ireturn, 1) := by decide +kernel
theorem dL_law_881 : decode cL_law 881 = .ok (.aload_n 1, 1) := by decide +kernel
theorem dL_law_882 : decode cL_law 882 = .ok (.aload_n 0, 1) := by decide +kernel
theorem dL_law_883 : decode cL_law 883 = .ok (.iload_n 3, 1) := by decide +kernel
theorem dL_law_884 : decode cL_law 884 = .ok (.iconst 1, 1) := by decide +kernel
theorem dL_law_885 : decode cL_law 885 = .ok (.iadd, 1) := by decide +kernel
theorem dL_law_886 : decode cL_law 886 = .ok (.iaload, 1) := by decide +kernel
theorem dL_law_887 : decode cL_law 887 = .ok (.invokevirtual 117, 3) := by decide +kernel
theorem dL_law_890 : decode cL_law 890 = .ok (.aload_n 2, 1) := by decide +kernel
theorem dL_law_891 : decode cL_law 891 = .ok (.aload_n 0, 1) := by decide +kernel
theorem dL_law_892 : decode cL_law 892 = .ok (.iload_n 3, 1) := by decide +kernel
theorem dL_law_893 : decode cL_law 893 = .ok (.iconst 1, 1) := by decide +kernel
theorem dL_law_894 : decode cL_law 894 = .ok (.iadd, 1) := by decide +kernel
theorem dL_law_895 : decode cL_law 895 = .ok (.iaload, 1) := by decide +kernel
theorem dL_law_896 : decode cL_law 896 = .ok (.invokevirtual 120, 3) := by decide +kernel
theorem dL_law_899 : decode cL_law 899 = .ok (.if_icmp .eq 18, 3) := by decide +kernel
theorem dL_law_902 : decode cL_law 902 = .ok (.iconst 0, 1) := by decide +kernel
theorem dL_law_903 : decode cL_law 903 = .ok (.ireturn, 1) := by decide +kernel
theorem dL_law_904 : decode cL_law 904 = .ok (.aload_n 1, 1) := by decide +kernel
theorem dL_law_905 : decode cL_law 905 = .ok (.invokevirtual 121, 3) := by decide +kernel
theorem dL_law_908 : decode cL_law 908 = .ok (.aload_n 2, 1) := by decide +kernel
theorem dL_law_909 : decode cL_law 909 = .ok (.invokevirtual 124, 3) := by decide +kernel
theorem dL_law_912 : decode cL_law 912 = .ok (.if_icmp .eq 5, 3) := by decide +kernel
theorem dL_law_915 : decode cL_law 915 = .ok (.iconst 0, 1) := by decide +kernel
theorem dL_law_916 : decode cL_law 916 = .ok (.ireturn, 1) := by decide +kernel
theorem dL_law_917 : decode cL_law 917 = .ok (.iinc 3 4, 3) := by decide +kernel
theorem dL_law_920 : decode cL_law 920 = .ok (.goto (-902), 3) := by decide +kernel
theorem dL_law_923 : decode cL_law 923 = .ok (.iconst 1, 1) := by decide +kernel
theorem dL_law_924 : decode cL_law 924 = .ok (.ireturn, 1) := by decide +kernel
