theorem dX7_partTurn_96 : decode cX7_partTurn 96 = .ok (.invokevirtual 60, 3) := by decide +kernel
theorem dX7_partTurn_99 : decode cX7_partTurn 99 = .ok (.istore 4, 2) := by decide +kernel
theorem dX7_partTurn_101 : decode cX7_partTurn 101 = .ok (.aload_n 0, 1) := by decide +kernel
theorem dX7_partTurn_102 : decode cX7_partTurn 102 = .ok (.getfield 12, 3) := by decide +kernel
theorem dX7_partTurn_105 : decode cX7_partTurn 105 = .ok (.iload_n 1, 1) := by decide +kernel
theorem dX7_partTurn_106 : decode cX7_partTurn 106 = .ok (.iload_n 3, 1) := by decide +kernel
theorem dX7_partTurn_107 : decode cX7_partTurn 107 = .ok (.iload 4, 2) := by decide +kernel
theorem dX7_partTurn_109 : decode cX7_partTurn 109 = .ok (.invokevirtual 96, 3) := by decide +kernel
theorem dX7_partTurn_112 : decode cX7_partTurn 112 = .ok (.aload_n 0, 1) := by decide +kernel
theorem dX7_partTurn_113 : decode cX7_partTurn 113 = .ok (.getfield 12, 3) := by decide +kernel
theorem dX7_partTurn_116 : decode cX7_partTurn 116 = .ok (.iload_n 1, 1) := by decide +kernel
theorem dX7_partTurn_117 : decode cX7_partTurn 117 = .ok (.iload_n 2, 1) := by decide +kernel
theorem dX7_partTurn_118 : decode cX7_partTurn 118 = .ok (.invokevirtual 100, 3) := by decide +kernel
theorem dX7_partTurn_121 : decode cX7_partTurn 121 = .ok (.iload 4, 2) := by decide +kernel
theorem dX7_partTurn_123 : decode cX7_partTurn 123 = .ok (.ireturn, 1) := by decide +kernel
theorem dX7_dropTurn_0 : decode cX7_dropTurn 0 = .ok (.aload_n 0, 1) := by decide +kernel
theorem dX7_dropTurn_1 : decode cX7_dropTurn 1 = .ok (.getfield 12, 3) := by decide +kernel
theorem dX7_dropTurn_4 : decode cX7_dropTurn 4 = .ok (.iload_n 1, 1) := by decide +kernel
theorem dX7_dropTurn_5 : decode cX7_dropTurn 5 = .ok (.invokevirtual 64, 3) := by decide +kernel
theorem dX7_dropTurn_8 : decode cX7_dropTurn 8 = .ok (.ifCond .ne 6, 3) := by decide +kernel
theorem dX7_dropTurn_11 : decode cX7_dropTurn 11 = .ok (.ldc 50, 2) := by decide +kernel
theorem dX7_dropTurn_13 : decode cX7_dropTurn 13 = .ok (.ireturn, 1) := by decide +kernel
theorem dX7_dropTurn_14 : decode cX7_dropTurn 14 = .ok (.aload_n 0, 1) := by decide +kernel
theorem dX7_dropTurn_15 : decode cX7_dropTurn 15 = .ok (.getfield 12, 3) := by decide +kernel
theorem dX7_dropTurn_18 : decode cX7_dropTurn 18 = .ok (.iload_n 1, 1) := by decide +kernel
theorem dX7_dropTurn_19 : decode cX7_dropTurn 19 = .ok (.invokevirtual 103, 3) := by decide +kernel
theorem dX7_dropTurn_22 : decode cX7_dropTurn 22 = .ok (.aload_n 0, 1) := by decide +kernel
theorem dX7_dropTurn_23 : decode cX7_dropTurn 23 = .ok (.getfield 12, 3) := by decide +kernel
theorem dX7_dropTurn_26 : decode cX7_dropTurn 26 = .ok (.invokevirtual 107, 3) := by decide +kernel
theorem dX7_dropTurn_29 : decode cX7_dropTurn 29 = .ok (.ireturn, 1) := by decide +kernel
theorem dX7_addCorrection_0 : decode cX7_addCorrection 0 = .ok (.aload_n 0, 1) := by decide +kernel
theorem dX7_addCorrection_1 : decode cX7_addCorrection 1 = .ok (.getfield 21, 3) := by decide +kernel
theorem dX7_addCorrection_4 : decode cX7_addCorrection 4 = .ok (.iload_n 1, 1) := by decide +kernel
theorem dX7_addCorrection_5 : decode cX7_addCorrection 5 = .ok (.iload_n 2, 1) := by decide +kernel
theorem dX7_addCorrection_6 : decode cX7_addCorrection 6 = .ok (.invokevirtual 111, 3) := by decide +kernel
theorem dX7_addCorrection_9 : decode cX7_addCorrection 9 = .ok (.istore_n 3, 1) := by decide +kernel
theorem dX7_addCorrection_10 : decode cX7_addCorrection 10 = .ok (.iload_n 3, 1) := by decide +kernel
theorem dX7_addCorrection_11 : decode cX7_addCorrection 11 = .ok (.ifCond .eq 5, 3) := by decide +kernel
theorem dX7_addCorrection_14 : decode cX7_addCorrection 14 = .ok (.iload_n 3, 1) := by decide +kernel
theorem dX7_addCorrection_15 : decode cX7_addCorrection 15 = .ok (.ireturn, 1) := by decide +kernel
theorem dX7_addCorrection_16 : decode cX7_addCorrection 16 = .ok (.aload_n 0, 1) := by decide +kernel
theorem dX7_addCorrection_17 : decode cX7_addCorrection 17 = .ok (.iload_n 1, 1) := by decide +kernel
theorem dX7_addCorrection_18 : decode cX7_addCorrection 18 = .ok (.aload_n 0, 1) := by decide +kernel
theorem dX7_addCorrection_19 : decode cX7_addCorrection 19 = .ok (.getfield 21, 3) := by decide +kernel
theorem dX7_addCorrection_22 : decode cX7_addCorrection 22 = .ok (.iload_n 2, 1) := by decide +kernel
theorem dX7_addCorrection_23 : decode cX7_addCorrection 23 = .ok (.invokevirtual 115, 3) := by decide +kernel
theorem dX7_addCorrection_26 : decode cX7_addCorrection 26 = .ok (.invokevirtual 118, 3) := by decide +kernel
theorem dX7_addCorrection_29 : decode cX7_addCorrection 29 = .ok (.istore 4, 2) := by decide +kernel
theorem dX7_addCorrection_31 : decode cX7_addCorrection 31 = .ok (.aload_n 0, 1) := by decide +kernel
theorem dX7_addCorrection_32 : decode cX7_addCorrection 32 = .ok (.getfield 21, 3) := by decide +kernel
theorem dX7_addCorrection_35 : decode cX7_addCorrection 35 = .ok (.iload_n 1, 1) := by decide +kernel
theorem dX7_addCorrection_36 : decode cX7_addCorrection 36 = .ok (.iload_n 2, 1) := by decide +kernel
theorem dX7_addCorrection_37 : decode cX7_addCorrection 37 = .ok (.invokevirtual 121, 3) := by decide +kernel
theorem dX7_addCorrection_40 : decode cX7_addCorrection 40 = .ok (.iload 4, 2) := by decide +kernel
theorem dX7_addCorrection_42 : decode cX7_addCorrection 42 = .ok (.ireturn, 1) := by decide +kernel
theorem dX7_dropCorrection_0 : decode cX7_dropCorrection 0 = .ok (.iload_n 1, 1) := by decide +kernel
theorem dX7_dropCorrection_1 : decode cX7_dropCorrection 1 = .ok (.invokestatic 67, 3) := by decide +kernel
theorem dX7_dropCorrection_4 : decode cX7_dropCorrection 4 = .ok (.ifCond .ne 6, 3) := by decide +kernel
theorem dX7_dropCorrection_7 : decode cX7_dropCorrection 7 = .ok (.ldc 50, 2) := by decide +kernel
theorem dX7_dropCorrection_9 : decode cX7_dropCorrection 9 = .ok (.ireturn, 1) := by decide +kernel
theorem dX7_dropCorrection_10 : decode cX7_dropCorrection 10 = .ok (.aload_n 0, 1) := by decide +kernel
theorem dX7_dropCorrection_11 : decode cX7_dropCorrection 11 = .ok (.getfield 21, 3) := by decide +kernel
theorem dX7_dropCorrection_14 : decode cX7_dropCorrection 14 = .ok (.iload_n 1, 1) := by decide +kernel
theorem dX7_dropCorrection_15 : decode cX7_dropCorrection 15 = .ok (.invokevirtual 124, 3) := by decide +kernel
theorem dX7_dropCorrection_18 : decode cX7_dropCorrection 18 = .ok (.ifCond .ne 6, 3) := by decide +kernel
theorem dX7_dropCorrection_21 : decode cX7_dropCorrection 21 = .ok (.ldc 127, 2) := by decide +kernel
theorem dX7_dropCorrection_23 : decode cX7_dropCorrection 23 = .ok (.ireturn, 1) := by decide +kernel
theorem dX7_dropCorrection_24 : decode cX7_dropCorrection 24 = .ok (.aload_n 0, 1) := by decide +kernel
theorem dX7_dropCorrection_25 : decode cX7_dropCorrection 25 = .ok (.iload_n 1, 1) := by decide +kernel
theorem dX7_dropCorrection_26 : decode cX7_dropCorrection 26 = .ok (.iload_n 1, 1) := by decide +kernel
theorem dX7_dropCorrection_27 : decode cX7_dropCorrection 27 = .ok (.invokevirtual 118, 3) := by decide +kernel
theorem dX7_dropCorrection_30 : decode cX7_dropCorrection 30 = .ok (.istore_n 2, 1) := by decide +kernel
theorem dX7_dropCorrection_31 : decode cX7_dropCorrection 31 = .ok (.aload_n 0, 1) := by decide +kernel
theorem dX7_dropCorrection_32 : decode cX7_dropCorrection 32 = .ok (.getfield 21, 3) := by decide +kernel
theorem dX7_dropCorrection_35 : decode cX7_dropCorrection 35 = .ok (.iload_n 1, 1) := by decide +kernel
theorem dX7_dropCorrection_36 : decode cX7_dropCorrection 36 = .ok (.iconst (-1), 1) := by decide +kernel
theorem dX7_dropCorrection_37 : decode cX7_dropCorrection 37 = .ok (.invokevirtual 121, 3) := by decide +kernel
theorem dX7_dropCorrection_40 : decode cX7_dropCorrection 40 = .ok (.iload_n 2, 1) := by decide +kernel
theorem dX7_dropCorrection_41 : decode cX7_dropCorrection 41 = .ok (.ireturn, 1) := by decide +kernel
theorem dX7_addSpeaker_0 : decode cX7_addSpeaker 0 = .ok (.iload_n 1, 1) := by decide +kernel
theorem dX7_addSpeaker_1 : decode cX7_addSpeaker 1 = .ok (.invokestatic 46, 3) := by decide +kernel
theorem dX7_addSpeaker_4 : decode cX7_addSpeaker 4 = .ok (.ifCond .ne 6, 3) := by decide +kernel
theorem dX7_addSpeaker_7 : decode cX7_addSpeaker 7 = .ok (.ldc 50, 2) := by decide +kernel
theorem dX7_addSpeaker_9 : decode cX7_addSpeaker 9 = .ok (.ireturn, 1) := by decide +kernel
theorem dX7_addSpeaker_10 : decode cX7_addSpeaker 10 = .ok (.aload_n 0, 1) := by decide +kernel
theorem dX7_addSpeaker_11 : decode cX7_addSpeaker 11 = .ok (.getfield 28, 3) := by decide +kernel
theorem dX7_addSpeaker_14 : decode cX7_addSpeaker 14 = .ok (.invokevirtual 128, 3) := by decide +kernel
theorem dX7_addSpeaker_17 : decode cX7_addSpeaker 17 = .ok (.istore_n 2, 1) := by decide +kernel
theorem dX7_addSpeaker_18 : decode cX7_addSpeaker 18 = .ok (.iload_n 2, 1) := by decide +kernel
theorem dX7_addSpeaker_19 : decode cX7_addSpeaker 19 = .ok (.iconst (-1), 1) := by decide +kernel
theorem dX7_addSpeaker_20 : decode cX7_addSpeaker 20 = .ok (.if_icmp .ne 6, 3) := by decide +kernel
theorem dX7_addSpeaker_23 : decode cX7_addSpeaker 23 = .ok (.ldc 55, 2) := by decide +kernel
theorem dX7_addSpeaker_25 : decode cX7_addSpeaker 25 = .ok (.ireturn, 1) := by decide +kernel
theorem dX7_addSpeaker_26 : decode cX7_addSpeaker 26 = .ok (.aload_n 0, 1) := by decide +kernel
theorem dX7_addSpeaker_27 : decode cX7_addSpeaker 27 = .ok (.getfield 28, 3) := by decide +kernel
theorem dX7_addSpeaker_30 : decode cX7_addSpeaker 30 = .ok (.iload_n 2, 1) := by decide +kernel
theorem dX7_addSpeaker_31 : decode cX7_addSpeaker 31 = .ok (.iload_n 1, 1) := by decide +kernel
theorem dX7_addSpeaker_32 : decode cX7_addSpeaker 32 = .ok (.invokevirtual 131, 3) := by decide +kernel
theorem dX7_addSpeaker_35 : decode cX7_addSpeaker 35 = .ok (.iload_n 2, 1) := by decide +kernel
theorem dX7_addSpeaker_36 : decode cX7_addSpeaker 36 = .ok (.ireturn, 1) := by decide +kernel
theorem dX7_giveTurn_0 : decode cX7_giveTurn 0 = .ok (.aload_n 0, 1) := by decide +kernel
theorem dX7_giveTurn_1 : decode cX7_giveTurn 1 = .ok (.getfield 12, 3) := by decide +kernel
theorem dX7_giveTurn_4 : decode cX7_giveTurn 4 = .ok (.iload_n 1, 1) := by decide +kernel
theorem dX7_giveTurn_5 : decode cX7_giveTurn 5 = .ok (.invokevirtual 64, 3) := by decide +kernel
theorem dX7_giveTurn_8 : decode cX7_giveTurn 8 = .ok (.ifCond .eq 14, 3) := by decide +kernel
theorem dX7_giveTurn_11 : decode cX7_giveTurn 11 = .ok (.aload_n 0, 1) := by decide +kernel
theorem dX7_giveTurn_12 : decode cX7_giveTurn 12 = .ok (.getfield 28, 3) := by decide +kernel
theorem dX7_giveTurn_15 : decode cX7_giveTurn 15 = .ok (.iload_n 2, 1) := by decide +kernel
theorem dX7_giveTurn_16 : decode cX7_giveTurn 16 = .ok (.invokevirtual 134, 3) := by decide +kernel
theorem dX7_giveTurn_19 : decode cX7_giveTurn 19 = .ok (.ifCond .ne 6, 3) := by decide +kernel
theorem dX7_giveTurn_22 : decode cX7_giveTurn 22 = .ok (.ldc 50, 2) := by decide +kernel
theorem dX7_giveTurn_24 : decode cX7_giveTurn 24 = .ok (.ireturn, 1) := by decide +kernel
theorem dX7_giveTurn_25 : decode cX7_giveTurn 25 = .ok (.aload_n 0, 1) := by decide +kernel
theorem dX7_giveTurn_26 : decode cX7_giveTurn 26 = .ok (.getfield 12, 3) := by decide +kernel
theorem dX7_giveTurn_29 : decode cX7_giveTurn 29 = .ok (.iload_n 1, 1) := by decide +kernel
theorem dX7_giveTurn_30 : decode cX7_giveTurn 30 = .ok (.invokevirtual 93, 3) := by decide +kernel
theorem dX7_giveTurn_33 : decode cX7_giveTurn 33 = .ok (.iload_n 2, 1) := by decide +kernel
theorem dX7_giveTurn_34 : decode cX7_giveTurn 34 = .ok (.if_icmp .ne 6, 3) := by decide +kernel
theorem dX7_giveTurn_37 : decode cX7_giveTurn 37 = .ok (.ldc 127, 2) := by decide +kernel
theorem dX7_giveTurn_39 : decode cX7_giveTurn 39 = .ok (.ireturn, 1) := by decide +kernel
theorem dX7_giveTurn_40 : decode cX7_giveTurn 40 = .ok (.aload_n 0, 1) := by decide +kernel
theorem dX7_giveTurn_41 : decode cX7_giveTurn 41 = .ok (.getfield 12, 3) := by decide +kernel
theorem dX7_giveTurn_44 : decode cX7_giveTurn 44 = .ok (.iload_n 1, 1) := by decide +kernel
theorem dX7_giveTurn_45 : decode cX7_giveTurn 45 = .ok (.iload_n 2, 1) := by decide +kernel
theorem dX7_giveTurn_46 : decode cX7_giveTurn 46 = .ok (.invokevirtual 135, 3) := by decide +kernel
theorem dX7_giveTurn_49 : decode cX7_giveTurn 49 = .ok (.aload_n 0, 1) := by decide +kernel
theorem dX7_giveTurn_50 : decode cX7_giveTurn 50 = .ok (.getfield 12, 3) := by decide +kernel
theorem dX7_giveTurn_53 : decode cX7_giveTurn 53 = .ok (.iload_n 2, 1) := by decide +kernel
theorem dX7_giveTurn_54 : decode cX7_giveTurn 54 = .ok (.aload_n 0, 1) := by decide +kernel
theorem dX7_giveTurn_55 : decode cX7_giveTurn 55 = .ok (.getfield 28, 3) := by decide +kernel
theorem dX7_giveTurn_58 : decode cX7_giveTurn 58 = .ok (.iload_n 2, 1) := by decide +kernel
theorem dX7_giveTurn_59 : decode cX7_giveTurn 59 = .ok (.invokevirtual 138, 3) := by decide +kernel
theorem dX7_giveTurn_62 : decode cX7_giveTurn 62 = .ok (.invokevirtual 139, 3) := by decide +kernel
theorem dX7_giveTurn_65 : decode cX7_giveTurn 65 = .ok (.istore_n 3, 1) := by decide +kernel
theorem dX7_giveTurn_66 : decode cX7_giveTurn 66 = .ok (.aload_n 0, 1) := by decide +kernel
theorem dX7_giveTurn_67 : decode cX7_giveTurn 67 = .ok (.getfield 28, 3) := by decide +kernel
theorem dX7_giveTurn_70 : decode cX7_giveTurn 70 = .ok (.iload_n 2, 1) := by decide +kernel
theorem dX7_giveTurn_71 : decode cX7_giveTurn 71 = .ok (.iload_n 3, 1) := by decide +kernel
theorem dX7_giveTurn_72 : decode cX7_giveTurn 72 = .ok (.invokevirtual 131, 3) := by decide +kernel
theorem dX7_giveTurn_75 : decode cX7_giveTurn 75 = .ok (.iload_n 3, 1) := by decide +kernel
theorem dX7_giveTurn_76 : decode cX7_giveTurn 76 = .ok (.ireturn, 1) := by decide +kernel
theorem dX7_joinSpeakers_0 : decode cX7_joinSpeakers 0 = .ok (.aload_n 0, 1) := by decide +kernel
theorem dX7_joinSpeakers_1 : decode cX7_joinSpeakers 1 = .ok (.getfield 28, 3) := by decide +kernel
theorem dX7_joinSpeakers_4 : decode cX7_joinSpeakers 4 = .ok (.iload_n 1, 1) := by decide +kernel
theorem dX7_joinSpeakers_5 : decode cX7_joinSpeakers 5 = .ok (.invokevirtual 134, 3) := by decide +kernel
theorem dX7_joinSpeakers_8 : decode cX7_joinSpeakers 8 = .ok (.ifCond .eq 19, 3) := by decide +kernel
theorem dX7_joinSpeakers_11 : decode cX7_joinSpeakers 11 = .ok (.aload_n 0, 1) := by decide +kernel
theorem dX7_joinSpeakers_12 : decode cX7_joinSpeakers 12 = .ok (.getfield 28, 3) := by decide +kernel
theorem dX7_joinSpeakers_15 : decode cX7_joinSpeakers 15 = .ok (.iload_n 2, 1) := by decide +kernel
theorem dX7_joinSpeakers_16 : decode cX7_joinSpeakers 16 = .ok (.invokevirtual 134, 3) := by decide +kernel
theorem dX7_joinSpeakers_19 : decode cX7_joinSpeakers 19 = .ok (.ifCond .eq 8, 3) := by decide +kernel
theorem dX7_joinSpeakers_22 : decode cX7_joinSpeakers 22 = .ok (.iload_n 1, 1) := by decide +kernel
theorem dX7_joinSpeakers_23 : decode cX7_joinSpeakers 23 = .ok (.iload_n 2, 1) := by decide +kernel
theorem dX7_joinSpeakers_24 : decode cX7_joinSpeakers 24 = .ok (.if_icmp .ne 6, 3) := by decide +kernel
theorem dX7_joinSpeakers_27 : decode cX7_joinSpeakers 27 = .ok (.ldc 50, 2) := by decide +kernel
theorem dX7_joinSpeakers_29 : decode cX7_joinSpeakers 29 = .ok (.ireturn, 1) := by decide +kernel
theorem dX7_joinSpeakers_30 : decode cX7_joinSpeakers 30 = .ok (.aload_n 0, 1) := by decide +kernel
theorem dX7_joinSpeakers_31 : decode cX7_joinSpeakers 31 = .ok (.getfield 12, 3) := by decide +kernel
theorem dX7_joinSpeakers_34 : decode cX7_joinSpeakers 34 = .ok (.iload_n 1, 1) := by decide +kernel
theorem dX7_joinSpeakers_35 : decode cX7_joinSpeakers 35 = .ok (.iload_n 2, 1) := by decide +kernel
theorem dX7_joinSpeakers_36 : decode cX7_joinSpeakers 36 = .ok (.invokevirtual 142, 3) := by decide +kernel
theorem dX7_joinSpeakers_39 : decode cX7_joinSpeakers 39 = .ok (.aload_n 0, 1) := by decide +kernel
theorem dX7_joinSpeakers_40 : decode cX7_joinSpeakers 40 = .ok (.getfield 28, 3) := by decide +kernel
theorem dX7_joinSpeakers_43 : decode cX7_joinSpeakers 43 = .ok (.iload_n 1, 1) := by decide +kernel
theorem dX7_joinSpeakers_44 : decode cX7_joinSpeakers 44 = .ok (.invokevirtual 145, 3) := by decide +kernel
theorem dX7_joinSpeakers_47 : decode cX7_joinSpeakers 47 = .ok (.aload_n 0, 1) := by decide +kernel
theorem dX7_joinSpeakers_48 : decode cX7_joinSpeakers 48 = .ok (.getfield 28, 3) := by decide +kernel
theorem dX7_joinSpeakers_51 : decode cX7_joinSpeakers 51 = .ok (.iload_n 2, 1) := by decide +kernel
theorem dX7_joinSpeakers_52 : decode cX7_joinSpeakers 52 = .ok (.aload_n 0, 1) := by decide +kernel
theorem dX7_joinSpeakers_53 : decode cX7_joinSpeakers 53 = .ok (.getfield 12, 3) := by decide +kernel
theorem dX7_joinSpeakers_56 : decode cX7_joinSpeakers 56 = .ok (.iload_n 2, 1) := by decide +kernel
theorem dX7_joinSpeakers_57 : decode cX7_joinSpeakers 57 = .ok (.aload_n 0, 1) := by decide +kernel
theorem dX7_joinSpeakers_58 : decode cX7_joinSpeakers 58 = .ok (.getfield 28, 3) := by decide +kernel
theorem dX7_joinSpeakers_61 : decode cX7_joinSpeakers 61 = .ok (.iload_n 2, 1) := by decide +kernel
theorem dX7_joinSpeakers_62 : decode cX7_joinSpeakers 62 = .ok (.invokevirtual 138, 3) := by decide +kernel
theorem dX7_joinSpeakers_65 : decode cX7_joinSpeakers 65 = .ok (.invokevirtual 139, 3) := by decide +kernel
theorem dX7_joinSpeakers_68 : decode cX7_joinSpeakers 68 = .ok (.invokevirtual 131, 3) := by decide +kernel
theorem dX7_joinSpeakers_71 : decode cX7_joinSpeakers 71 = .ok (.aload_n 0, 1) := by decide +kernel
theorem dX7_joinSpeakers_72 : decode cX7_joinSpeakers 72 = .ok (.getfield 12, 3) := by decide +kernel
theorem dX7_joinSpeakers_75 : decode cX7_joinSpeakers 75 = .ok (.iload_n 2, 1) := by decide +kernel
theorem dX7_joinSpeakers_76 : decode cX7_joinSpeakers 76 = .ok (.invokevirtual 148, 3) := by decide +kernel
theorem dX7_joinSpeakers_79 : decode cX7_joinSpeakers 79 = .ok (.ireturn, 1) := by decide +kernel
theorem dX7_changeSetting_0 : decode cX7_changeSetting 0 = .ok (.iload_n 1, 1) := by decide +kernel
theorem dX7_changeSetting_1 : decode cX7_changeSetting 1 = .ok (.ifCond .ne 14, 3) := by decide +kernel
theorem dX7_changeSetting_4 : decode cX7_changeSetting 4 = .ok (.iload_n 2, 1) := by decide +kernel
theorem dX7_changeSetting_5 : decode cX7_changeSetting 5 = .ok (.iconst 0, 1) := by decide +kernel
theorem dX7_changeSetting_6 : decode cX7_changeSetting 6 = .ok (.sipush 200, 3) := by decide +kernel
theorem dX7_changeSetting_9 : decode cX7_changeSetting 9 = .ok (.invokestatic 86, 3) := by decide +kernel
theorem dX7_changeSetting_12 : decode cX7_changeSetting 12 = .ok (.ifCond .ne 6, 3) := by decide +kernel
theorem dX7_changeSetting_15 : decode cX7_changeSetting 15 = .ok (.ldc 50, 2) := by decide +kernel
theorem dX7_changeSetting_17 : decode cX7_changeSetting 17 = .ok (.ireturn, 1) := by decide +kernel
theorem dX7_changeSetting_18 : decode cX7_changeSetting 18 = .ok (.aload_n 0, 1) := by decide +kernel
theorem dX7_changeSetting_19 : decode cX7_changeSetting 19 = .ok (.getfield 32, 3) := by decide +kernel
theorem dX7_changeSetting_22 : decode cX7_changeSetting 22 = .ok (.istore_n 3, 1) := by decide +kernel
theorem dX7_changeSetting_23 : decode cX7_changeSetting 23 = .ok (.aload_n 0, 1) := by decide +kernel
theorem dX7_changeSetting_24 : decode cX7_changeSetting 24 = .ok (.iload_n 2, 1) := by decide +kernel
theorem dX7_changeSetting_25 : decode cX7_changeSetting 25 = .ok (.putfield 32, 3) := by decide +kernel
theorem dX7_changeSetting_28 : decode cX7_changeSetting 28 = .ok (.iload_n 3, 1) := by decide +kernel
theorem dX7_changeSetting_29 : decode cX7_changeSetting 29 = .ok (.ireturn, 1) := by decide +kernel
theorem dX7_setting_0 : decode cX7_setting 0 = .ok (.aload_n 0, 1) := by decide +kernel
theorem dX7_setting_1 : decode cX7_setting 1 = .ok (.getfield 32, 3) := by decide +kernel
theorem dX7_setting_4 : decode cX7_setting 4 = .ok (.ireturn, 1) := by decide +kernel
theorem dX7_closestSpeaker_0 : decode cX7_closestSpeaker 0 = .ok (.aload_n 0, 1) := by decide +kernel
theorem dX7_closestSpeaker_1 : decode cX7_closestSpeaker 1 = .ok (.getfield 28, 3) := by decide +kernel
theorem dX7_closestSpeaker_4 : decode cX7_closestSpeaker 4 = .ok (.iload_n 1, 1) := by decide +kernel
theorem dX7_closestSpeaker_5 : decode cX7_closestSpeaker 5 = .ok (.aload_n 0, 1) := by decide +kernel
theorem dX7_closestSpeaker_6 : decode cX7_closestSpeaker 6 = .ok (.getfield 32, 3) := by decide +kernel
theorem dX7_closestSpeaker_9 : decode cX7_closestSpeaker 9 = .ok (.invokevirtual 151, 3) := by decide +kernel
theorem dX7_closestSpeaker_12 : decode cX7_closestSpeaker 12 = .ok (.ireturn, 1) := by decide +kernel
theorem dX7_placesReshown_0 : decode cX7_placesReshown 0 = .ok (.aload_n 0, 1) := by decide +kernel
theorem dX7_placesReshown_1 : decode cX7_placesReshown 1 = .ok (.getfield 21, 3) := by decide +kernel
theorem dX7_placesReshown_4 : decode cX7_placesReshown 4 = .ok (.iload_n 1, 1) := by decide +kernel
theorem dX7_placesReshown_5 : decode cX7_placesReshown 5 = .ok (.invokevirtual 115, 3) := by decide +kernel
theorem dX7_placesReshown_8 : decode cX7_placesReshown 8 = .ok (.iload_n 2, 1) := by decide +kernel
theorem dX7_placesReshown_9 : decode cX7_placesReshown 9 = .ok (.if_icmp .ne 5, 3) := by decide +kernel
theorem dX7_placesReshown_12 : decode cX7_placesReshown 12 = .ok (.iconst 0, 1) := by decide +kernel
theorem dX7_placesReshown_13 : decode cX7_placesReshown 13 = .ok (.ireturn, 1) := by decide +kernel
theorem dX7_placesReshown_14 : decode cX7_placesReshown 14 = .ok (.iconst 0, 1) := by decide +kernel
theorem dX7_placesReshown_15 : decode cX7_placesReshown 15 = .ok (.istore_n 3, 1) := by decide +kernel
theorem dX7_placesReshown_16 : decode cX7_placesReshown 16 = .ok (.iconst 0, 1) := by decide +kernel
theorem dX7_placesReshown_17 : decode cX7_placesReshown 17 = .ok (.istore 4, 2) := by decide +kernel
theorem dX7_placesReshown_19 : decode cX7_placesReshown 19 = .ok (.iload 4, 2) := by decide +kernel
theorem dX7_placesReshown_21 : decode cX7_placesReshown 21 = .ok (.bipush 16, 2) := by decide +kernel
theorem dX7_placesReshown_23 : decode cX7_placesReshown 23 = .ok (.if_icmp .ge 34, 3) := by decide +kernel
theorem dX7_placesReshown_26 : decode cX7_placesReshown 26 = .ok (.aload_n 0, 1) := by decide +kernel
theorem dX7_placesReshown_27 : decode cX7_placesReshown 27 = .ok (.getfield 21, 3) := by decide +kernel
theorem dX7_placesReshown_30 : decode cX7_placesReshown 30 = .ok (.iload 4, 2) := by decide +kernel
theorem dX7_placesReshown_32 : decode cX7_placesReshown 32 = .ok (.iload_n 1, 1) := by decide +kernel
theorem dX7_placesReshown_33 : decode cX7_placesReshown 33 = .ok (.invokevirtual 154, 3) := by decide +kernel
theorem dX7_placesReshown_36 : decode cX7_placesReshown 36 = .ok (.ifCond .eq 15, 3) := by decide +kernel
theorem dX7_placesReshown_39 : decode cX7_placesReshown 39 = .ok (.iload_n 3, 1) := by decide +kernel
theorem dX7_placesReshown_40 : decode cX7_placesReshown 40 = .ok (.aload_n 0, 1) := by decide +kernel
theorem dX7_placesReshown_41 : decode cX7_placesReshown 41 = .ok (.getfield 12, 3) := by decide +kernel
theorem dX7_placesReshown_44 : decode cX7_placesReshown 44 = .ok (.iload 4, 2) := by decide +kernel
theorem dX7_placesReshown_46 : decode cX7_placesReshown 46 = .ok (.invokevirtual 158, 3) := by decide +kernel
theorem dX7_placesReshown_49 : decode cX7_placesReshown 49 = .ok (.iadd, 1) := by decide +kernel
theorem dX7_placesReshown_50 : decode cX7_placesReshown 50 = .ok (.istore_n 3, 1) := by decide +kernel
theorem dX7_placesReshown_51 : decode cX7_placesReshown 51 = .ok (.iinc 4 1, 3) := by decide +kernel
theorem dX7_placesReshown_54 : decode cX7_placesReshown 54 = .ok (.goto (-35), 3) := by decide +kernel
theorem dX7_placesReshown_57 : decode cX7_placesReshown 57 = .ok (.iload_n 3, 1) := by decide +kernel
theorem dX7_placesReshown_58 : decode cX7_placesReshown 58 = .ok (.ireturn, 1) := by decide +kernel
theorem dX7_isPitch_0 : decode cX7_isPitch 0 = .ok (.iload_n 0, 1) := by decide +kernel
theorem dX7_isPitch_1 : decode cX7_isPitch 1 = .ok (.bipush 50, 2) := by decide +kernel
theorem dX7_isPitch_3 : decode cX7_isPitch 3 = .ok (.sipush 500, 3) := by decide +kernel
theorem dX7_isPitch_6 : decode cX7_isPitch 6 = .ok (.invokestatic 86, 3) := by decide +kernel
theorem dX7_isPitch_9 : decode cX7_isPitch 9 = .ok (.ireturn, 1) := by decide +kernel
theorem dX8_init_0 : decode cX8_init 0 = .ok (.aload_n 0, 1) := by decide +kernel
theorem dX8_init_1 : decode cX8_init 1 = .ok (.invokespecial 3, 3) := by decide +kernel
theorem dX8_init_4 : decode cX8_init 4 = .ok (.aload_n 0, 1) := by decide +kernel
theorem dX8_init_5 : decode cX8_init 5 = .ok (.bipush 20, 2) := by decide +kernel
theorem dX8_init_7 : decode cX8_init 7 = .ok (.newarray .int, 2) := by decide +kernel
theorem dX8_init_9 : decode cX8_init 9 = .ok (.putfield 9, 3) := by decide +kernel
theorem dX8_init_12 : decode cX8_init 12 = .ok (.aload_n 0, 1) := by decide +kernel
theorem dX8_init_13 : decode cX8_init 13 = .ok (.bipush 20, 2) := by decide +kernel
theorem dX8_init_15 : decode cX8_init 15 = .ok (.newarray .int, 2) := by decide +kernel
theorem dX8_init_17 : decode cX8_init 17 = .ok (.putfield 15, 3) := by decide +kernel
theorem dX8_init_20 : decode cX8_init 20 = .ok (.aload_n 0, 1) := by decide +kernel
theorem dX8_init_21 : decode cX8_init 21 = .ok (.bipush 20, 2) := by decide +kernel
theorem dX8_init_23 : decode cX8_init 23 = .ok (.newarray .int, 2) := by decide +kernel
theorem dX8_init_25 : decode cX8_init 25 = .ok (.putfield 18, 3) := by decide +kernel
theorem dX8_init_28 : decode cX8_init 28 = .ok (.aload_n 0, 1) := by decide +kernel
theorem dX8_init_29 : decode cX8_init 29 = .ok (.bipush 20, 2) := by decide +kernel
theorem dX8_init_31 : decode cX8_init 31 = .ok (.newarray .int, 2) := by decide +kernel
theorem dX8_init_33 : decode cX8_init 33 = .ok (.putfield 21, 3) := by decide +kernel
theorem dX8_init_36 : decode cX8_init 36 = .ok (.aload_n 0, 1) := by decide +kernel
theorem dX8_init_37 : decode cX8_init 37 = .ok (.bipush 20, 2) := by decide +kernel
theorem dX8_init_39 : decode cX8_init 39 = .ok (.newarray .int, 2) := by decide +kernel
theorem dX8_init_41 : decode cX8_init 41 = .ok (.putfield 24, 3) := by decide +kernel
theorem dX8_init_44 : decode cX8_init 44 = .ok (.aload_n 0, 1) := by decide +kernel
theorem dX8_init_45 : decode cX8_init 45 = .ok (.sipush 160, 3) := by decide +kernel
theorem dX8_init_48 : decode cX8_init 48 = .ok (.newarray .int, 2) := by decide +kernel
theorem dX8_init_50 : decode cX8_init 50 = .ok (.putfield 27, 3) := by decide +kernel
theorem dX8_init_53 : decode cX8_init 53 = .ok (.return_, 1) := by decide +kernel
theorem dX8_takeFrom_0 : decode cX8_takeFrom 0 = .ok (.aload_n 1, 1) := by decide +kernel
theorem dX8_takeFrom_1 : decode cX8_takeFrom 1 = .ok (.getfield 9, 3) := by decide +kernel
theorem dX8_takeFrom_4 : decode cX8_takeFrom 4 = .ok (.iconst 0, 1) := by decide +kernel
theorem dX8_takeFrom_5 : decode cX8_takeFrom 5 = .ok (.aload_n 0, 1) := by decide +kernel
theorem dX8_takeFrom_6 : decode cX8_takeFrom 6 = .ok (.getfield 9, 3) := by decide +kernel
theorem dX8_takeFrom_9 : decode cX8_takeFrom 9 = .ok (.iconst 0, 1) := by decide +kernel
theorem dX8_takeFrom_10 : decode cX8_takeFrom 10 = .ok (.bipush 20, 2) := by decide +kernel
theorem dX8_takeFrom_12 : decode cX8_takeFrom 12 = .ok (.invokestatic 30, 3) := by decide +kernel
theorem dX8_takeFrom_15 : decode cX8_takeFrom 15 = .ok (.aload_n 1, 1) := by decide +kernel
theorem dX8_takeFrom_16 : decode cX8_takeFrom 16 = .ok (.getfield 15, 3) := by decide +kernel
theorem dX8_takeFrom_19 : decode cX8_takeFrom 19 = .ok (.iconst 0, 1) := by decide +kernel
theorem dX8_takeFrom_20 : decode cX8_takeFrom 20 = .ok (.aload_n 0, 1) := by decide +kernel
theorem dX8_takeFrom_21 : decode cX8_takeFrom 21 = .ok (.getfield 15, 3) := by decide +kernel
theorem dX8_takeFrom_24 : decode cX8_takeFrom 24 = .ok (.iconst 0, 1) := by decide +kernel
theorem dX8_takeFrom_25 : decode cX8_takeFrom 25 = .ok (.bipush 20, 2) := by decide +kernel
theorem dX8_takeFrom_27 : decode cX8_takeFrom 27 = .ok (.invokestatic 30, 3) := by decide +kernel
theorem dX8_takeFrom_30 : decode cX8_takeFrom 30 = .ok (.aload_n 1, 1) := by decide +kernel
theorem dX8_takeFrom_31 : decode cX8_takeFrom 31 = .ok (.getfield 18, 3) := by decide +kernel
theorem dX8_takeFrom_34 : decode cX8_takeFrom 34 = .ok (.iconst 0, 1) := by decide +kernel
theorem dX8_takeFrom_35 : decode cX8_takeFrom 35 = .ok (.aload_n 0, 1) := by decide +kernel
theorem dX8_takeFrom_36 : decode cX8_takeFrom 36 = .ok (.getfield 18, 3) := by decide +kernel
theorem dX8_takeFrom_39 : decode cX8_takeFrom 39 = .ok (.iconst 0, 1) := by decide +kernel
theorem dX8_takeFrom_40 : decode cX8_takeFrom 40 = .ok (.bipush 20, 2) := by decide +kernel
theorem dX8_takeFrom_42 : decode cX8_takeFrom 42 = .ok (.invokestatic 30, 3) := by decide +kernel
theorem dX8_takeFrom_45 : decode cX8_takeFrom 45 = .ok (.aload_n 1, 1) := by decide +kernel
theorem dX8_takeFrom_46 : decode cX8_takeFrom 46 = .ok (.getfield 21, 3) := by decide +kernel
theorem dX8_takeFrom_49 : decode cX8_takeFrom 49 = .ok (.iconst 0, 1) := by decide +kernel
theorem dX8_takeFrom_50 : decode cX8_takeFrom 50 = .ok (.aload_n 0, 1) := by decide +kernel
theorem dX8_takeFrom_51 : decode cX8_takeFrom 51 = .ok (.getfield 21, 3) := by decide +kernel
theorem dX8_takeFrom_54 : decode cX8_takeFrom 54 = .ok (.iconst 0, 1) := by decide +kernel
theorem dX8_takeFrom_55 : decode cX8_takeFrom 55 = .ok (.bipush 20, 2) := by decide +kernel
theorem dX8_takeFrom_57 : decode cX8_takeFrom 57 = .ok (.invokestatic 30, 3) := by decide +kernel
theorem dX8_takeFrom_60 : decode cX8_takeFrom 60 = .ok (.aload_n 1, 1) := by decide +kernel
theorem dX8_takeFrom_61 : decode cX8_takeFrom 61 = .ok (.getfield 24, 3) := by decide +kernel
theorem dX8_takeFrom_64 : decode cX8_takeFrom 64 = .ok (.iconst 0, 1) := by decide +kernel
theorem dX8_takeFrom_65 : decode cX8_takeFrom 65 = .ok (.aload_n 0, 1) := by decide +kernel
theorem dX8_takeFrom_66 : decode cX8_takeFrom 66 = .ok (.getfield 24, 3) := by decide +kernel
theorem dX8_takeFrom_69 : decode cX8_takeFrom 69 = .ok (.iconst 0, 1) := by decide +kernel
theorem dX8_takeFrom_70 : decode cX8_takeFrom 70 = .ok (.bipush 20, 2) := by decide +kernel
theorem dX8_takeFrom_72 : decode cX8_takeFrom 72 = .ok (.invokestatic 30, 3) := by decide +kernel
theorem dX8_takeFrom_75 : decode cX8_takeFrom 75 = .ok (.aload_n 1, 1) := by decide +kernel
theorem dX8_takeFrom_76 : decode cX8_takeFrom 76 = .ok (.getfield 27, 3) := by decide +kernel
theorem dX8_takeFrom_79 : decode cX8_takeFrom 79 = .ok (.iconst 0, 1) := by decide +kernel
theorem dX8_takeFrom_80 : decode cX8_takeFrom 80 = .ok (.aload_n 0, 1) := by decide +kernel
theorem dX8_takeFrom_81 : decode cX8_takeFrom 81 = .ok (.getfield 27, 3) := by decide +kernel
theorem dX8_takeFrom_84 : decode cX8_takeFrom 84 = .ok (.iconst 0, 1) := by decide +kernel
theorem dX8_takeFrom_85 : decode cX8_takeFrom 85 = .ok (.sipush 160, 3) := by decide +kernel
theorem dX8_takeFrom_88 : decode cX8_takeFrom 88 = .ok (.invokestatic 30, 3) := by decide +kernel
theorem dX8_takeFrom_91 : decode cX8_takeFrom 91 = .ok (.aload_n 0, 1) := by decide +kernel
theorem dX8_takeFrom_92 : decode cX8_takeFrom 92 = .ok (.aload_n 1, 1) := by decide +kernel
theorem dX8_takeFrom_93 : decode cX8_takeFrom 93 = .ok (.getfield 36, 3) := by decide +kernel
theorem dX8_takeFrom_96 : decode cX8_takeFrom 96 = .ok (.putfield 36, 3) := by decide +kernel
theorem dX8_takeFrom_99 : decode cX8_takeFrom 99 = .ok (.return_, 1) := by decide +kernel
theorem dX8_size_0 : decode cX8_size 0 = .ok (.aload_n 0, 1) := by decide +kernel
theorem dX8_size_1 : decode cX8_size 1 = .ok (.getfield 36, 3) := by decide +kernel
theorem dX8_size_4 : decode cX8_size 4 = .ok (.ireturn, 1) := by decide +kernel
theorem dX8_isFull_0 : decode cX8_isFull 0 = .ok (.aload_n 0, 1) := by decide +kernel
theorem dX8_isFull_1 : decode cX8_isFull 1 = .ok (.getfield 36, 3) := by decide +kernel
theorem dX8_isFull_4 : decode cX8_isFull 4 = .ok (.bipush 20, 2) := by decide +kernel
theorem dX8_isFull_6 : decode cX8_isFull 6 = .ok (.if_icmp .lt 7, 3) := by decide +kernel
theorem dX8_isFull_9 : decode cX8_isFull 9 = .ok (.iconst 1, 1) := by decide +kernel
theorem dX8_isFull_10 : decode cX8_isFull 10 = .ok (.goto 4, 3) := by decide +kernel
theorem dX8_isFull_13 : decode cX8_isFull 13 = .ok (.iconst 0, 1) := by decide +kernel
theorem dX8_isFull_14 : decode cX8_isFull 14 = .ok (.ireturn, 1) := by decide +kernel
theorem dX8_has_0 : decode cX8_has 0 = .ok (.iload_n 1, 1) := by decide +kernel
theorem dX8_has_1 : decode cX8_has 1 = .ok (.ifCond .lt 21, 3) := by decide +kernel
theorem dX8_has_4 : decode cX8_has 4 = .ok (.iload_n 1, 1) := by decide +kernel
theorem dX8_has_5 : decode cX8_has 5 = .ok (.aload_n 0, 1) := by decide +kernel
theorem dX8_has_6 : decode cX8_has 6 = .ok (.getfield 36, 3) := by decide +kernel
theorem dX8_has_9 : decode cX8_has 9 = .ok (.if_icmp .ge 13, 3) := by decide +kernel
theorem dX8_has_12 : decode cX8_has 12 = .ok (.iload_n 1, 1) := by decide +kernel
theorem dX8_has_13 : decode cX8_has 13 = .ok (.bipush 20, 2) := by decide +kernel
theorem dX8_has_15 : decode cX8_has 15 = .ok (.if_icmp .ge 7, 3) := by decide +kernel
theorem dX8_has_18 : decode cX8_has 18 = .ok (.iconst 1, 1) := by decide +kernel
theorem dX8_has_19 : decode cX8_has 19 = .ok (.goto 4, 3) := by decide +kernel
theorem dX8_has_22 : decode cX8_has 22 = .ok (.iconst 0, 1) := by decide +kernel
theorem dX8_has_23 : decode cX8_has 23 = .ok (.ireturn, 1) := by decide +kernel
theorem dX8_beginOf_0 : decode cX8_beginOf 0 = .ok (.aload_n 0, 1) := by decide +kernel
theorem dX8_beginOf_1 : decode cX8_beginOf 1 = .ok (.iload_n 1, 1) := by decide +kernel
theorem dX8_beginOf_2 : decode cX8_beginOf 2 = .ok (.invokevirtual 40, 3) := by decide +kernel
theorem dX8_beginOf_5 : decode cX8_beginOf 5 = .ok (.ifCond .eq 12, 3) := by decide +kernel
theorem dX8_beginOf_8 : decode cX8_beginOf 8 = .ok (.aload_n 0, 1) := by decide +kernel
theorem dX8_beginOf_9 : decode cX8_beginOf 9 = .ok (.getfield 9, 3) := by decide +kernel
theorem dX8_beginOf_12 : decode cX8_beginOf 12 = .ok (.iload_n 1, 1) := by decide +kernel
theorem dX8_beginOf_13 : decode cX8_beginOf 13 = .ok (.iaload, 1) := by decide +kernel
theorem dX8_beginOf_14 : decode cX8_beginOf 14 = .ok (.goto 4, 3) := by decide +kernel
theorem dX8_beginOf_17 : decode cX8_beginOf 17 = .ok (.iconst 0, 1) := by decide +kernel
theorem dX8_beginOf_18 : decode cX8_beginOf 18 = .ok (.ireturn, 1) := by decide +kernel
theorem dX8_endOf_0 : decode cX8_endOf 0 = .ok (.aload_n 0, 1) := by decide +kernel
theorem dX8_endOf_1 : decode cX8_endOf 1 = .ok (.iload_n 1, 1) := by decide +kernel
theorem dX8_endOf_2 : decode cX8_endOf 2 = .ok (.invokevirtual 40, 3) := by decide +kernel
theorem dX8_endOf_5 : decode cX8_endOf 5 = .ok (.ifCond .eq 12, 3) := by decide +kernel
theorem dX8_endOf_8 : decode cX8_endOf 8 = .ok (.aload_n 0, 1) := by decide +kernel
theorem dX8_endOf_9 : decode cX8_endOf 9 = .ok (.getfield 15, 3) := by decide +kernel
theorem dX8_endOf_12 : decode cX8_endOf 12 = .ok (.iload_n 1, 1) := by decide +kernel
theorem dX8_endOf_13 : decode cX8_endOf 13 = .ok (.iaload, 1) := by decide +kernel
theorem dX8_endOf_14 : decode cX8_endOf 14 = .ok (.goto 4, 3) := by decide +kernel
theorem dX8_endOf_17 : decode cX8_endOf 17 = .ok (.iconst 0, 1) := by decide +kernel
theorem dX8_endOf_18 : decode cX8_endOf 18 = .ok (.ireturn, 1) := by decide +kernel
theorem dX8_pitchOf_0 : decode cX8_pitchOf 0 = .ok (.aload_n 0, 1) := by decide +kernel
theorem dX8_pitchOf_1 : decode cX8_pitchOf 1 = .ok (.iload_n 1, 1) := by decide +kernel
theorem dX8_pitchOf_2 : decode cX8_pitchOf 2 = .ok (.invokevirtual 40, 3) := by decide +kernel
theorem dX8_pitchOf_5 : decode cX8_pitchOf 5 = .ok (.ifCond .eq 12, 3) := by decide +kernel
theorem dX8_pitchOf_8 : decode cX8_pitchOf 8 = .ok (.aload_n 0, 1) := by decide +kernel
theorem dX8_pitchOf_9 : decode cX8_pitchOf 9 = .ok (.getfield 18, 3) := by decide +kernel
theorem dX8_pitchOf_12 : decode cX8_pitchOf 12 = .ok (.iload_n 1, 1) := by decide +kernel
theorem dX8_pitchOf_13 : decode cX8_pitchOf 13 = .ok (.iaload, 1) := by decide +kernel
theorem dX8_pitchOf_14 : decode cX8_pitchOf 14 = .ok (.goto 4, 3) := by decide +kernel
theorem dX8_pitchOf_17 : decode cX8_pitchOf 17 = .ok (.iconst 0, 1) := by decide +kernel
theorem dX8_pitchOf_18 : decode cX8_pitchOf 18 = .ok (.ireturn, 1) := by decide +kernel
theorem dX8_ownerOf_0 : decode cX8_ownerOf 0 = .ok (.aload_n 0, 1) := by decide +kernel
theorem dX8_ownerOf_1 : decode cX8_ownerOf 1 = .ok (.iload_n 1, 1) := by decide +kernel
theorem dX8_ownerOf_2 : decode cX8_ownerOf 2 = .ok (.invokevirtual 40, 3) := by decide +kernel
theorem dX8_ownerOf_5 : decode cX8_ownerOf 5 = .ok (.ifCond .eq 12, 3) := by decide +kernel
theorem dX8_ownerOf_8 : decode cX8_ownerOf 8 = .ok (.aload_n 0, 1) := by decide +kernel
theorem dX8_ownerOf_9 : decode cX8_ownerOf 9 = .ok (.getfield 21, 3) := by decide +kernel
theorem dX8_ownerOf_12 : decode cX8_ownerOf 12 = .ok (.iload_n 1, 1) := by decide +kernel
theorem dX8_ownerOf_13 : decode cX8_ownerOf 13 = .ok (.iaload, 1) := by decide +kernel
theorem dX8_ownerOf_14 : decode cX8_ownerOf 14 = .ok (.goto 4, 3) := by decide +kernel
theorem dX8_ownerOf_17 : decode cX8_ownerOf 17 = .ok (.iconst (-1), 1) := by decide +kernel
theorem dX8_ownerOf_18 : decode cX8_ownerOf 18 = .ok (.ireturn, 1) := by decide +kernel
theorem dX8_termCountOf_0 : decode cX8_termCountOf 0 = .ok (.aload_n 0, 1) := by decide +kernel
theorem dX8_termCountOf_1 : decode cX8_termCountOf 1 = .ok (.iload_n 1, 1) := by decide +kernel
theorem dX8_termCountOf_2 : decode cX8_termCountOf 2 = .ok (.invokevirtual 40, 3) := by decide +kernel
theorem dX8_termCountOf_5 : decode cX8_termCountOf 5 = .ok (.ifCond .eq 12, 3) := by decide +kernel
theorem dX8_termCountOf_8 : decode cX8_termCountOf 8 = .ok (.aload_n 0, 1) := by decide +kernel
theorem dX8_termCountOf_9 : decode cX8_termCountOf 9 = .ok (.getfield 24, 3) := by decide +kernel
theorem dX8_termCountOf_12 : decode cX8_termCountOf 12 = .ok (.iload_n 1, 1) := by decide +kernel
theorem dX8_termCountOf_13 : decode cX8_termCountOf 13 = .ok (.iaload, 1) := by decide +kernel
theorem dX8_termCountOf_14 : decode cX8_termCountOf 14 = .ok (.goto 4, 3) := by decide +kernel
theorem dX8_termCountOf_17 : decode cX8_termCountOf 17 = .ok (.iconst 0, 1) := by decide +kernel
theorem dX8_termCountOf_18 : decode cX8_termCountOf 18 = .ok (.ireturn, 1) := by decide +kernel
theorem dX8_toldTerm_0 : decode cX8_toldTerm 0 = .ok (.aload_n 0, 1) := by decide +kernel
theorem dX8_toldTerm_1 : decode cX8_toldTerm 1 = .ok (.iload_n 1, 1) := by decide +kernel
theorem dX8_toldTerm_2 : decode cX8_toldTerm 2 = .ok (.invokevirtual 40, 3) := by decide +kernel
theorem dX8_toldTerm_5 : decode cX8_toldTerm 5 = .ok (.ifCond .eq 37, 3) := by decide +kernel
theorem dX8_toldTerm_8 : decode cX8_toldTerm 8 = .ok (.iload_n 2, 1) := by decide +kernel
theorem dX8_toldTerm_9 : decode cX8_toldTerm 9 = .ok (.ifCond .lt 33, 3) := by decide +kernel
theorem dX8_toldTerm_12 : decode cX8_toldTerm 12 = .ok (.iload_n 2, 1) := by decide +kernel
theorem dX8_toldTerm_13 : decode cX8_toldTerm 13 = .ok (.aload_n 0, 1) := by decide +kernel
theorem dX8_toldTerm_14 : decode cX8_toldTerm 14 = .ok (.getfield 24, 3) := by decide +kernel
theorem dX8_toldTerm_17 : decode cX8_toldTerm 17 = .ok (.iload_n 1, 1) := by decide +kernel
theorem dX8_toldTerm_18 : decode cX8_toldTerm 18 = .ok (.iaload, 1) := by decide +kernel
theorem dX8_toldTerm_19 : decode cX8_toldTerm 19 = .ok (.if_icmp .ge 23, 3) := by decide +kernel
theorem dX8_toldTerm_22 : decode cX8_toldTerm 22 = .ok (.iload_n 2, 1) := by decide +kernel
theorem dX8_toldTerm_23 : decode cX8_toldTerm 23 = .ok (.bipush 8, 2) := by decide +kernel
theorem dX8_toldTerm_25 : decode cX8_toldTerm 25 = .ok (.if_icmp .ge 17, 3) := by decide +kernel
theorem dX8_toldTerm_28 : decode cX8_toldTerm 28 = .ok (.aload_n 0, 1) := by decide +kernel
theorem dX8_toldTerm_29 : decode cX8_toldTerm 29 = .ok (.getfield 27, 3) := by decide +kernel
theorem dX8_toldTerm_32 : decode cX8_toldTerm 32 = .ok (.iload_n 1, 1) := by decide +kernel
theorem dX8_toldTerm_33 : decode cX8_toldTerm 33 = .ok (.bipush 8, 2) := by decide +kernel
theorem dX8_toldTerm_35 : decode cX8_toldTerm 35 = .ok (.imul, 1) := by decide +kernel
theorem dX8_toldTerm_36 : decode cX8_toldTerm 36 = .ok (.iload_n 2, 1) := by decide +kernel
theorem dX8_toldTerm_37 : decode cX8_toldTerm 37 = .ok (.iadd, 1) := by decide +kernel
theorem dX8_toldTerm_38 : decode cX8_toldTerm 38 = .ok (.iaload, 1) := by decide +kernel
theorem dX8_toldTerm_39 : decode cX8_toldTerm 39 = .ok (.goto 4, 3) := by decide +kernel
theorem dX8_toldTerm_42 : decode cX8_toldTerm 42 = .ok (.iconst (-1), 1) := by decide +kernel
theorem dX8_toldTerm_43 : decode cX8_toldTerm 43 = .ok (.ireturn, 1) := by decide +kernel
theorem dX8_insert_0 : decode cX8_insert 0 = .ok (.aload_n 0, 1) := by decide +kernel
theorem dX8_insert_1 : decode cX8_insert 1 = .ok (.invokevirtual 44, 3) := by decide +kernel
theorem dX8_insert_4 : decode cX8_insert 4 = .ok (.ifCond .eq 5, 3) := by decide +kernel
theorem dX8_insert_7 : decode cX8_insert 7 = .ok (.iconst (-1), 1) := by decide +kernel
theorem dX8_insert_8 : decode cX8_insert 8 = .ok (.ireturn, 1) := by decide +kernel
theorem dX8_insert_9 : decode cX8_insert 9 = .ok (.aload_n 0, 1) := by decide +kernel
theorem dX8_insert_10 : decode cX8_insert 10 = .ok (.iload_n 1, 1) := by decide +kernel
theorem dX8_insert_11 : decode cX8_insert 11 = .ok (.invokevirtual 48, 3) := by decide +kernel
theorem dX8_insert_14 : decode cX8_insert 14 = .ok (.istore 5, 2) := by decide +kernel
theorem dX8_insert_16 : decode cX8_insert 16 = .ok (.aload_n 0, 1) := by decide +kernel
theorem dX8_insert_17 : decode cX8_insert 17 = .ok (.iload 5, 2) := by decide +kernel
theorem dX8_insert_19 : decode cX8_insert 19 = .ok (.iload 5, 2) := by decide +kernel
theorem dX8_insert_21 : decode cX8_insert 21 = .ok (.iconst 1, 1) := by decide +kernel
theorem dX8_insert_22 : decode cX8_insert 22 = .ok (.iadd, 1) := by decide +kernel
theorem dX8_insert_23 : decode cX8_insert 23 = .ok (.invokevirtual 52, 3) := by decide +kernel
theorem dX8_insert_26 : decode cX8_insert 26 = .ok (.aload_n 0, 1) := by decide +kernel
theorem dX8_insert_27 : decode cX8_insert 27 = .ok (.dup, 1) := by decide +kernel
theorem dX8_insert_28 : decode cX8_insert 28 = .ok (.getfield 36, 3) := by decide +kernel
theorem dX8_insert_31 : decode cX8_insert 31 = .ok (.iconst 1, 1) := by decide +kernel
theorem dX8_insert_32 : decode cX8_insert 32 = .ok (.iadd, 1) := by decide +kernel
theorem dX8_insert_33 : decode cX8_insert 33 = .ok (.putfield 36, 3) := by decide +kernel
theorem dX8_insert_36 : decode cX8_insert 36 = .ok (.aload_n 0, 1) := by decide +kernel
theorem dX8_insert_37 : decode cX8_insert 37 = .ok (.getfield 9, 3) := by decide +kernel
theorem dX8_insert_40 : decode cX8_insert 40 = .ok (.iload 5, 2) := by decide +kernel
theorem dX8_insert_42 : decode cX8_insert 42 = .ok (.iload_n 1, 1) := by decide +kernel
theorem dX8_insert_43 : decode cX8_insert 43 = .ok (.iastore, 1) := by decide +kernel
theorem dX8_insert_44 : decode cX8_insert 44 = .ok (.aload_n 0, 1) := by decide +kernel
theorem dX8_insert_45 : decode cX8_insert 45 = .ok (.getfield 15, 3) := by decide +kernel
theorem dX8_insert_48 : decode cX8_insert 48 = .ok (.iload 5, 2) := by decide +kernel
theorem dX8_insert_50 : decode cX8_insert 50 = .ok (.iload_n 2, 1) := by decide +kernel
theorem dX8_insert_51 : decode cX8_insert 51 = .ok (.iastore, 1) := by decide +kernel
theorem dX8_insert_52 : decode cX8_insert 52 = .ok (.aload_n 0, 1) := by decide +kernel
theorem dX8_insert_53 : decode cX8_insert 53 = .ok (.getfield 18, 3) := by decide +kernel
theorem dX8_insert_56 : decode cX8_insert 56 = .ok (.iload 5, 2) := by decide +kernel
theorem dX8_insert_58 : decode cX8_insert 58 = .ok (.iload_n 3, 1) := by decide +kernel
theorem dX8_insert_59 : decode cX8_insert 59 = .ok (.iastore, 1) := by decide +kernel
theorem dX8_insert_60 : decode cX8_insert 60 = .ok (.aload_n 0, 1) := by decide +kernel
theorem dX8_insert_61 : decode cX8_insert 61 = .ok (.getfield 21, 3) := by decide +kernel
theorem dX8_insert_64 : decode cX8_insert 64 = .ok (.iload 5, 2) := by decide +kernel
theorem dX8_insert_66 : decode cX8_insert 66 = .ok (.iload 4, 2) := by decide +kernel
theorem dX8_insert_68 : decode cX8_insert 68 = .ok (.iastore, 1) := by decide +kernel
theorem dX8_insert_69 : decode cX8_insert 69 = .ok (.aload_n 0, 1) := by decide +kernel
theorem dX8_insert_70 : decode cX8_insert 70 = .ok (.getfield 24, 3) := by decide +kernel
theorem dX8_insert_73 : decode cX8_insert 73 = .ok (.iload 5, 2) := by decide +kernel
theorem dX8_insert_75 : decode cX8_insert 75 = .ok (.iconst 0, 1) := by decide +kernel
theorem dX8_insert_76 : decode cX8_insert 76 = .ok (.iastore, 1) := by decide +kernel
theorem dX8_insert_77 : decode cX8_insert 77 = .ok (.iload 5, 2) := by decide +kernel
theorem dX8_insert_79 : decode cX8_insert 79 = .ok (.ireturn, 1) := by decide +kernel
theorem dX8_delete_0 : decode cX8_delete 0 = .ok (.aload_n 0, 1) := by decide +kernel
theorem dX8_delete_1 : decode cX8_delete 1 = .ok (.iload_n 1, 1) := by decide +kernel
theorem dX8_delete_2 : decode cX8_delete 2 = .ok (.invokevirtual 40, 3) := by decide +kernel
theorem dX8_delete_5 : decode cX8_delete 5 = .ok (.ifCond .eq 21, 3) := by decide +kernel
theorem dX8_delete_8 : decode cX8_delete 8 = .ok (.aload_n 0, 1) := by decide +kernel
theorem dX8_delete_9 : decode cX8_delete 9 = .ok (.iload_n 1, 1) := by decide +kernel
theorem dX8_delete_10 : decode cX8_delete 10 = .ok (.iconst 1, 1) := by decide +kernel
theorem dX8_delete_11 : decode cX8_delete 11 = .ok (.iadd, 1) := by decide +kernel
theorem dX8_delete_12 : decode cX8_delete 12 = .ok (.iload_n 1, 1) := by decide +kernel
theorem dX8_delete_13 : decode cX8_delete 13 = .ok (.invokevirtual 52, 3) := by decide +kernel
theorem dX8_delete_16 : decode cX8_delete 16 = .ok (.aload_n 0, 1) := by decide +kernel
theorem dX8_delete_17 : decode cX8_delete 17 = .ok (.dup, 1) := by decide +kernel
theorem dX8_delete_18 : decode cX8_delete 18 = .ok (.getfield 36, 3) := by decide +kernel
theorem dX8_delete_21 : decode cX8_delete 21 = .ok (.iconst 1, 1) := by decide +kernel
theorem dX8_delete_22 : decode cX8_delete 22 = .ok (.isub, 1) := by decide +kernel
theorem dX8_delete_23 : decode cX8_delete 23 = .ok (.putfield 36, 3) := by decide +kernel
theorem dX8_delete_26 : decode cX8_delete 26 = .ok (.return_, 1) := by decide +kernel
theorem dX8_placeFor_0 : decode cX8_placeFor 0 = .ok (.iconst 0, 1) := by decide +kernel
theorem dX8_placeFor_1 : decode cX8_placeFor 1 = .ok (.istore_n 2, 1) := by decide +kernel
theorem dX8_placeFor_2 : decode cX8_placeFor 2 = .ok (.iload_n 2, 1) := by decide +kernel
theorem dX8_placeFor_3 : decode cX8_placeFor 3 = .ok (.aload_n 0, 1) := by decide +kernel
theorem dX8_placeFor_4 : decode cX8_placeFor 4 = .ok (.getfield 36, 3) := by decide +kernel
theorem dX8_placeFor_7 : decode cX8_placeFor 7 = .ok (.if_icmp .ge 25, 3) := by decide +kernel
theorem dX8_placeFor_10 : decode cX8_placeFor 10 = .ok (.iload_n 2, 1) := by decide +kernel
theorem dX8_placeFor_11 : decode cX8_placeFor 11 = .ok (.bipush 19, 2) := by decide +kernel
theorem dX8_placeFor_13 : decode cX8_placeFor 13 = .ok (.if_icmp .ge 19, 3) := by decide +kernel
theorem dX8_placeFor_16 : decode cX8_placeFor 16 = .ok (.aload_n 0, 1) := by decide +kernel
theorem dX8_placeFor_17 : decode cX8_placeFor 17 = .ok (.getfield 9, 3) := by decide +kernel
theorem dX8_placeFor_20 : decode cX8_placeFor 20 = .ok (.iload_n 2, 1) := by decide +kernel
theorem dX8_placeFor_21 : decode cX8_placeFor 21 = .ok (.iaload, 1) := by decide +kernel
theorem dX8_placeFor_22 : decode cX8_placeFor 22 = .ok (.iload_n 1, 1) := by decide +kernel
theorem dX8_placeFor_23 : decode cX8_placeFor 23 = .ok (.if_icmp .gt 9, 3) := by decide +kernel
theorem dX8_placeFor_26 : decode cX8_placeFor 26 = .ok (.iinc 2 1, 3) := by decide +kernel
theorem dX8_placeFor_29 : decode cX8_placeFor 29 = .ok (.goto (-27), 3) := by decide +kernel
theorem dX8_placeFor_32 : decode cX8_placeFor 32 = .ok (.iload_n 2, 1) := by decide +kernel
theorem dX8_placeFor_33 : decode cX8_placeFor 33 = .ok (.ireturn, 1) := by decide +kernel
theorem dX8_moveRows_0 : decode cX8_moveRows 0 = .ok (.aload_n 0, 1) := by decide +kernel
theorem dX8_moveRows_1 : decode cX8_moveRows 1 = .ok (.getfield 36, 3) := by decide +kernel
theorem dX8_moveRows_4 : decode cX8_moveRows 4 = .ok (.iload_n 1, 1) := by decide +kernel
theorem dX8_moveRows_5 : decode cX8_moveRows 5 = .ok (.isub, 1) := by decide +kernel
theorem dX8_moveRows_6 : decode cX8_moveRows 6 = .ok (.istore_n 3, 1) := by decide +kernel
theorem dX8_moveRows_7 : decode cX8_moveRows 7 = .ok (.iload_n 1, 1) := by decide +kernel
theorem dX8_moveRows_8 : decode cX8_moveRows 8 = .ok (.ifCond .lt 27, 3) := by decide +kernel
theorem dX8_moveRows_11 : decode cX8_moveRows 11 = .ok (.iload_n 2, 1) := by decide +kernel
theorem dX8_moveRows_12 : decode cX8_moveRows 12 = .ok (.ifCond .lt 23, 3) := by decide +kernel
theorem dX8_moveRows_15 : decode cX8_moveRows 15 = .ok (.iload_n 3, 1) := by decide +kernel
theorem dX8_moveRows_16 : decode cX8_moveRows 16 = .ok (.ifCond .lt 19, 3) := by decide +kernel
theorem dX8_moveRows_19 : decode cX8_moveRows 19 = .ok (.iload_n 1, 1) := by decide +kernel
theorem dX8_moveRows_20 : decode cX8_moveRows 20 = .ok (.iload_n 3, 1) := by decide +kernel
theorem dX8_moveRows_21 : decode cX8_moveRows 21 = .ok (.iadd, 1) := by decide +kernel
theorem dX8_moveRows_22 : decode cX8_moveRows 22 = .ok (.bipush 20, 2) := by decide +kernel
theorem dX8_moveRows_24 : decode cX8_moveRows 24 = .ok (.if_icmp .gt 11, 3) := by decide +kernel
theorem dX8_moveRows_27 : decode cX8_moveRows 27 = .ok (.iload_n 2, 1) := by decide +kernel
theorem dX8_moveRows_28 : decode cX8_moveRows 28 = .ok (.iload_n 3, 1) := by decide +kernel
theorem dX8_moveRows_29 : decode cX8_moveRows 29 = .ok (.iadd, 1) := by decide +kernel
theorem dX8_moveRows_30 : decode cX8_moveRows 30 = .ok (.bipush 20, 2) := by decide +kernel
theorem dX8_moveRows_32 : decode cX8_moveRows 32 = .ok (.if_icmp .le 4, 3) := by decide +kernel
theorem dX8_moveRows_35 : decode cX8_moveRows 35 = .ok (.return_, 1) := by decide +kernel
theorem dX8_moveRows_36 : decode cX8_moveRows 36 = .ok (.aload_n 0, 1) := by decide +kernel
theorem dX8_moveRows_37 : decode cX8_moveRows 37 = .ok (.getfield 9, 3) := by decide +kernel
theorem dX8_moveRows_40 : decode cX8_moveRows 40 = .ok (.iload_n 1, 1) := by decide +kernel
theorem dX8_moveRows_41 : decode cX8_moveRows 41 = .ok (.aload_n 0, 1) := by decide +kernel
theorem dX8_moveRows_42 : decode cX8_moveRows 42 = .ok (.getfield 9, 3) := by decide +kernel
theorem dX8_moveRows_45 : decode cX8_moveRows 45 = .ok (.iload_n 2, 1) := by decide +kernel
theorem dX8_moveRows_46 : decode cX8_moveRows 46 = .ok (.iload_n 3, 1) := by decide +kernel
theorem dX8_moveRows_47 : decode cX8_moveRows 47 = .ok (.invokestatic 30, 3) := by decide +kernel
theorem dX8_moveRows_50 : decode cX8_moveRows 50 = .ok (.aload_n 0, 1) := by decide +kernel
theorem dX8_moveRows_51 : decode cX8_moveRows 51 = .ok (.getfield 15, 3) := by decide +kernel
theorem dX8_moveRows_54 : decode cX8_moveRows 54 = .ok (.iload_n 1, 1) := by decide +kernel
theorem dX8_moveRows_55 : decode cX8_moveRows 55 = .ok (.aload_n 0, 1) := by decide +kernel
theorem dX8_moveRows_56 : decode cX8_moveRows 56 = .ok (.getfield 15, 3) := by decide +kernel
theorem dX8_moveRows_59 : decode cX8_moveRows 59 = .ok (.iload_n 2, 1) := by decide +kernel
theorem dX8_moveRows_60 : decode cX8_moveRows 60 = .ok (.iload_n 3, 1) := by decide +kernel
theorem dX8_moveRows_61 : decode cX8_moveRows 61 = .ok (.invokestatic 30, 3) := by decide +kernel
theorem dX8_moveRows_64 : decode cX8_moveRows 64 = .ok (.aload_n 0, 1) := by decide +kernel
theorem dX8_moveRows_65 : decode cX8_moveRows 65 = .ok (.getfield 18, 3) := by decide +kernel
theorem dX8_moveRows_68 : decode cX8_moveRows 68 = .ok (.iload_n 1, 1) := by decide +kernel
theorem dX8_moveRows_69 : decode cX8_moveRows 69 = .ok (.aload_n 0, 1) := by decide +kernel
theorem dX8_moveRows_70 : decode cX8_moveRows 70 = .ok (.getfield 18, 3) := by decide +kernel
theorem dX8_moveRows_73 : decode cX8_moveRows 73 = .ok (.iload_n 2, 1) := by decide +kernel
theorem dX8_moveRows_74 : decode cX8_moveRows 74 = .ok (.iload_n 3, 1) := by decide +kernel
theorem dX8_moveRows_75 : decode cX8_moveRows 75 = .ok (.invokestatic 30, 3) := by decide +kernel
theorem dX8_moveRows_78 : decode cX8_moveRows 78 = .ok (.aload_n 0, 1) := by decide +kernel
theorem dX8_moveRows_79 : decode cX8_moveRows 79 = .ok (.getfield 21, 3) := by decide +kernel
theorem dX8_moveRows_82 : decode cX8_moveRows 82 = .ok (.iload_n 1, 1) := by decide +kernel
theorem dX8_moveRows_83 : decode cX8_moveRows 83 = .ok (.aload_n 0, 1) := by decide +kernel
theorem dX8_moveRows_84 : decode cX8_moveRows 84 = .ok (.getfield 21, 3) := by decide +kernel
theorem dX8_moveRows_87 : decode cX8_moveRows 87 = .ok (.iload_n 2, 1) := by decide +kernel
theorem dX8_moveRows_88 : decode cX8_moveRows 88 = .ok (.iload_n 3, 1) := by decide +kernel
theorem dX8_moveRows_89 : decode cX8_moveRows 89 = .ok (.invokestatic 30, 3) := by decide +kernel
theorem dX8_moveRows_92 : decode cX8_moveRows 92 = .ok (.aload_n 0, 1) := by decide +kernel
theorem dX8_moveRows_93 : decode cX8_moveRows 93 = .ok (.getfield 24, 3) := by decide +kernel
theorem dX8_moveRows_96 : decode cX8_moveRows 96 = .ok (.iload_n 1, 1) := by decide +kernel
theorem dX8_moveRows_97 : decode cX8_moveRows 97 = .ok (.aload_n 0, 1) := by decide +kernel
theorem dX8_moveRows_98 : decode cX8_moveRows 98 = .ok (.getfield 24, 3) := by decide +kernel
theorem dX8_moveRows_101 : decode cX8_moveRows 101 = .ok (.iload_n 2, 1) := by decide +kernel
theorem dX8_moveRows_102 : decode cX8_moveRows 102 = .ok (.iload_n 3, 1) := by decide +kernel
theorem dX8_moveRows_103 : decode cX8_moveRows 103 = .ok (.invokestatic 30, 3) := by decide +kernel
theorem dX8_moveRows_106 : decode cX8_moveRows 106 = .ok (.aload_n 0, 1) := by decide +kernel
theorem dX8_moveRows_107 : decode cX8_moveRows 107 = .ok (.getfield 27, 3) := by decide +kernel
theorem dX8_moveRows_110 : decode cX8_moveRows 110 = .ok (.iload_n 1, 1) := by decide +kernel
theorem dX8_moveRows_111 : decode cX8_moveRows 111 = .ok (.bipush 8, 2) := by decide +kernel
theorem dX8_moveRows_113 : decode cX8_moveRows 113 = .ok (.imul, 1) := by decide +kernel
theorem dX8_moveRows_114 : decode cX8_moveRows 114 = .ok (.aload_n 0, 1) := by decide +kernel
theorem dX8_moveRows_115 : decode cX8_moveRows 115 = .ok (.getfield 27, 3) := by decide +kernel
theorem dX8_moveRows_118 : decode cX8_moveRows 118 = .ok (.iload_n 2, 1) := by decide +kernel
theorem dX8_moveRows_119 : decode cX8_moveRows 119 = .ok (.bipush 8, 2) := by decide +kernel
theorem dX8_moveRows_121 : decode cX8_moveRows 121 = .ok (.imul, 1) := by decide +kernel
theorem dX8_moveRows_122 : decode cX8_moveRows 122 = .ok (.iload_n 3, 1) := by decide +kernel
theorem dX8_moveRows_123 : decode cX8_moveRows 123 = .ok (.bipush 8, 2) := by decide +kernel
theorem dX8_moveRows_125 : decode cX8_moveRows 125 = .ok (.imul, 1) := by decide +kernel
theorem dX8_moveRows_126 : decode cX8_moveRows 126 = .ok (.invokestatic 30, 3) := by decide +kernel
theorem dX8_moveRows_129 : decode cX8_moveRows 129 = .ok (.return_, 1) := by decide +kernel
theorem dX8_endAt_0 : decode cX8_endAt 0 = .ok (.aload_n 0, 1) := by decide +kernel
theorem dX8_endAt_1 : decode cX8_endAt 1 = .ok (.iload_n 1, 1) := by decide +kernel
theorem dX8_endAt_2 : decode cX8_endAt 2 = .ok (.invokevirtual 40, 3) := by decide +kernel
theorem dX8_endAt_5 : decode cX8_endAt 5 = .ok (.ifCond .eq 10, 3) := by decide +kernel
theorem dX8_endAt_8 : decode cX8_endAt 8 = .ok (.aload_n 0, 1) := by decide +kernel
theorem dX8_endAt_9 : decode cX8_endAt 9 = .ok (.getfield 15, 3) := by decide +kernel
theorem dX8_endAt_12 : decode cX8_endAt 12 = .ok (.iload_n 1, 1) := by decide +kernel
theorem dX8_endAt_13 : decode cX8_endAt 13 = .ok (.iload_n 2, 1) := by decide +kernel
theorem dX8_endAt_14 : decode cX8_endAt 14 = .ok (.iastore, 1) := by decide +kernel
theorem dX8_endAt_15 : decode cX8_endAt 15 = .ok (.return_, 1) := by decide +kernel
theorem dX8_own_0 : decode cX8_own 0 = .ok (.aload_n 0, 1) := by decide +kernel
theorem dX8_own_1 : decode cX8_own 1 = .ok (.iload_n 1, 1) := by decide +kernel
theorem dX8_own_2 : decode cX8_own 2 = .ok (.invokevirtual 40, 3) := by decide +kernel
theorem dX8_own_5 : decode cX8_own 5 = .ok (.ifCond .eq 10, 3) := by decide +kernel
theorem dX8_own_8 : decode cX8_own 8 = .ok (.aload_n 0, 1) := by decide +kernel
theorem dX8_own_9 : decode cX8_own 9 = .ok (.getfield 21, 3) := by decide +kernel
theorem dX8_own_12 : decode cX8_own 12 = .ok (.iload_n 1, 1) := by decide +kernel
theorem dX8_own_13 : decode cX8_own 13 = .ok (.iload_n 2, 1) := by decide +kernel
theorem dX8_own_14 : decode cX8_own 14 = .ok (.iastore, 1) := by decide +kernel
theorem dX8_own_15 : decode cX8_own 15 = .ok (.return_, 1) := by decide +kernel
theorem dX8_isFullOfTerms_0 : decode cX8_isFullOfTerms 0 = .ok (.aload_n 0, 1) := by decide +kernel
theorem dX8_isFullOfTerms_1 : decode cX8_isFullOfTerms 1 = .ok (.iload_n 1, 1) := by decide +kernel
theorem dX8_isFullOfTerms_2 : decode cX8_isFullOfTerms 2 = .ok (.invokevirtual 56, 3) := by decide +kernel
theorem dX8_isFullOfTerms_5 : decode cX8_isFullOfTerms 5 = .ok (.bipush 8, 2) := by decide +kernel
theorem dX8_isFullOfTerms_7 : decode cX8_isFullOfTerms 7 = .ok (.if_icmp .lt 7, 3) := by decide +kernel
theorem dX8_isFullOfTerms_10 : decode cX8_isFullOfTerms 10 = .ok (.iconst 1, 1) := by decide +kernel
theorem dX8_isFullOfTerms_11 : decode cX8_isFullOfTerms 11 = .ok (.goto 4, 3) := by decide +kernel
theorem dX8_isFullOfTerms_14 : decode cX8_isFullOfTerms 14 = .ok (.iconst 0, 1) := by decide +kernel
theorem dX8_isFullOfTerms_15 : decode cX8_isFullOfTerms 15 = .ok (.ireturn, 1) := by decide +kernel
theorem dX8_appendTerm_0 : decode cX8_appendTerm 0 = .ok (.aload_n 0, 1) := by decide +kernel
theorem dX8_appendTerm_1 : decode cX8_appendTerm 1 = .ok (.iload_n 1, 1) := by decide +kernel
theorem dX8_appendTerm_2 : decode cX8_appendTerm 2 = .ok (.invokevirtual 40, 3) := by decide +kernel
theorem dX8_appendTerm_5 : decode cX8_appendTerm 5 = .ok (.ifCond .eq 45, 3) := by decide +kernel
theorem dX8_appendTerm_8 : decode cX8_appendTerm 8 = .ok (.aload_n 0, 1) := by decide +kernel
theorem dX8_appendTerm_9 : decode cX8_appendTerm 9 = .ok (.getfield 24, 3) := by decide +kernel
theorem dX8_appendTerm_12 : decode cX8_appendTerm 12 = .ok (.iload_n 1, 1) := by decide +kernel
theorem dX8_appendTerm_13 : decode cX8_appendTerm 13 = .ok (.iaload, 1) := by decide +kernel
theorem dX8_appendTerm_14 : decode cX8_appendTerm 14 = .ok (.iconst 0, 1) := by decide +kernel
theorem dX8_appendTerm_15 : decode cX8_appendTerm 15 = .ok (.bipush 7, 2) := by decide +kernel
theorem dX8_appendTerm_17 : decode cX8_appendTerm 17 = .ok (.invokestatic 59, 3) := by decide +kernel
theorem dX8_appendTerm_20 : decode cX8_appendTerm 20 = .ok (.ifCond .eq 30, 3) := by decide +kernel
theorem dX8_appendTerm_23 : decode cX8_appendTerm 23 = .ok (.aload_n 0, 1) := by decide +kernel
theorem dX8_appendTerm_24 : decode cX8_appendTerm 24 = .ok (.getfield 27, 3) := by decide +kernel
theorem dX8_appendTerm_27 : decode cX8_appendTerm 27 = .ok (.iload_n 1, 1) := by decide +kernel
theorem dX8_appendTerm_28 : decode cX8_appendTerm 28 = .ok (.bipush 8, 2) := by decide +kernel
theorem dX8_appendTerm_30 : decode cX8_appendTerm 30 = .ok (.imul, 1) := by decide +kernel
theorem dX8_appendTerm_31 : decode cX8_appendTerm 31 = .ok (.aload_n 0, 1) := by decide +kernel
theorem dX8_appendTerm_32 : decode cX8_appendTerm 32 = .ok (.getfield 24, 3) := by decide +kernel
theorem dX8_appendTerm_35 : decode cX8_appendTerm 35 = .ok (.iload_n 1, 1) := by decide +kernel
theorem dX8_appendTerm_36 : decode cX8_appendTerm 36 = .ok (.iaload, 1) := by decide +kernel
theorem dX8_appendTerm_37 : decode cX8_appendTerm 37 = .ok (.iadd, 1) := by decide +kernel
theorem dX8_appendTerm_38 : decode cX8_appendTerm 38 = .ok (.iload_n 2, 1) := by decide +kernel
theorem dX8_appendTerm_39 : decode cX8_appendTerm 39 = .ok (.iastore, 1) := by decide +kernel
theorem dX8_appendTerm_40 : decode cX8_appendTerm 40 = .ok (.aload_n 0, 1) := by decide +kernel
theorem dX8_appendTerm_41 : decode cX8_appendTerm 41 = .ok (.getfield 24, 3) := by decide +kernel
theorem dX8_appendTerm_44 : decode cX8_appendTerm 44 = .ok (.iload_n 1, 1) := by decide +kernel
theorem dX8_appendTerm_45 : decode cX8_appendTerm 45 = .ok (.dup2, 1) := by decide +kernel
theorem dX8_appendTerm_46 : decode cX8_appendTerm 46 = .ok (.iaload, 1) := by decide +kernel
theorem dX8_appendTerm_47 : decode cX8_appendTerm 47 = .ok (.iconst 1, 1) := by decide +kernel
theorem dX8_appendTerm_48 : decode cX8_appendTerm 48 = .ok (.iadd, 1) := by decide +kernel
theorem dX8_appendTerm_49 : decode cX8_appendTerm 49 = .ok (.iastore, 1) := by decide +kernel
theorem dX8_appendTerm_50 : decode cX8_appendTerm 50 = .ok (.return_, 1) := by decide +kernel
theorem dX8_passTerms_0 : decode cX8_passTerms 0 = .ok (.aload_n 0, 1) := by decide +kernel
theorem dX8_passTerms_1 : decode cX8_passTerms 1 = .ok (.iload_n 1, 1) := by decide +kernel
theorem dX8_passTerms_2 : decode cX8_passTerms 2 = .ok (.invokevirtual 56, 3) := by decide +kernel
theorem dX8_passTerms_5 : decode cX8_passTerms 5 = .ok (.istore 4, 2) := by decide +kernel
theorem dX8_passTerms_7 : decode cX8_passTerms 7 = .ok (.aload_n 0, 1) := by decide +kernel
theorem dX8_passTerms_8 : decode cX8_passTerms 8 = .ok (.iload_n 1, 1) := by decide +kernel
theorem dX8_passTerms_9 : decode cX8_passTerms 9 = .ok (.invokevirtual 40, 3) := by decide +kernel
theorem dX8_passTerms_12 : decode cX8_passTerms 12 = .ok (.ifCond .eq 13, 3) := by decide +kernel
theorem dX8_passTerms_15 : decode cX8_passTerms 15 = .ok (.iload_n 2, 1) := by decide +kernel
theorem dX8_passTerms_16 : decode cX8_passTerms 16 = .ok (.iconst 0, 1) := by decide +kernel
theorem dX8_passTerms_17 : decode cX8_passTerms 17 = .ok (.iload 4, 2) := by decide +kernel
theorem dX8_passTerms_19 : decode cX8_passTerms 19 = .ok (.invokestatic 59, 3) := by decide +kernel
theorem dX8_passTerms_22 : decode cX8_passTerms 22 = .ok (.ifCond .ne 4, 3) := by decide +kernel
theorem dX8_passTerms_25 : decode cX8_passTerms 25 = .ok (.return_, 1) := by decide +kernel
theorem dX8_passTerms_26 : decode cX8_passTerms 26 = .ok (.iload_n 2, 1) := by decide +kernel
theorem dX8_passTerms_27 : decode cX8_passTerms 27 = .ok (.istore 5, 2) := by decide +kernel
theorem dX8_passTerms_29 : decode cX8_passTerms 29 = .ok (.iload 5, 2) := by decide +kernel
theorem dX8_passTerms_31 : decode cX8_passTerms 31 = .ok (.iload 4, 2) := by decide +kernel
theorem dX8_passTerms_33 : decode cX8_passTerms 33 = .ok (.if_icmp .ge 21, 3) := by decide +kernel
theorem dX8_passTerms_36 : decode cX8_passTerms 36 = .ok (.aload_n 0, 1) := by decide +kernel
theorem dX8_passTerms_37 : decode cX8_passTerms 37 = .ok (.iload_n 3, 1) := by decide +kernel
theorem dX8_passTerms_38 : decode cX8_passTerms 38 = .ok (.aload_n 0, 1) := by decide +kernel
theorem dX8_passTerms_39 : decode cX8_passTerms 39 = .ok (.iload_n 1, 1) := by decide +kernel
theorem dX8_passTerms_40 : decode cX8_passTerms 40 = .ok (.iload 5, 2) := by decide +kernel
theorem dX8_passTerms_42 : decode cX8_passTerms 42 = .ok (.invokevirtual 63, 3) := by decide +kernel
theorem dX8_passTerms_45 : decode cX8_passTerms 45 = .ok (.invokevirtual 67, 3) := by decide +kernel
theorem dX8_passTerms_48 : decode cX8_passTerms 48 = .ok (.iinc 5 1, 3) := by decide +kernel
theorem dX8_passTerms_51 : decode cX8_passTerms 51 = .ok (.goto (-22), 3) := by decide +kernel
theorem dX8_passTerms_54 : decode cX8_passTerms 54 = .ok (.aload_n 0, 1) := by decide +kernel
theorem dX8_passTerms_55 : decode cX8_passTerms 55 = .ok (.getfield 24, 3) := by decide +kernel
theorem dX8_passTerms_58 : decode cX8_passTerms 58 = .ok (.iload_n 1, 1) := by decide +kernel
theorem dX8_passTerms_59 : decode cX8_passTerms 59 = .ok (.iload_n 2, 1) := by decide +kernel
theorem dX8_passTerms_60 : decode cX8_passTerms 60 = .ok (.iastore, 1) := by decide +kernel
theorem dX8_passTerms_61 : decode cX8_passTerms 61 = .ok (.return_, 1) := by decide +kernel
theorem dX8_passTurns_0 : decode cX8_passTurns 0 = .ok (.iconst 0, 1) := by decide +kernel
theorem dX8_passTurns_1 : decode cX8_passTurns 1 = .ok (.istore_n 3, 1) := by decide +kernel
theorem dX8_passTurns_2 : decode cX8_passTurns 2 = .ok (.iload_n 3, 1) := by decide +kernel
theorem dX8_passTurns_3 : decode cX8_passTurns 3 = .ok (.aload_n 0, 1) := by decide +kernel
theorem dX8_passTurns_4 : decode cX8_passTurns 4 = .ok (.getfield 36, 3) := by decide +kernel
theorem dX8_passTurns_7 : decode cX8_passTurns 7 = .ok (.if_icmp .ge 32, 3) := by decide +kernel
theorem dX8_passTurns_10 : decode cX8_passTurns 10 = .ok (.iload_n 3, 1) := by decide +kernel
theorem dX8_passTurns_11 : decode cX8_passTurns 11 = .ok (.bipush 20, 2) := by decide +kernel
theorem dX8_passTurns_13 : decode cX8_passTurns 13 = .ok (.if_icmp .ge 26, 3) := by decide +kernel
theorem dX8_passTurns_16 : decode cX8_passTurns 16 = .ok (.aload_n 0, 1) := by decide +kernel
theorem dX8_passTurns_17 : decode cX8_passTurns 17 = .ok (.getfield 21, 3) := by decide +kernel
theorem dX8_passTurns_20 : decode cX8_passTurns 20 = .ok (.iload_n 3, 1) := by decide +kernel
theorem dX8_passTurns_21 : decode cX8_passTurns 21 = .ok (.iaload, 1) := by decide +kernel
theorem dX8_passTurns_22 : decode cX8_passTurns 22 = .ok (.iload_n 1, 1) := by decide +kernel
theorem dX8_passTurns_23 : decode cX8_passTurns 23 = .ok (.if_icmp .ne 10, 3) := by decide +kernel
theorem dX8_passTurns_26 : decode cX8_passTurns 26 = .ok (.aload_n 0, 1) := by decide +kernel
theorem dX8_passTurns_27 : decode cX8_passTurns 27 = .ok (.getfield 21, 3) := by decide +kernel
theorem dX8_passTurns_30 : decode cX8_passTurns 30 = .ok (.iload_n 3, 1) := by decide +kernel
theorem dX8_passTurns_31 : decode cX8_passTurns 31 = .ok (.iload_n 2, 1) := by decide +kernel
theorem dX8_passTurns_32 : decode cX8_passTurns 32 = .ok (.iastore, 1) := by decide +kernel
theorem dX8_passTurns_33 : decode cX8_passTurns 33 = .ok (.iinc 3 1, 3) := by decide +kernel
theorem dX8_passTurns_36 : decode cX8_passTurns 36 = .ok (.goto (-34), 3) := by decide +kernel
theorem dX8_passTurns_39 : decode cX8_passTurns 39 = .ok (.return_, 1) := by decide +kernel
theorem dX8_placesInAll_0 : decode cX8_placesInAll 0 = .ok (.iconst 0, 1) := by decide +kernel
theorem dX8_placesInAll_1 : decode cX8_placesInAll 1 = .ok (.istore_n 1, 1) := by decide +kernel
theorem dX8_placesInAll_2 : decode cX8_placesInAll 2 = .ok (.iconst 0, 1) := by decide +kernel
theorem dX8_placesInAll_3 : decode cX8_placesInAll 3 = .ok (.istore_n 2, 1) := by decide +kernel
theorem dX8_placesInAll_4 : decode cX8_placesInAll 4 = .ok (.iload_n 2, 1) := by decide +kernel
theorem dX8_placesInAll_5 : decode cX8_placesInAll 5 = .ok (.aload_n 0, 1) := by decide +kernel
theorem dX8_placesInAll_6 : decode cX8_placesInAll 6 = .ok (.getfield 36, 3) := by decide +kernel
theorem dX8_placesInAll_9 : decode cX8_placesInAll 9 = .ok (.if_icmp .ge 17, 3) := by decide +kernel
theorem dX8_placesInAll_12 : decode cX8_placesInAll 12 = .ok (.iload_n 1, 1) := by decide +kernel
theorem dX8_placesInAll_13 : decode cX8_placesInAll 13 = .ok (.aload_n 0, 1) := by decide +kernel
theorem dX8_placesInAll_14 : decode cX8_placesInAll 14 = .ok (.iload_n 2, 1) := by decide +kernel
theorem dX8_placesInAll_15 : decode cX8_placesInAll 15 = .ok (.invokevirtual 56, 3) := by decide +kernel
theorem dX8_placesInAll_18 : decode cX8_placesInAll 18 = .ok (.iadd, 1) := by decide +kernel
theorem dX8_placesInAll_19 : decode cX8_placesInAll 19 = .ok (.istore_n 1, 1) := by decide +kernel
theorem dX8_placesInAll_20 : decode cX8_placesInAll 20 = .ok (.iinc 2 1, 3) := by decide +kernel
theorem dX8_placesInAll_23 : decode cX8_placesInAll 23 = .ok (.goto (-19), 3) := by decide +kernel
theorem dX8_placesInAll_26 : decode cX8_placesInAll 26 = .ok (.iload_n 1, 1) := by decide +kernel
theorem dX8_placesInAll_27 : decode cX8_placesInAll 27 = .ok (.ireturn, 1) := by decide +kernel
theorem dX8_turnsOf_0 : decode cX8_turnsOf 0 = .ok (.iconst 0, 1) := by decide +kernel
theorem dX8_turnsOf_1 : decode cX8_turnsOf 1 = .ok (.istore_n 2, 1) := by decide +kernel
theorem dX8_turnsOf_2 : decode cX8_turnsOf 2 = .ok (.iconst 0, 1) := by decide +kernel
theorem dX8_turnsOf_3 : decode cX8_turnsOf 3 = .ok (.istore_n 3, 1) := by decide +kernel
theorem dX8_turnsOf_4 : decode cX8_turnsOf 4 = .ok (.iload_n 3, 1) := by decide +kernel
theorem dX8_turnsOf_5 : decode cX8_turnsOf 5 = .ok (.aload_n 0, 1) := by decide +kernel
theorem dX8_turnsOf_6 : decode cX8_turnsOf 6 = .ok (.getfield 36, 3) := by decide +kernel
theorem dX8_turnsOf_9 : decode cX8_turnsOf 9 = .ok (.if_icmp .ge 28, 3) := by decide +kernel
theorem dX8_turnsOf_12 : decode cX8_turnsOf 12 = .ok (.iload_n 3, 1) := by decide +kernel
theorem dX8_turnsOf_13 : decode cX8_turnsOf 13 = .ok (.bipush 20, 2) := by decide +kernel
theorem dX8_turnsOf_15 : decode cX8_turnsOf 15 = .ok (.if_icmp .ge 22, 3) := by decide +kernel
theorem dX8_turnsOf_18 : decode cX8_turnsOf 18 = .ok (.aload_n 0, 1) := by decide +kernel
theorem dX8_turnsOf_19 : decode cX8_turnsOf 19 = .ok (.getfield 21, 3) := by decide +kernel
theorem dX8_turnsOf_22 : decode cX8_turnsOf 22 = .ok (.iload_n 3, 1) := by decide +kernel
theorem dX8_turnsOf_23 : decode cX8_turnsOf 23 = .ok (.iaload, 1) := by decide +kernel
theorem dX8_turnsOf_24 : decode cX8_turnsOf 24 = .ok (.iload_n 1, 1) := by decide +kernel
theorem dX8_turnsOf_25 : decode cX8_turnsOf 25 = .ok (.if_icmp .ne 6, 3) := by decide +kernel
theorem dX8_turnsOf_28 : decode cX8_turnsOf 28 = .ok (.iinc 2 1, 3) := by decide +kernel
theorem dX8_turnsOf_31 : decode cX8_turnsOf 31 = .ok (.iinc 3 1, 3) := by decide +kernel
theorem dX8_turnsOf_34 : decode cX8_turnsOf 34 = .ok (.goto (-30), 3) := by decide +kernel
theorem dX8_turnsOf_37 : decode cX8_turnsOf 37 = .ok (.iload_n 2, 1) := by decide +kernel
theorem dX8_turnsOf_38 : decode cX8_turnsOf 38 = .ok (.ireturn, 1) := by decide +kernel
theorem dX8_meanPitchOf_0 : decode cX8_meanPitchOf 0 = .ok (.aload_n 0, 1) := by decide +kernel
theorem dX8_meanPitchOf_1 : decode cX8_meanPitchOf 1 = .ok (.iload_n 1, 1) := by decide +kernel
theorem dX8_meanPitchOf_2 : decode cX8_meanPitchOf 2 = .ok (.invokevirtual 70, 3) := by decide +kernel
theorem dX8_meanPitchOf_5 : decode cX8_meanPitchOf 5 = .ok (.istore_n 3, 1) := by decide +kernel
theorem dX8_meanPitchOf_6 : decode cX8_meanPitchOf 6 = .ok (.iload_n 3, 1) := by decide +kernel
theorem dX8_meanPitchOf_7 : decode cX8_meanPitchOf 7 = .ok (.ifCond .le 17, 3) := by decide +kernel
theorem dX8_meanPitchOf_10 : decode cX8_meanPitchOf 10 = .ok (.aload_n 0, 1) := by decide +kernel
theorem dX8_meanPitchOf_11 : decode cX8_meanPitchOf 11 = .ok (.aload_n 0, 1) := by decide +kernel
theorem dX8_meanPitchOf_12 : decode cX8_meanPitchOf 12 = .ok (.getfield 18, 3) := by decide +kernel
theorem dX8_meanPitchOf_15 : decode cX8_meanPitchOf 15 = .ok (.iload_n 1, 1) := by decide +kernel
theorem dX8_meanPitchOf_16 : decode cX8_meanPitchOf 16 = .ok (.invokevirtual 73, 3) := by decide +kernel
theorem dX8_meanPitchOf_19 : decode cX8_meanPitchOf 19 = .ok (.iload_n 3, 1) := by decide +kernel
theorem dX8_meanPitchOf_20 : decode cX8_meanPitchOf 20 = .ok (.idiv, 1) := by decide +kernel
theorem dX8_meanPitchOf_21 : decode cX8_meanPitchOf 21 = .ok (.goto 4, 3) := by decide +kernel
theorem dX8_meanPitchOf_24 : decode cX8_meanPitchOf 24 = .ok (.iload_n 2, 1) := by decide +kernel
theorem dX8_meanPitchOf_25 : decode cX8_meanPitchOf 25 = .ok (.ireturn, 1) := by decide +kernel
theorem dX8_secondsOfAll_0 : decode cX8_secondsOfAll 0 = .ok (.aload_n 0, 1) := by decide +kernel
theorem dX8_secondsOfAll_1 : decode cX8_secondsOfAll 1 = .ok (.aload_n 0, 1) := by decide +kernel
theorem dX8_secondsOfAll_2 : decode cX8_secondsOfAll 2 = .ok (.getfield 15, 3) := by decide +kernel
theorem dX8_secondsOfAll_5 : decode cX8_secondsOfAll 5 = .ok (.iload_n 1, 1) := by decide +kernel
theorem dX8_secondsOfAll_6 : decode cX8_secondsOfAll 6 = .ok (.invokevirtual 73, 3) := by decide +kernel
theorem dX8_secondsOfAll_9 : decode cX8_secondsOfAll 9 = .ok (.aload_n 0, 1) := by decide +kernel
theorem dX8_secondsOfAll_10 : decode cX8_secondsOfAll 10 = .ok (.aload_n 0, 1) := by decide +kernel
theorem dX8_secondsOfAll_11 : decode cX8_secondsOfAll 11 = .ok (.getfield 9, 3) := by decide +kernel
theorem dX8_secondsOfAll_14 : decode cX8_secondsOfAll 14 = .ok (.iload_n 1, 1) := by decide +kernel
theorem dX8_secondsOfAll_15 : decode cX8_secondsOfAll 15 = .ok (.invokevirtual 73, 3) := by decide +kernel
theorem dX8_secondsOfAll_18 : decode cX8_secondsOfAll 18 = .ok (.isub, 1) := by decide +kernel
theorem dX8_secondsOfAll_19 : decode cX8_secondsOfAll 19 = .ok (.ireturn, 1) := by decide +kernel
theorem dX8_termsOfAll_0 : decode cX8_termsOfAll 0 = .ok (.aload_n 0, 1) := by decide +kernel
theorem dX8_termsOfAll_1 : decode cX8_termsOfAll 1 = .ok (.aload_n 0, 1) := by decide +kernel
theorem dX8_termsOfAll_2 : decode cX8_termsOfAll 2 = .ok (.getfield 24, 3) := by decide +kernel
theorem dX8_termsOfAll_5 : decode cX8_termsOfAll 5 = .ok (.iload_n 1, 1) := by decide +kernel
theorem dX8_termsOfAll_6 : decode cX8_termsOfAll 6 = .ok (.invokevirtual 73, 3) := by decide +kernel
theorem dX8_termsOfAll_9 : decode cX8_termsOfAll 9 = .ok (.ireturn, 1) := by decide +kernel
theorem dX8_sumOf_0 : decode cX8_sumOf 0 = .ok (.iconst 0, 1) := by decide +kernel
theorem dX8_sumOf_1 : decode cX8_sumOf 1 = .ok (.istore_n 3, 1) := by decide +kernel
theorem dX8_sumOf_2 : decode cX8_sumOf 2 = .ok (.iconst 0, 1) := by decide +kernel
theorem dX8_sumOf_3 : decode cX8_sumOf 3 = .ok (.istore 4, 2) := by decide +kernel
theorem dX8_sumOf_5 : decode cX8_sumOf 5 = .ok (.iload 4, 2) := by decide +kernel
theorem dX8_sumOf_7 : decode cX8_sumOf 7 = .ok (.aload_n 0, 1) := by decide +kernel
theorem dX8_sumOf_8 : decode cX8_sumOf 8 = .ok (.getfield 36, 3) := by decide +kernel
theorem dX8_sumOf_11 : decode cX8_sumOf 11 = .ok (.if_icmp .ge 41, 3) := by decide +kernel
theorem dX8_sumOf_14 : decode cX8_sumOf 14 = .ok (.iload 4, 2) := by decide +kernel
theorem dX8_sumOf_16 : decode cX8_sumOf 16 = .ok (.bipush 20, 2) := by decide +kernel
theorem dX8_sumOf_18 : decode cX8_sumOf 18 = .ok (.if_icmp .ge 34, 3) := by decide +kernel
theorem dX8_sumOf_21 : decode cX8_sumOf 21 = .ok (.iload 4, 2) := by decide +kernel
theorem dX8_sumOf_23 : decode cX8_sumOf 23 = .ok (.aload_n 1, 1) := by decide +kernel
theorem dX8_sumOf_24 : decode cX8_sumOf 24 = .ok (.arraylength, 1) := by decide +kernel
theorem dX8_sumOf_25 : decode cX8_sumOf 25 = .ok (.if_icmp .ge 27, 3) := by decide +kernel
theorem dX8_sumOf_28 : decode cX8_sumOf 28 = .ok (.aload_n 0, 1) := by decide +kernel
theorem dX8_sumOf_29 : decode cX8_sumOf 29 = .ok (.getfield 21, 3) := by decide +kernel
theorem dX8_sumOf_32 : decode cX8_sumOf 32 = .ok (.iload 4, 2) := by decide +kernel
theorem dX8_sumOf_34 : decode cX8_sumOf 34 = .ok (.iaload, 1) := by decide +kernel
theorem dX8_sumOf_35 : decode cX8_sumOf 35 = .ok (.iload_n 2, 1) := by decide +kernel
theorem dX8_sumOf_36 : decode cX8_sumOf 36 = .ok (.if_icmp .ne 10, 3) := by decide +kernel
theorem dX8_sumOf_39 : decode cX8_sumOf 39 = .ok (.iload_n 3, 1) := by decide +kernel
theorem dX8_sumOf_40 : decode cX8_sumOf 40 = .ok (.aload_n 1, 1) := by decide +kernel
theorem dX8_sumOf_41 : decode cX8_sumOf 41 = .ok (.iload 4, 2) := by decide +kernel
theorem dX8_sumOf_43 : decode cX8_sumOf 43 = .ok (.iaload, 1) := by decide +kernel
theorem dX8_sumOf_44 : decode cX8_sumOf 44 = .ok (.iadd, 1) := by decide +kernel
theorem dX8_sumOf_45 : decode cX8_sumOf 45 = .ok (.istore_n 3, 1) := by decide +kernel
theorem dX8_sumOf_46 : decode cX8_sumOf 46 = .ok (.iinc 4 1, 3) := by decide +kernel
theorem dX8_sumOf_49 : decode cX8_sumOf 49 = .ok (.goto (-44), 3) := by decide +kernel
theorem dX8_sumOf_52 : decode cX8_sumOf 52 = .ok (.iload_n 3, 1) := by decide +kernel
theorem dX8_sumOf_53 : decode cX8_sumOf 53 = .ok (.ireturn, 1) := by decide +kernel
theorem dX8_timesTold_0 : decode cX8_timesTold 0 = .ok (.iconst 0, 1) := by decide +kernel
theorem dX8_timesTold_1 : decode cX8_timesTold 1 = .ok (.istore_n 2, 1) := by decide +kernel
theorem dX8_timesTold_2 : decode cX8_timesTold 2 = .ok (.iconst 0, 1) := by decide +kernel
theorem dX8_timesTold_3 : decode cX8_timesTold 3 = .ok (.istore_n 3, 1) := by decide +kernel
theorem dX8_timesTold_4 : decode cX8_timesTold 4 = .ok (.iload_n 3, 1) := by decide +kernel
theorem dX8_timesTold_5 : decode cX8_timesTold 5 = .ok (.aload_n 0, 1) := by decide +kernel
theorem dX8_timesTold_6 : decode cX8_timesTold 6 = .ok (.getfield 36, 3) := by decide +kernel
theorem dX8_timesTold_9 : decode cX8_timesTold 9 = .ok (.if_icmp .ge 61, 3) := by decide +kernel
theorem dX8_timesTold_12 : decode cX8_timesTold 12 = .ok (.iload_n 3, 1) := by decide +kernel
theorem dX8_timesTold_13 : decode cX8_timesTold 13 = .ok (.bipush 20, 2) := by decide +kernel
theorem dX8_timesTold_15 : decode cX8_timesTold 15 = .ok (.if_icmp .ge 55, 3) := by decide +kernel
theorem dX8_timesTold_18 : decode cX8_timesTold 18 = .ok (.iconst 0, 1) := by decide +kernel
theorem dX8_timesTold_19 : decode cX8_timesTold 19 = .ok (.istore 4, 2) := by decide +kernel
theorem dX8_timesTold_21 : decode cX8_timesTold 21 = .ok (.iload 4, 2) := by decide +kernel
theorem dX8_timesTold_23 : decode cX8_timesTold 23 = .ok (.aload_n 0, 1) := by decide +kernel
theorem dX8_timesTold_24 : decode cX8_timesTold 24 = .ok (.getfield 24, 3) := by decide +kernel
theorem dX8_timesTold_27 : decode cX8_timesTold 27 = .ok (.iload_n 3, 1) := by decide +kernel
theorem dX8_timesTold_28 : decode cX8_timesTold 28 = .ok (.iaload, 1) := by decide +kernel
theorem dX8_timesTold_29 : decode cX8_timesTold 29 = .ok (.if_icmp .ge 35, 3) := by decide +kernel
theorem dX8_timesTold_32 : decode cX8_timesTold 32 = .ok (.iload 4, 2) := by decide +kernel
theorem dX8_timesTold_34 : decode cX8_timesTold 34 = .ok (.bipush 8, 2) := by decide +kernel
theorem dX8_timesTold_36 : decode cX8_timesTold 36 = .ok (.if_icmp .ge 28, 3) := by decide +kernel
theorem dX8_timesTold_39 : decode cX8_timesTold 39 = .ok (.aload_n 0, 1) := by decide +kernel
theorem dX8_timesTold_40 : decode cX8_timesTold 40 = .ok (.getfield 27, 3) := by decide +kernel
theorem dX8_timesTold_43 : decode cX8_timesTold 43 = .ok (.iload_n 3, 1) := by decide +kernel
theorem dX8_timesTold_44 : decode cX8_timesTold 44 = .ok (.bipush 8, 2) := by decide +kernel
theorem dX8_timesTold_46 : decode cX8_timesTold 46 = .ok (.imul, 1) := by decide +kernel
theorem dX8_timesTold_47 : decode cX8_timesTold 47 = .ok (.iload 4, 2) := by decide +kernel
theorem dX8_timesTold_49 : decode cX8_timesTold 49 = .ok (.iadd, 1) := by decide +kernel
theorem dX8_timesTold_50 : decode cX8_timesTold 50 = .ok (.iaload, 1) := by decide +kernel
theorem dX8_timesTold_51 : decode cX8_timesTold 51 = .ok (.iload_n 1, 1) := by decide +kernel
theorem dX8_timesTold_52 : decode cX8_timesTold 52 = .ok (.if_icmp .ne 6, 3) := by decide +kernel
theorem dX8_timesTold_55 : decode cX8_timesTold 55 = .ok (.iinc 2 1, 3) := by decide +kernel
theorem dX8_timesTold_58 : decode cX8_timesTold 58 = .ok (.iinc 4 1, 3) := by decide +kernel
theorem dX8_timesTold_61 : decode cX8_timesTold 61 = .ok (.goto (-40), 3) := by decide +kernel
theorem dX8_timesTold_64 : decode cX8_timesTold 64 = .ok (.iinc 3 1, 3) := by decide +kernel
theorem dX8_timesTold_67 : decode cX8_timesTold 67 = .ok (.goto (-63), 3) := by decide +kernel
theorem dX8_timesTold_70 : decode cX8_timesTold 70 = .ok (.iload_n 2, 1) := by decide +kernel
theorem dX8_timesTold_71 : decode cX8_timesTold 71 = .ok (.ireturn, 1) := by decide +kernel
theorem dX8_overlap_0 : decode cX8_overlap 0 = .ok (.iload_n 1, 1) := by decide +kernel
theorem dX8_overlap_1 : decode cX8_overlap 1 = .ok (.iload_n 2, 1) := by decide +kernel
theorem dX8_overlap_2 : decode cX8_overlap 2 = .ok (.if_icmp .eq 33, 3) := by decide +kernel
theorem dX8_overlap_5 : decode cX8_overlap 5 = .ok (.aload_n 0, 1) := by decide +kernel
theorem dX8_overlap_6 : decode cX8_overlap 6 = .ok (.iload_n 1, 1) := by decide +kernel
theorem dX8_overlap_7 : decode cX8_overlap 7 = .ok (.invokevirtual 77, 3) := by decide +kernel
theorem dX8_overlap_10 : decode cX8_overlap 10 = .ok (.aload_n 0, 1) := by decide +kernel
theorem dX8_overlap_11 : decode cX8_overlap 11 = .ok (.iload_n 2, 1) := by decide +kernel
theorem dX8_overlap_12 : decode cX8_overlap 12 = .ok (.invokevirtual 80, 3) := by decide +kernel
theorem dX8_overlap_15 : decode cX8_overlap 15 = .ok (.if_icmp .ge 20, 3) := by decide +kernel
theorem dX8_overlap_18 : decode cX8_overlap 18 = .ok (.aload_n 0, 1) := by decide +kernel
theorem dX8_overlap_19 : decode cX8_overlap 19 = .ok (.iload_n 2, 1) := by decide +kernel
theorem dX8_overlap_20 : decode cX8_overlap 20 = .ok (.invokevirtual 77, 3) := by decide +kernel
theorem dX8_overlap_23 : decode cX8_overlap 23 = .ok (.aload_n 0, 1) := by decide +kernel
theorem dX8_overlap_24 : decode cX8_overlap 24 = .ok (.iload_n 1, 1) := by decide +kernel
theorem dX8_overlap_25 : decode cX8_overlap 25 = .ok (.invokevirtual 80, 3) := by decide +kernel
theorem dX8_overlap_28 : decode cX8_overlap 28 = .ok (.if_icmp .ge 7, 3) := by decide +kernel
theorem dX8_overlap_31 : decode cX8_overlap 31 = .ok (.iconst 1, 1) := by decide +kernel
theorem dX8_overlap_32 : decode cX8_overlap 32 = .ok (.goto 4, 3) := by decide +kernel
theorem dX8_overlap_35 : decode cX8_overlap 35 = .ok (.iconst 0, 1) := by decide +kernel
theorem dX8_overlap_36 : decode cX8_overlap 36 = .ok (.ireturn, 1) := by decide +kernel
theorem dX8_interrupt_0 : decode cX8_interrupt 0 = .ok (.aload_n 0, 1) := by decide +kernel
theorem dX8_interrupt_1 : decode cX8_interrupt 1 = .ok (.iload_n 1, 1) := by decide +kernel
theorem dX8_interrupt_2 : decode cX8_interrupt 2 = .ok (.invokevirtual 77, 3) := by decide +kernel
theorem dX8_interrupt_5 : decode cX8_interrupt 5 = .ok (.aload_n 0, 1) := by decide +kernel
theorem dX8_interrupt_6 : decode cX8_interrupt 6 = .ok (.iload_n 2, 1) := by decide +kernel
theorem dX8_interrupt_7 : decode cX8_interrupt 7 = .ok (.invokevirtual 77, 3) := by decide +kernel
theorem dX8_interrupt_10 : decode cX8_interrupt 10 = .ok (.if_icmp .le 51, 3) := by decide +kernel
theorem dX8_interrupt_13 : decode cX8_interrupt 13 = .ok (.aload_n 0, 1) := by decide +kernel
theorem dX8_interrupt_14 : decode cX8_interrupt 14 = .ok (.iload_n 1, 1) := by decide +kernel
theorem dX8_interrupt_15 : decode cX8_interrupt 15 = .ok (.invokevirtual 77, 3) := by decide +kernel
theorem dX8_interrupt_18 : decode cX8_interrupt 18 = .ok (.aload_n 0, 1) := by decide +kernel
theorem dX8_interrupt_19 : decode cX8_interrupt 19 = .ok (.iload_n 2, 1) := by decide +kernel
theorem dX8_interrupt_20 : decode cX8_interrupt 20 = .ok (.invokevirtual 80, 3) := by decide +kernel
theorem dX8_interrupt_23 : decode cX8_interrupt 23 = .ok (.if_icmp .ge 38, 3) := by decide +kernel
theorem dX8_interrupt_26 : decode cX8_interrupt 26 = .ok (.aload_n 0, 1) := by decide +kernel
theorem dX8_interrupt_27 : decode cX8_interrupt 27 = .ok (.iload_n 1, 1) := by decide +kernel
theorem dX8_interrupt_28 : decode cX8_interrupt 28 = .ok (.invokevirtual 83, 3) := by decide +kernel
theorem dX8_interrupt_31 : decode cX8_interrupt 31 = .ok (.iconst (-1), 1) := by decide +kernel
theorem dX8_interrupt_32 : decode cX8_interrupt 32 = .ok (.if_icmp .eq 29, 3) := by decide +kernel
theorem dX8_interrupt_35 : decode cX8_interrupt 35 = .ok (.aload_n 0, 1) := by decide +kernel
theorem dX8_interrupt_36 : decode cX8_interrupt 36 = .ok (.iload_n 2, 1) := by decide +kernel
theorem dX8_interrupt_37 : decode cX8_interrupt 37 = .ok (.invokevirtual 83, 3) := by decide +kernel
theorem dX8_interrupt_40 : decode cX8_interrupt 40 = .ok (.iconst (-1), 1) := by decide +kernel
theorem dX8_interrupt_41 : decode cX8_interrupt 41 = .ok (.if_icmp .eq 20, 3) := by decide +kernel
theorem dX8_interrupt_44 : decode cX8_interrupt 44 = .ok (.aload_n 0, 1) := by decide +kernel
theorem dX8_interrupt_45 : decode cX8_interrupt 45 = .ok (.iload_n 1, 1) := by decide +kernel
theorem dX8_interrupt_46 : decode cX8_interrupt 46 = .ok (.invokevirtual 83, 3) := by decide +kernel
theorem dX8_interrupt_49 : decode cX8_interrupt 49 = .ok (.aload_n 0, 1) := by decide +kernel
theorem dX8_interrupt_50 : decode cX8_interrupt 50 = .ok (.iload_n 2, 1) := by decide +kernel
theorem dX8_interrupt_51 : decode cX8_interrupt 51 = .ok (.invokevirtual 83, 3) := by decide +kernel
theorem dX8_interrupt_54 : decode cX8_interrupt 54 = .ok (.if_icmp .eq 7, 3) := by decide +kernel
theorem dX8_interrupt_57 : decode cX8_interrupt 57 = .ok (.iconst 1, 1) := by decide +kernel
theorem dX8_interrupt_58 : decode cX8_interrupt 58 = .ok (.goto 4, 3) := by decide +kernel
theorem dX8_interrupt_61 : decode cX8_interrupt 61 = .ok (.iconst 0, 1) := by decide +kernel
theorem dX8_interrupt_62 : decode cX8_interrupt 62 = .ok (.ireturn, 1) := by decide +kernel
theorem dX8_goesOn_0 : decode cX8_goesOn 0 = .ok (.aload_n 0, 1) := by decide +kernel
theorem dX8_goesOn_1 : decode cX8_goesOn 1 = .ok (.iload_n 1, 1) := by decide +kernel
theorem dX8_goesOn_2 : decode cX8_goesOn 2 = .ok (.invokevirtual 77, 3) := by decide +kernel
theorem dX8_goesOn_5 : decode cX8_goesOn 5 = .ok (.iload_n 2, 1) := by decide +kernel
theorem dX8_goesOn_6 : decode cX8_goesOn 6 = .ok (.if_icmp .gt 16, 3) := by decide +kernel
theorem dX8_goesOn_9 : decode cX8_goesOn 9 = .ok (.iload_n 2, 1) := by decide +kernel
theorem dX8_goesOn_10 : decode cX8_goesOn 10 = .ok (.aload_n 0, 1) := by decide +kernel
theorem dX8_goesOn_11 : decode cX8_goesOn 11 = .ok (.iload_n 1, 1) := by decide +kernel
theorem dX8_goesOn_12 : decode cX8_goesOn 12 = .ok (.invokevirtual 80, 3) := by decide +kernel
theorem dX8_goesOn_15 : decode cX8_goesOn 15 = .ok (.if_icmp .ge 7, 3) := by decide +kernel
theorem dX8_goesOn_18 : decode cX8_goesOn 18 = .ok (.iconst 1, 1) := by decide +kernel
theorem dX8_goesOn_19 : decode cX8_goesOn 19 = .ok (.goto 4, 3) := by decide +kernel
theorem dX8_goesOn_22 : decode cX8_goesOn 22 = .ok (.iconst 0, 1) := by decide +kernel
theorem dX8_goesOn_23 : decode cX8_goesOn 23 = .ok (.ireturn, 1) := by decide +kernel
theorem dX8_overlapping_0 : decode cX8_overlapping 0 = .ok (.iconst 0, 1) := by decide +kernel
theorem dX8_overlapping_1 : decode cX8_overlapping 1 = .ok (.istore_n 2, 1) := by decide +kernel
theorem dX8_overlapping_2 : decode cX8_overlapping 2 = .ok (.iconst 0, 1) := by decide +kernel
theorem dX8_overlapping_3 : decode cX8_overlapping 3 = .ok (.istore_n 3, 1) := by decide +kernel
theorem dX8_overlapping_4 : decode cX8_overlapping 4 = .ok (.iload_n 3, 1) := by decide +kernel
theorem dX8_overlapping_5 : decode cX8_overlapping 5 = .ok (.aload_n 0, 1) := by decide +kernel
theorem dX8_overlapping_6 : decode cX8_overlapping 6 = .ok (.getfield 36, 3) := by decide +kernel
theorem dX8_overlapping_9 : decode cX8_overlapping 9 = .ok (.if_icmp .ge 24, 3) := by decide +kernel
theorem dX8_overlapping_12 : decode cX8_overlapping 12 = .ok (.aload_n 0, 1) := by decide +kernel
theorem dX8_overlapping_13 : decode cX8_overlapping 13 = .ok (.iload_n 1, 1) := by decide +kernel
theorem dX8_overlapping_14 : decode cX8_overlapping 14 = .ok (.iload_n 3, 1) := by decide +kernel
theorem dX8_overlapping_15 : decode cX8_overlapping 15 = .ok (.invokevirtual 86, 3) := by decide +kernel
theorem dX8_overlapping_18 : decode cX8_overlapping 18 = .ok (.ifCond .eq 9, 3) := by decide +kernel
theorem dX8_overlapping_21 : decode cX8_overlapping 21 = .ok (.iload_n 2, 1) := by decide +kernel
theorem dX8_overlapping_22 : decode cX8_overlapping 22 = .ok (.iconst 1, 1) := by decide +kernel
theorem dX8_overlapping_23 : decode cX8_overlapping 23 = .ok (.iload_n 3, 1) := by decide +kernel
theorem dX8_overlapping_24 : decode cX8_overlapping 24 = .ok (.ishl, 1) := by decide +kernel
theorem dX8_overlapping_25 : decode cX8_overlapping 25 = .ok (.ior, 1) := by decide +kernel
theorem dX8_overlapping_26 : decode cX8_overlapping 26 = .ok (.istore_n 2, 1) := by decide +kernel
theorem dX8_overlapping_27 : decode cX8_overlapping 27 = .ok (.iinc 3 1, 3) := by decide +kernel
theorem dX8_overlapping_30 : decode cX8_overlapping 30 = .ok (.goto (-26), 3) := by decide +kernel
theorem dX8_overlapping_33 : decode cX8_overlapping 33 = .ok (.iload_n 2, 1) := by decide +kernel
theorem dX8_overlapping_34 : decode cX8_overlapping 34 = .ok (.ireturn, 1) := by decide +kernel
theorem dX8_interruptedBy_0 : decode cX8_interruptedBy 0 = .ok (.iconst 0, 1) := by decide +kernel
theorem dX8_interruptedBy_1 : decode cX8_interruptedBy 1 = .ok (.istore_n 2, 1) := by decide +kernel
theorem dX8_interruptedBy_2 : decode cX8_interruptedBy 2 = .ok (.iconst 0, 1) := by decide +kernel
theorem dX8_interruptedBy_3 : decode cX8_interruptedBy 3 = .ok (.istore_n 3, 1) := by decide +kernel
theorem dX8_interruptedBy_4 : decode cX8_interruptedBy 4 = .ok (.iload_n 3, 1) := by decide +kernel
theorem dX8_interruptedBy_5 : decode cX8_interruptedBy 5 = .ok (.aload_n 0, 1) := by decide +kernel
theorem dX8_interruptedBy_6 : decode cX8_interruptedBy 6 = .ok (.getfield 36, 3) := by decide +kernel
theorem dX8_interruptedBy_9 : decode cX8_interruptedBy 9 = .ok (.if_icmp .ge 24, 3) := by decide +kernel
theorem dX8_interruptedBy_12 : decode cX8_interruptedBy 12 = .ok (.aload_n 0, 1) := by decide +kernel
theorem dX8_interruptedBy_13 : decode cX8_interruptedBy 13 = .ok (.iload_n 1, 1) := by decide +kernel
theorem dX8_interruptedBy_14 : decode cX8_interruptedBy 14 = .ok (.iload_n 3, 1) := by decide +kernel
theorem dX8_interruptedBy_15 : decode cX8_interruptedBy 15 = .ok (.invokevirtual 90, 3) := by decide +kernel
theorem dX8_interruptedBy_18 : decode cX8_interruptedBy 18 = .ok (.ifCond .eq 9, 3) := by decide +kernel
theorem dX8_interruptedBy_21 : decode cX8_interruptedBy 21 = .ok (.iload_n 2, 1) := by decide +kernel
theorem dX8_interruptedBy_22 : decode cX8_interruptedBy 22 = .ok (.iconst 1, 1) := by decide +kernel
theorem dX8_interruptedBy_23 : decode cX8_interruptedBy 23 = .ok (.iload_n 3, 1) := by decide +kernel
theorem dX8_interruptedBy_24 : decode cX8_interruptedBy 24 = .ok (.ishl, 1) := by decide +kernel
theorem dX8_interruptedBy_25 : decode cX8_interruptedBy 25 = .ok (.ior, 1) := by decide +kernel
theorem dX8_interruptedBy_26 : decode cX8_interruptedBy 26 = .ok (.istore_n 2, 1) := by decide +kernel
theorem dX8_interruptedBy_27 : decode cX8_interruptedBy 27 = .ok (.iinc 3 1, 3) := by decide +kernel
theorem dX8_interruptedBy_30 : decode cX8_interruptedBy 30 = .ok (.goto (-26), 3) := by decide +kernel
theorem dX8_interruptedBy_33 : decode cX8_interruptedBy 33 = .ok (.iload_n 2, 1) := by decide +kernel
theorem dX8_interruptedBy_34 : decode cX8_interruptedBy 34 = .ok (.ireturn, 1) := by decide +kernel
theorem dX8_goingOn_0 : decode cX8_goingOn 0 = .ok (.iconst 0, 1) := by decide +kernel
theorem dX8_goingOn_1 : decode cX8_goingOn 1 = .ok (.istore_n 2, 1) := by decide +kernel
theorem dX8_goingOn_2 : decode cX8_goingOn 2 = .ok (.iconst 0, 1) := by decide +kernel
theorem dX8_goingOn_3 : decode cX8_goingOn 3 = .ok (.istore_n 3, 1) := by decide +kernel
theorem dX8_goingOn_4 : decode cX8_goingOn 4 = .ok (.iload_n 3, 1) := by decide +kernel
theorem dX8_goingOn_5 : decode cX8_goingOn 5 = .ok (.aload_n 0, 1) := by decide +kernel
theorem dX8_goingOn_6 : decode cX8_goingOn 6 = .ok (.getfield 36, 3) := by decide +kernel
theorem dX8_goingOn_9 : decode cX8_goingOn 9 = .ok (.if_icmp .ge 24, 3) := by decide +kernel
theorem dX8_goingOn_12 : decode cX8_goingOn 12 = .ok (.aload_n 0, 1) := by decide +kernel
theorem dX8_goingOn_13 : decode cX8_goingOn 13 = .ok (.iload_n 3, 1) := by decide +kernel
theorem dX8_goingOn_14 : decode cX8_goingOn 14 = .ok (.iload_n 1, 1) := by decide +kernel
theorem dX8_goingOn_15 : decode cX8_goingOn 15 = .ok (.invokevirtual 93, 3) := by decide +kernel
theorem dX8_goingOn_18 : decode cX8_goingOn 18 = .ok (.ifCond .eq 9, 3) := by decide +kernel
theorem dX8_goingOn_21 : decode cX8_goingOn 21 = .ok (.iload_n 2, 1) := by decide +kernel
theorem dX8_goingOn_22 : decode cX8_goingOn 22 = .ok (.iconst 1, 1) := by decide +kernel
theorem dX8_goingOn_23 : decode cX8_goingOn 23 = .ok (.iload_n 3, 1) := by decide +kernel
theorem dX8_goingOn_24 : decode cX8_goingOn 24 = .ok (.ishl, 1) := by decide +kernel
theorem dX8_goingOn_25 : decode cX8_goingOn 25 = .ok (.ior, 1) := by decide +kernel
theorem dX8_goingOn_26 : decode cX8_goingOn 26 = .ok (.istore_n 2, 1) := by decide +kernel
theorem dX8_goingOn_27 : decode cX8_goingOn 27 = .ok (.iinc 3 1, 3) := by decide +kernel
theorem dX8_goingOn_30 : decode cX8_goingOn 30 = .ok (.goto (-26), 3) := by decide +kernel
theorem dX8_goingOn_33 : decode cX8_goingOn 33 = .ok (.iload_n 2, 1) := by decide +kernel
theorem dX8_goingOn_34 : decode cX8_goingOn 34 = .ok (.ireturn, 1) := by decide +kernel
theorem dX8_speakingAt_0 : decode cX8_speakingAt 0 = .ok (.iconst 0, 1) := by decide +kernel
theorem dX8_speakingAt_1 : decode cX8_speakingAt 1 = .ok (.istore_n 2, 1) := by decide +kernel
theorem dX8_speakingAt_2 : decode cX8_speakingAt 2 = .ok (.iconst 0, 1) := by decide +kernel
theorem dX8_speakingAt_3 : decode cX8_speakingAt 3 = .ok (.istore_n 3, 1) := by decide +kernel
theorem dX8_speakingAt_4 : decode cX8_speakingAt 4 = .ok (.iload_n 3, 1) := by decide +kernel
theorem dX8_speakingAt_5 : decode cX8_speakingAt 5 = .ok (.aload_n 0, 1) := by decide +kernel
theorem dX8_speakingAt_6 : decode cX8_speakingAt 6 = .ok (.getfield 36, 3) := by decide +kernel
theorem dX8_speakingAt_9 : decode cX8_speakingAt 9 = .ok (.if_icmp .ge 37, 3) := by decide +kernel
theorem dX8_speakingAt_12 : decode cX8_speakingAt 12 = .ok (.aload_n 0, 1) := by decide +kernel
theorem dX8_speakingAt_13 : decode cX8_speakingAt 13 = .ok (.iload_n 3, 1) := by decide +kernel
theorem dX8_speakingAt_14 : decode cX8_speakingAt 14 = .ok (.iload_n 1, 1) := by decide +kernel
theorem dX8_speakingAt_15 : decode cX8_speakingAt 15 = .ok (.invokevirtual 93, 3) := by decide +kernel
theorem dX8_speakingAt_18 : decode cX8_speakingAt 18 = .ok (.ifCond .eq 22, 3) := by decide +kernel
theorem dX8_speakingAt_21 : decode cX8_speakingAt 21 = .ok (.aload_n 0, 1) := by decide +kernel
theorem dX8_speakingAt_22 : decode cX8_speakingAt 22 = .ok (.iload_n 3, 1) := by decide +kernel
theorem dX8_speakingAt_23 : decode cX8_speakingAt 23 = .ok (.invokevirtual 83, 3) := by decide +kernel
theorem dX8_speakingAt_26 : decode cX8_speakingAt 26 = .ok (.iconst (-1), 1) := by decide +kernel
theorem dX8_speakingAt_27 : decode cX8_speakingAt 27 = .ok (.if_icmp .eq 13, 3) := by decide +kernel
theorem dX8_speakingAt_30 : decode cX8_speakingAt 30 = .ok (.iload_n 2, 1) := by decide +kernel
theorem dX8_speakingAt_31 : decode cX8_speakingAt 31 = .ok (.iconst 1, 1) := by decide +kernel
theorem dX8_speakingAt_32 : decode cX8_speakingAt 32 = .ok (.aload_n 0, 1) := by decide +kernel
theorem dX8_speakingAt_33 : decode cX8_speakingAt 33 = .ok (.iload_n 3, 1) := by decide +kernel
theorem dX8_speakingAt_34 : decode cX8_speakingAt 34 = .ok (.invokevirtual 83, 3) := by decide +kernel
theorem dX8_speakingAt_37 : decode cX8_speakingAt 37 = .ok (.ishl, 1) := by decide +kernel
theorem dX8_speakingAt_38 : decode cX8_speakingAt 38 = .ok (.ior, 1) := by decide +kernel
theorem dX8_speakingAt_39 : decode cX8_speakingAt 39 = .ok (.istore_n 2, 1) := by decide +kernel
theorem dX8_speakingAt_40 : decode cX8_speakingAt 40 = .ok (.iinc 3 1, 3) := by decide +kernel
theorem dX8_speakingAt_43 : decode cX8_speakingAt 43 = .ok (.goto (-39), 3) := by decide +kernel
theorem dX8_speakingAt_46 : decode cX8_speakingAt 46 = .ok (.iload_n 2, 1) := by decide +kernel
theorem dX8_speakingAt_47 : decode cX8_speakingAt 47 = .ok (.ireturn, 1) := by decide +kernel
theorem dX8_overlappingPairs_0 : decode cX8_overlappingPairs 0 = .ok (.iconst 0, 1) := by decide +kernel
theorem dX8_overlappingPairs_1 : decode cX8_overlappingPairs 1 = .ok (.istore_n 1, 1) := by decide +kernel
theorem dX8_overlappingPairs_2 : decode cX8_overlappingPairs 2 = .ok (.iconst 0, 1) := by decide +kernel
theorem dX8_overlappingPairs_3 : decode cX8_overlappingPairs 3 = .ok (.istore_n 2, 1) := by decide +kernel
theorem dX8_overlappingPairs_4 : decode cX8_overlappingPairs 4 = .ok (.iload_n 2, 1) := by decide +kernel
theorem dX8_overlappingPairs_5 : decode cX8_overlappingPairs 5 = .ok (.aload_n 0, 1) := by decide +kernel
theorem dX8_overlappingPairs_6 : decode cX8_overlappingPairs 6 = .ok (.getfield 36, 3) := by decide +kernel
theorem dX8_overlappingPairs_9 : decode cX8_overlappingPairs 9 = .ok (.if_icmp .ge 34, 3) := by decide +kernel
theorem dX8_overlappingPairs_12 : decode cX8_overlappingPairs 12 = .ok (.iconst 0, 1) := by decide +kernel
theorem dX8_overlappingPairs_13 : decode cX8_overlappingPairs 13 = .ok (.istore_n 3, 1) := by decide +kernel
theorem dX8_overlappingPairs_14 : decode cX8_overlappingPairs 14 = .ok (.iload_n 3, 1) := by decide +kernel
theorem dX8_overlappingPairs_15 : decode cX8_overlappingPairs 15 = .ok (.iload_n 2, 1) := by decide +kernel
theorem dX8_overlappingPairs_16 : decode cX8_overlappingPairs 16 = .ok (.if_icmp .ge 21, 3) := by decide +kernel
theorem dX8_overlappingPairs_19 : decode cX8_overlappingPairs 19 = .ok (.aload_n 0, 1) := by decide +kernel
theorem dX8_overlappingPairs_20 : decode cX8_overlappingPairs 20 = .ok (.iload_n 2, 1) := by decide +kernel
theorem dX8_overlappingPairs_21 : decode cX8_overlappingPairs 21 = .ok (.iload_n 3, 1) := by decide +kernel
theorem dX8_overlappingPairs_22 : decode cX8_overlappingPairs 22 = .ok (.invokevirtual 86, 3) := by decide +kernel
theorem dX8_overlappingPairs_25 : decode cX8_overlappingPairs 25 = .ok (.ifCond .eq 6, 3) := by decide +kernel
theorem dX8_overlappingPairs_28 : decode cX8_overlappingPairs 28 = .ok (.iinc 1 1, 3) := by decide +kernel
theorem dX8_overlappingPairs_31 : decode cX8_overlappingPairs 31 = .ok (.iinc 3 1, 3) := by decide +kernel
theorem dX8_overlappingPairs_34 : decode cX8_overlappingPairs 34 = .ok (.goto (-20), 3) := by decide +kernel
theorem dX8_overlappingPairs_37 : decode cX8_overlappingPairs 37 = .ok (.iinc 2 1, 3) := by decide +kernel
theorem dX8_overlappingPairs_40 : decode cX8_overlappingPairs 40 = .ok (.goto (-36), 3) := by decide +kernel
theorem dX8_overlappingPairs_43 : decode cX8_overlappingPairs 43 = .ok (.iload_n 1, 1) := by decide +kernel
theorem dX8_overlappingPairs_44 : decode cX8_overlappingPairs 44 = .ok (.ireturn, 1) := by decide +kernel
theorem dX8_interruptions_0 : decode cX8_interruptions 0 = .ok (.iconst 0, 1) := by decide +kernel
theorem dX8_interruptions_1 : decode cX8_interruptions 1 = .ok (.istore_n 3, 1) := by decide +kernel
theorem dX8_interruptions_2 : decode cX8_interruptions 2 = .ok (.iconst 0, 1) := by decide +kernel
theorem dX8_interruptions_3 : decode cX8_interruptions 3 = .ok (.istore 4, 2) := by decide +kernel
theorem dX8_interruptions_5 : decode cX8_interruptions 5 = .ok (.iload 4, 2) := by decide +kernel
theorem dX8_interruptions_7 : decode cX8_interruptions 7 = .ok (.aload_n 0, 1) := by decide +kernel
theorem dX8_interruptions_8 : decode cX8_interruptions 8 = .ok (.getfield 36, 3) := by decide +kernel
theorem dX8_interruptions_11 : decode cX8_interruptions 11 = .ok (.if_icmp .ge 61, 3) := by decide +kernel
theorem dX8_interruptions_14 : decode cX8_interruptions 14 = .ok (.iconst 0, 1) := by decide +kernel
theorem dX8_interruptions_15 : decode cX8_interruptions 15 = .ok (.istore 5, 2) := by decide +kernel
theorem dX8_interruptions_17 : decode cX8_interruptions 17 = .ok (.iload 5, 2) := by decide +kernel
theorem dX8_interruptions_19 : decode cX8_interruptions 19 = .ok (.aload_n 0, 1) := by decide +kernel
theorem dX8_interruptions_20 : decode cX8_interruptions 20 = .ok (.getfield 36, 3) := by decide +kernel
theorem dX8_interruptions_23 : decode cX8_interruptions 23 = .ok (.if_icmp .ge 43, 3) := by decide +kernel
theorem dX8_interruptions_26 : decode cX8_interruptions 26 = .ok (.aload_n 0, 1) := by decide +kernel
theorem dX8_interruptions_27 : decode cX8_interruptions 27 = .ok (.iload 4, 2) := by decide +kernel
theorem dX8_interruptions_29 : decode cX8_interruptions 29 = .ok (.invokevirtual 83, 3) := by decide +kernel
theorem dX8_interruptions_32 : decode cX8_interruptions 32 = .ok (.iload_n 1, 1) := by decide +kernel
theorem dX8_interruptions_33 : decode cX8_interruptions 33 = .ok (.if_icmp .ne 27, 3) := by decide +kernel
theorem dX8_interruptions_36 : decode cX8_interruptions 36 = .ok (.aload_n 0, 1) := by decide +kernel
theorem dX8_interruptions_37 : decode cX8_interruptions 37 = .ok (.iload 5, 2) := by decide +kernel
theorem dX8_interruptions_39 : decode cX8_interruptions 39 = .ok (.invokevirtual 83, 3) := by decide +kernel
theorem dX8_interruptions_42 : decode cX8_interruptions 42 = .ok (.iload_n 2, 1) := by decide +kernel
theorem dX8_interruptions_43 : decode cX8_interruptions 43 = .ok (.if_icmp .ne 17, 3) := by decide +kernel
theorem dX8_interruptions_46 : decode cX8_interruptions 46 = .ok (.aload_n 0, 1) := by decide +kernel
theorem dX8_interruptions_47 : decode cX8_interruptions 47 = .ok (.iload 4, 2) := by decide +kernel
theorem dX8_interruptions_49 : decode cX8_interruptions 49 = .ok (.iload 5, 2) := by decide +kernel
theorem dX8_interruptions_51 : decode cX8_interruptions 51 = .ok (.invokevirtual 90, 3) := by decide +kernel
theorem dX8_interruptions_54 : decode cX8_interruptions 54 = .ok (.ifCond .eq 6, 3) := by decide +kernel
theorem dX8_interruptions_57 : decode cX8_interruptions 57 = .ok (.iinc 3 1, 3) := by decide +kernel
theorem dX8_interruptions_60 : decode cX8_interruptions 60 = .ok (.iinc 5 1, 3) := by decide +kernel
theorem dX8_interruptions_63 : decode cX8_interruptions 63 = .ok (.goto (-46), 3) := by decide +kernel
theorem dX8_interruptions_66 : decode cX8_interruptions 66 = .ok (.iinc 4 1, 3) := by decide +kernel
theorem dX8_interruptions_69 : decode cX8_interruptions 69 = .ok (.goto (-64), 3) := by decide +kernel
theorem dX8_interruptions_72 : decode cX8_interruptions 72 = .ok (.iload_n 3, 1) := by decide +kernel
theorem dX8_interruptions_73 : decode cX8_interruptions 73 = .ok (.ireturn, 1) := by decide +kernel
theorem dX8_secondsAlone_0 : decode cX8_secondsAlone 0 = .ok (.aload_n 0, 1) := by decide +kernel
theorem dX8_secondsAlone_1 : decode cX8_secondsAlone 1 = .ok (.iload_n 1, 1) := by decide +kernel
theorem dX8_secondsAlone_2 : decode cX8_secondsAlone 2 = .ok (.invokevirtual 77, 3) := by decide +kernel
theorem dX8_secondsAlone_5 : decode cX8_secondsAlone 5 = .ok (.istore_n 2, 1) := by decide +kernel
theorem dX8_secondsAlone_6 : decode cX8_secondsAlone 6 = .ok (.iconst 0, 1) := by decide +kernel
theorem dX8_secondsAlone_7 : decode cX8_secondsAlone 7 = .ok (.istore_n 3, 1) := by decide +kernel
theorem dX8_secondsAlone_8 : decode cX8_secondsAlone 8 = .ok (.iconst 0, 1) := by decide +kernel
theorem dX8_secondsAlone_9 : decode cX8_secondsAlone 9 = .ok (.istore 4, 2) := by decide +kernel
theorem dX8_secondsAlone_11 : decode cX8_secondsAlone 11 = .ok (.iload 4, 2) := by decide +kernel
theorem dX8_secondsAlone_13 : decode cX8_secondsAlone 13 = .ok (.aload_n 0, 1) := by decide +kernel
theorem dX8_secondsAlone_14 : decode cX8_secondsAlone 14 = .ok (.getfield 36, 3) := by decide +kernel
theorem dX8_secondsAlone_17 : decode cX8_secondsAlone 17 = .ok (.if_icmp .ge 49, 3) := by decide +kernel
theorem dX8_secondsAlone_20 : decode cX8_secondsAlone 20 = .ok (.iload 4, 2) := by decide +kernel
theorem dX8_secondsAlone_22 : decode cX8_secondsAlone 22 = .ok (.iload_n 1, 1) := by decide +kernel
theorem dX8_secondsAlone_23 : decode cX8_secondsAlone 23 = .ok (.if_icmp .eq 37, 3) := by decide +kernel
theorem dX8_secondsAlone_26 : decode cX8_secondsAlone 26 = .ok (.iload_n 3, 1) := by decide +kernel
theorem dX8_secondsAlone_27 : decode cX8_secondsAlone 27 = .ok (.iconst 0, 1) := by decide +kernel
theorem dX8_secondsAlone_28 : decode cX8_secondsAlone 28 = .ok (.aload_n 0, 1) := by decide +kernel
theorem dX8_secondsAlone_29 : decode cX8_secondsAlone 29 = .ok (.iload 4, 2) := by decide +kernel
theorem dX8_secondsAlone_31 : decode cX8_secondsAlone 31 = .ok (.invokevirtual 77, 3) := by decide +kernel
theorem dX8_secondsAlone_34 : decode cX8_secondsAlone 34 = .ok (.aload_n 0, 1) := by decide +kernel
theorem dX8_secondsAlone_35 : decode cX8_secondsAlone 35 = .ok (.iload_n 1, 1) := by decide +kernel
theorem dX8_secondsAlone_36 : decode cX8_secondsAlone 36 = .ok (.invokevirtual 80, 3) := by decide +kernel
theorem dX8_secondsAlone_39 : decode cX8_secondsAlone 39 = .ok (.invokestatic 96, 3) := by decide +kernel
theorem dX8_secondsAlone_42 : decode cX8_secondsAlone 42 = .ok (.iload_n 2, 1) := by decide +kernel
theorem dX8_secondsAlone_43 : decode cX8_secondsAlone 43 = .ok (.isub, 1) := by decide +kernel
theorem dX8_secondsAlone_44 : decode cX8_secondsAlone 44 = .ok (.invokestatic 101, 3) := by decide +kernel
theorem dX8_secondsAlone_47 : decode cX8_secondsAlone 47 = .ok (.iadd, 1) := by decide +kernel
theorem dX8_secondsAlone_48 : decode cX8_secondsAlone 48 = .ok (.istore_n 3, 1) := by decide +kernel
theorem dX8_secondsAlone_49 : decode cX8_secondsAlone 49 = .ok (.iload_n 2, 1) := by decide +kernel
theorem dX8_secondsAlone_50 : decode cX8_secondsAlone 50 = .ok (.aload_n 0, 1) := by decide +kernel
theorem dX8_secondsAlone_51 : decode cX8_secondsAlone 51 = .ok (.iload 4, 2) := by decide +kernel
theorem dX8_secondsAlone_53 : decode cX8_secondsAlone 53 = .ok (.invokevirtual 80, 3) := by decide +kernel
theorem dX8_secondsAlone_56 : decode cX8_secondsAlone 56 = .ok (.invokestatic 101, 3) := by decide +kernel
theorem dX8_secondsAlone_59 : decode cX8_secondsAlone 59 = .ok (.istore_n 2, 1) := by decide +kernel
theorem dX8_secondsAlone_60 : decode cX8_secondsAlone 60 = .ok (.iinc 4 1, 3) := by decide +kernel
theorem dX8_secondsAlone_63 : decode cX8_secondsAlone 63 = .ok (.goto (-52), 3) := by decide +kernel
theorem dX8_secondsAlone_66 : decode cX8_secondsAlone 66 = .ok (.iload_n 3, 1) := by decide +kernel
theorem dX8_secondsAlone_67 : decode cX8_secondsAlone 67 = .ok (.iconst 0, 1) := by decide +kernel
theorem dX8_secondsAlone_68 : decode cX8_secondsAlone 68 = .ok (.aload_n 0, 1) := by decide +kernel
theorem dX8_secondsAlone_69 : decode cX8_secondsAlone 69 = .ok (.iload_n 1, 1) := by decide +kernel
theorem dX8_secondsAlone_70 : decode cX8_secondsAlone 70 = .ok (.invokevirtual 80, 3) := by decide +kernel
theorem dX8_secondsAlone_73 : decode cX8_secondsAlone 73 = .ok (.iload_n 2, 1) := by decide +kernel
theorem dX8_secondsAlone_74 : decode cX8_secondsAlone 74 = .ok (.isub, 1) := by decide +kernel
theorem dX8_secondsAlone_75 : decode cX8_secondsAlone 75 = .ok (.invokestatic 101, 3) := by decide +kernel
theorem dX8_secondsAlone_78 : decode cX8_secondsAlone 78 = .ok (.iadd, 1) := by decide +kernel
theorem dX8_secondsAlone_79 : decode cX8_secondsAlone 79 = .ok (.ireturn, 1) := by decide +kernel
theorem dX8_secondsWithAny_0 : decode cX8_secondsWithAny 0 = .ok (.iconst 0, 1) := by decide +kernel
theorem dX8_secondsWithAny_1 : decode cX8_secondsWithAny 1 = .ok (.istore_n 1, 1) := by decide +kernel
theorem dX8_secondsWithAny_2 : decode cX8_secondsWithAny 2 = .ok (.iconst 0, 1) := by decide +kernel
theorem dX8_secondsWithAny_3 : decode cX8_secondsWithAny 3 = .ok (.istore_n 2, 1) := by decide +kernel
theorem dX8_secondsWithAny_4 : decode cX8_secondsWithAny 4 = .ok (.iconst 0, 1) := by decide +kernel
theorem dX8_secondsWithAny_5 : decode cX8_secondsWithAny 5 = .ok (.istore_n 3, 1) := by decide +kernel
theorem dX8_secondsWithAny_6 : decode cX8_secondsWithAny 6 = .ok (.iload_n 3, 1) := by decide +kernel
theorem dX8_secondsWithAny_7 : decode cX8_secondsWithAny 7 = .ok (.aload_n 0, 1) := by decide +kernel
theorem dX8_secondsWithAny_8 : decode cX8_secondsWithAny 8 = .ok (.getfield 36, 3) := by decide +kernel
theorem dX8_secondsWithAny_11 : decode cX8_secondsWithAny 11 = .ok (.if_icmp .ge 41, 3) := by decide +kernel
theorem dX8_secondsWithAny_14 : decode cX8_secondsWithAny 14 = .ok (.iload_n 2, 1) := by decide +kernel
theorem dX8_secondsWithAny_15 : decode cX8_secondsWithAny 15 = .ok (.iconst 0, 1) := by decide +kernel
theorem dX8_secondsWithAny_16 : decode cX8_secondsWithAny 16 = .ok (.aload_n 0, 1) := by decide +kernel
theorem dX8_secondsWithAny_17 : decode cX8_secondsWithAny 17 = .ok (.iload_n 3, 1) := by decide +kernel
theorem dX8_secondsWithAny_18 : decode cX8_secondsWithAny 18 = .ok (.invokevirtual 80, 3) := by decide +kernel
theorem dX8_secondsWithAny_21 : decode cX8_secondsWithAny 21 = .ok (.iload_n 1, 1) := by decide +kernel
theorem dX8_secondsWithAny_22 : decode cX8_secondsWithAny 22 = .ok (.aload_n 0, 1) := by decide +kernel
theorem dX8_secondsWithAny_23 : decode cX8_secondsWithAny 23 = .ok (.iload_n 3, 1) := by decide +kernel
theorem dX8_secondsWithAny_24 : decode cX8_secondsWithAny 24 = .ok (.invokevirtual 77, 3) := by decide +kernel
theorem dX8_secondsWithAny_27 : decode cX8_secondsWithAny 27 = .ok (.invokestatic 101, 3) := by decide +kernel
theorem dX8_secondsWithAny_30 : decode cX8_secondsWithAny 30 = .ok (.isub, 1) := by decide +kernel
theorem dX8_secondsWithAny_31 : decode cX8_secondsWithAny 31 = .ok (.invokestatic 101, 3) := by decide +kernel
theorem dX8_secondsWithAny_34 : decode cX8_secondsWithAny 34 = .ok (.iadd, 1) := by decide +kernel
theorem dX8_secondsWithAny_35 : decode cX8_secondsWithAny 35 = .ok (.istore_n 2, 1) := by decide +kernel
theorem dX8_secondsWithAny_36 : decode cX8_secondsWithAny 36 = .ok (.iload_n 1, 1) := by decide +kernel
theorem dX8_secondsWithAny_37 : decode cX8_secondsWithAny 37 = .ok (.aload_n 0, 1) := by decide +kernel
theorem dX8_secondsWithAny_38 : decode cX8_secondsWithAny 38 = .ok (.iload_n 3, 1) := by decide +kernel
theorem dX8_secondsWithAny_39 : decode cX8_secondsWithAny 39 = .ok (.invokevirtual 80, 3) := by decide +kernel
theorem dX8_secondsWithAny_42 : decode cX8_secondsWithAny 42 = .ok (.invokestatic 101, 3) := by decide +kernel
theorem dX8_secondsWithAny_45 : decode cX8_secondsWithAny 45 = .ok (.istore_n 1, 1) := by decide +kernel
theorem dX8_secondsWithAny_46 : decode cX8_secondsWithAny 46 = .ok (.iinc 3 1, 3) := by decide +kernel
theorem dX8_secondsWithAny_49 : decode cX8_secondsWithAny 49 = .ok (.goto (-43), 3) := by decide +kernel
theorem dX8_secondsWithAny_52 : decode cX8_secondsWithAny 52 = .ok (.iload_n 2, 1) := by decide +kernel
theorem dX8_secondsWithAny_53 : decode cX8_secondsWithAny 53 = .ok (.ireturn, 1) := by decide +kernel
theorem dX8_secondsWithSeveral_0 : decode cX8_secondsWithSeveral 0 = .ok (.iconst 0, 1) := by decide +kernel
theorem dX8_secondsWithSeveral_1 : decode cX8_secondsWithSeveral 1 = .ok (.istore_n 1, 1) := by decide +kernel
theorem dX8_secondsWithSeveral_2 : decode cX8_secondsWithSeveral 2 = .ok (.iconst 0, 1) := by decide +kernel
theorem dX8_secondsWithSeveral_3 : decode cX8_secondsWithSeveral 3 = .ok (.istore_n 2, 1) := by decide +kernel
theorem dX8_secondsWithSeveral_4 : decode cX8_secondsWithSeveral 4 = .ok (.iconst 0, 1) := by decide +kernel
theorem dX8_secondsWithSeveral_5 : decode cX8_secondsWithSeveral 5 = .ok (.istore_n 3, 1) := by decide +kernel
theorem dX8_secondsWithSeveral_6 : decode cX8_secondsWithSeveral 6 = .ok (.iconst 0, 1) := by decide +kernel
theorem dX8_secondsWithSeveral_7 : decode cX8_secondsWithSeveral 7 = .ok (.istore 4, 2) := by decide +kernel
theorem dX8_secondsWithSeveral_9 : decode cX8_secondsWithSeveral 9 = .ok (.iload 4, 2) := by decide +kernel
theorem dX8_secondsWithSeveral_11 : decode cX8_secondsWithSeveral 11 = .ok (.aload_n 0, 1) := by decide +kernel
theorem dX8_secondsWithSeveral_12 : decode cX8_secondsWithSeveral 12 = .ok (.getfield 36, 3) := by decide +kernel
theorem dX8_secondsWithSeveral_15 : decode cX8_secondsWithSeveral 15 = .ok (.if_icmp .ge 59, 3) := by decide +kernel
theorem dX8_secondsWithSeveral_18 : decode cX8_secondsWithSeveral 18 = .ok (.aload_n 0, 1) := by decide +kernel
theorem dX8_secondsWithSeveral_19 : decode cX8_secondsWithSeveral 19 = .ok (.iload 4, 2) := by decide +kernel
theorem dX8_secondsWithSeveral_21 : decode cX8_secondsWithSeveral 21 = .ok (.invokevirtual 80, 3) := by decide +kernel
theorem dX8_secondsWithSeveral_24 : decode cX8_secondsWithSeveral 24 = .ok (.iload_n 1, 1) := by decide +kernel
theorem dX8_secondsWithSeveral_25 : decode cX8_secondsWithSeveral 25 = .ok (.invokestatic 96, 3) := by decide +kernel
theorem dX8_secondsWithSeveral_28 : decode cX8_secondsWithSeveral 28 = .ok (.istore 5, 2) := by decide +kernel
theorem dX8_secondsWithSeveral_30 : decode cX8_secondsWithSeveral 30 = .ok (.iload_n 3, 1) := by decide +kernel
theorem dX8_secondsWithSeveral_31 : decode cX8_secondsWithSeveral 31 = .ok (.iconst 0, 1) := by decide +kernel
theorem dX8_secondsWithSeveral_32 : decode cX8_secondsWithSeveral 32 = .ok (.iload 5, 2) := by decide +kernel
theorem dX8_secondsWithSeveral_34 : decode cX8_secondsWithSeveral 34 = .ok (.iload_n 2, 1) := by decide +kernel
theorem dX8_secondsWithSeveral_35 : decode cX8_secondsWithSeveral 35 = .ok (.aload_n 0, 1) := by decide +kernel
theorem dX8_secondsWithSeveral_36 : decode cX8_secondsWithSeveral 36 = .ok (.iload 4, 2) := by decide +kernel
theorem dX8_secondsWithSeveral_38 : decode cX8_secondsWithSeveral 38 = .ok (.invokevirtual 77, 3) := by decide +kernel
theorem dX8_secondsWithSeveral_41 : decode cX8_secondsWithSeveral 41 = .ok (.invokestatic 101, 3) := by decide +kernel
theorem dX8_secondsWithSeveral_44 : decode cX8_secondsWithSeveral 44 = .ok (.isub, 1) := by decide +kernel
theorem dX8_secondsWithSeveral_45 : decode cX8_secondsWithSeveral 45 = .ok (.invokestatic 101, 3) := by decide +kernel
theorem dX8_secondsWithSeveral_48 : decode cX8_secondsWithSeveral 48 = .ok (.iadd, 1) := by decide +kernel
theorem dX8_secondsWithSeveral_49 : decode cX8_secondsWithSeveral 49 = .ok (.istore_n 3, 1) := by decide +kernel
theorem dX8_secondsWithSeveral_50 : decode cX8_secondsWithSeveral 50 = .ok (.iload_n 2, 1) := by decide +kernel
theorem dX8_secondsWithSeveral_51 : decode cX8_secondsWithSeveral 51 = .ok (.iload 5, 2) := by decide +kernel
theorem dX8_secondsWithSeveral_53 : decode cX8_secondsWithSeveral 53 = .ok (.invokestatic 101, 3) := by decide +kernel
theorem dX8_secondsWithSeveral_56 : decode cX8_secondsWithSeveral 56 = .ok (.istore_n 2, 1) := by decide +kernel
theorem dX8_secondsWithSeveral_57 : decode cX8_secondsWithSeveral 57 = .ok (.iload_n 1, 1) := by decide +kernel
theorem dX8_secondsWithSeveral_58 : decode cX8_secondsWithSeveral 58 = .ok (.aload_n 0, 1) := by decide +kernel
theorem dX8_secondsWithSeveral_59 : decode cX8_secondsWithSeveral 59 = .ok (.iload 4, 2) := by decide +kernel
theorem dX8_secondsWithSeveral_61 : decode cX8_secondsWithSeveral 61 = .ok (.invokevirtual 80, 3) := by decide +kernel
theorem dX8_secondsWithSeveral_64 : decode cX8_secondsWithSeveral 64 = .ok (.invokestatic 101, 3) := by decide +kernel
theorem dX8_secondsWithSeveral_67 : decode cX8_secondsWithSeveral 67 = .ok (.istore_n 1, 1) := by decide +kernel
theorem dX8_secondsWithSeveral_68 : decode cX8_secondsWithSeveral 68 = .ok (.iinc 4 1, 3) := by decide +kernel
theorem dX8_secondsWithSeveral_71 : decode cX8_secondsWithSeveral 71 = .ok (.goto (-62), 3) := by decide +kernel
theorem dX8_secondsWithSeveral_74 : decode cX8_secondsWithSeveral 74 = .ok (.iload_n 3, 1) := by decide +kernel
theorem dX8_secondsWithSeveral_75 : decode cX8_secondsWithSeveral 75 = .ok (.ireturn, 1) := by decide +kernel
theorem dX8_longestSilence_0 : decode cX8_longestSilence 0 = .ok (.aload_n 0, 1) := by decide +kernel
theorem dX8_longestSilence_1 : decode cX8_longestSilence 1 = .ok (.iconst 0, 1) := by decide +kernel
theorem dX8_longestSilence_2 : decode cX8_longestSilence 2 = .ok (.invokevirtual 77, 3) := by decide +kernel
theorem dX8_longestSilence_5 : decode cX8_longestSilence 5 = .ok (.istore_n 2, 1) := by decide +kernel
theorem dX8_longestSilence_6 : decode cX8_longestSilence 6 = .ok (.iconst 0, 1) := by decide +kernel
theorem dX8_longestSilence_7 : decode cX8_longestSilence 7 = .ok (.istore_n 3, 1) := by decide +kernel
theorem dX8_longestSilence_8 : decode cX8_longestSilence 8 = .ok (.iconst 0, 1) := by decide +kernel
theorem dX8_longestSilence_9 : decode cX8_longestSilence 9 = .ok (.istore 4, 2) := by decide +kernel
theorem dX8_longestSilence_11 : decode cX8_longestSilence 11 = .ok (.iconst 0, 1) := by decide +kernel
theorem dX8_longestSilence_12 : decode cX8_longestSilence 12 = .ok (.istore 5, 2) := by decide +kernel
theorem dX8_longestSilence_14 : decode cX8_longestSilence 14 = .ok (.iload 5, 2) := by decide +kernel
theorem dX8_longestSilence_16 : decode cX8_longestSilence 16 = .ok (.aload_n 0, 1) := by decide +kernel
theorem dX8_longestSilence_17 : decode cX8_longestSilence 17 = .ok (.getfield 36, 3) := by decide +kernel
theorem dX8_longestSilence_20 : decode cX8_longestSilence 20 = .ok (.if_icmp .ge 45, 3) := by decide +kernel
theorem dX8_longestSilence_23 : decode cX8_longestSilence 23 = .ok (.aload_n 0, 1) := by decide +kernel
theorem dX8_longestSilence_24 : decode cX8_longestSilence 24 = .ok (.iload 5, 2) := by decide +kernel
theorem dX8_longestSilence_26 : decode cX8_longestSilence 26 = .ok (.invokevirtual 77, 3) := by decide +kernel
theorem dX8_longestSilence_29 : decode cX8_longestSilence 29 = .ok (.iload_n 2, 1) := by decide +kernel
theorem dX8_longestSilence_30 : decode cX8_longestSilence 30 = .ok (.isub, 1) := by decide +kernel
theorem dX8_longestSilence_31 : decode cX8_longestSilence 31 = .ok (.iload 4, 2) := by decide +kernel
theorem dX8_longestSilence_33 : decode cX8_longestSilence 33 = .ok (.if_icmp .le 15, 3) := by decide +kernel
theorem dX8_longestSilence_36 : decode cX8_longestSilence 36 = .ok (.aload_n 0, 1) := by decide +kernel
theorem dX8_longestSilence_37 : decode cX8_longestSilence 37 = .ok (.iload 5, 2) := by decide +kernel
theorem dX8_longestSilence_39 : decode cX8_longestSilence 39 = .ok (.invokevirtual 77, 3) := by decide +kernel
theorem dX8_longestSilence_42 : decode cX8_longestSilence 42 = .ok (.iload_n 2, 1) := by decide +kernel
theorem dX8_longestSilence_43 : decode cX8_longestSilence 43 = .ok (.isub, 1) := by decide +kernel
theorem dX8_longestSilence_44 : decode cX8_longestSilence 44 = .ok (.istore 4, 2) := by decide +kernel
theorem dX8_longestSilence_46 : decode cX8_longestSilence 46 = .ok (.iload_n 2, 1) := by decide +kernel
theorem dX8_longestSilence_47 : decode cX8_longestSilence 47 = .ok (.istore_n 3, 1) := by decide +kernel
theorem dX8_longestSilence_48 : decode cX8_longestSilence 48 = .ok (.iload_n 2, 1) := by decide +kernel
theorem dX8_longestSilence_49 : decode cX8_longestSilence 49 = .ok (.aload_n 0, 1) := by decide +kernel
theorem dX8_longestSilence_50 : decode cX8_longestSilence 50 = .ok (.iload 5, 2) := by decide +kernel
theorem dX8_longestSilence_52 : decode cX8_longestSilence 52 = .ok (.invokevirtual 80, 3) := by decide +kernel
theorem dX8_longestSilence_55 : decode cX8_longestSilence 55 = .ok (.invokestatic 101, 3) := by decide +kernel
theorem dX8_longestSilence_58 : decode cX8_longestSilence 58 = .ok (.istore_n 2, 1) := by decide +kernel
theorem dX8_longestSilence_59 : decode cX8_longestSilence 59 = .ok (.iinc 5 1, 3) := by decide +kernel
theorem dX8_longestSilence_62 : decode cX8_longestSilence 62 = .ok (.goto (-48), 3) := by decide +kernel
theorem dX8_longestSilence_65 : decode cX8_longestSilence 65 = .ok (.iload_n 1, 1) := by decide +kernel
theorem dX8_longestSilence_66 : decode cX8_longestSilence 66 = .ok (.ifCond .ne 7, 3) := by decide +kernel
theorem dX8_longestSilence_69 : decode cX8_longestSilence 69 = .ok (.iload_n 3, 1) := by decide +kernel
theorem dX8_longestSilence_70 : decode cX8_longestSilence 70 = .ok (.goto 5, 3) := by decide +kernel
theorem dX8_longestSilence_73 : decode cX8_longestSilence 73 = .ok (.iload 4, 2) := by decide +kernel
theorem dX8_longestSilence_75 : decode cX8_longestSilence 75 = .ok (.ireturn, 1) := by decide +kernel
theorem dX9_init_0 : decode cX9_init 0 = .ok (.aload_n 0, 1) := by decide +kernel
theorem dX9_init_1 : decode cX9_init 1 = .ok (.invokespecial 1, 3) := by decide +kernel
theorem dX9_init_4 : decode cX9_init 4 = .ok (.aload_n 0, 1) := by decide +kernel
theorem dX9_init_5 : decode cX9_init 5 = .ok (.new 7, 3) := by decide +kernel
theorem dX9_init_8 : decode cX9_init 8 = .ok (.dup, 1) := by decide +kernel
theorem dX9_init_9 : decode cX9_init 9 = .ok (.invokespecial 9, 3) := by decide +kernel
theorem dX9_init_12 : decode cX9_init 12 = .ok (.putfield 10, 3) := by decide +kernel
theorem dX9_init_15 : decode cX9_init 15 = .ok (.aload_n 0, 1) := by decide +kernel
theorem dX9_init_16 : decode cX9_init 16 = .ok (.new 7, 3) := by decide +kernel
theorem dX9_init_19 : decode cX9_init 19 = .ok (.dup, 1) := by decide +kernel
theorem dX9_init_20 : decode cX9_init 20 = .ok (.invokespecial 9, 3) := by decide +kernel
theorem dX9_init_23 : decode cX9_init 23 = .ok (.putfield 16, 3) := by decide +kernel
theorem dX9_init_26 : decode cX9_init 26 = .ok (.aload_n 0, 1) := by decide +kernel
theorem dX9_init_27 : decode cX9_init 27 = .ok (.new 19, 3) := by decide +kernel
theorem dX9_init_30 : decode cX9_init 30 = .ok (.dup, 1) := by decide +kernel
theorem dX9_init_31 : decode cX9_init 31 = .ok (.invokespecial 21, 3) := by decide +kernel
theorem dX9_init_34 : decode cX9_init 34 = .ok (.putfield 22, 3) := by decide +kernel
theorem dX9_init_37 : decode cX9_init 37 = .ok (.aload_n 0, 1) := by decide +kernel
theorem dX9_init_38 : decode cX9_init 38 = .ok (.new 26, 3) := by decide +kernel
theorem dX9_init_41 : decode cX9_init 41 = .ok (.dup, 1) := by decide +kernel
theorem dX9_init_42 : decode cX9_init 42 = .ok (.aload_n 0, 1) := by decide +kernel
theorem dX9_init_43 : decode cX9_init 43 = .ok (.getfield 10, 3) := by decide +kernel
theorem dX9_init_46 : decode cX9_init 46 = .ok (.invokespecial 28, 3) := by decide +kernel
theorem dX9_init_49 : decode cX9_init 49 = .ok (.putfield 31, 3) := by decide +kernel
theorem dX9_init_52 : decode cX9_init 52 = .ok (.aload_n 0, 1) := by decide +kernel
theorem dX9_init_53 : decode cX9_init 53 = .ok (.new 35, 3) := by decide +kernel
theorem dX9_init_56 : decode cX9_init 56 = .ok (.dup, 1) := by decide +kernel
theorem dX9_init_57 : decode cX9_init 57 = .ok (.invokespecial 37, 3) := by decide +kernel
theorem dX9_init_60 : decode cX9_init 60 = .ok (.putfield 38, 3) := by decide +kernel
theorem dX9_init_63 : decode cX9_init 63 = .ok (.aload_n 0, 1) := by decide +kernel
theorem dX9_init_64 : decode cX9_init 64 = .ok (.new 42, 3) := by decide +kernel
theorem dX9_init_67 : decode cX9_init 67 = .ok (.dup, 1) := by decide +kernel
theorem dX9_init_68 : decode cX9_init 68 = .ok (.aload_n 0, 1) := by decide +kernel
theorem dX9_init_69 : decode cX9_init 69 = .ok (.getfield 38, 3) := by decide +kernel
theorem dX9_init_72 : decode cX9_init 72 = .ok (.invokespecial 44, 3) := by decide +kernel
theorem dX9_init_75 : decode cX9_init 75 = .ok (.putfield 47, 3) := by decide +kernel
theorem dX9_init_78 : decode cX9_init 78 = .ok (.return_, 1) := by decide +kernel
theorem dX9_turn_0 : decode cX9_turn 0 = .ok (.aload_n 0, 1) := by decide +kernel
theorem dX9_turn_1 : decode cX9_turn 1 = .ok (.getfield 16, 3) := by decide +kernel
theorem dX9_turn_4 : decode cX9_turn 4 = .ok (.aload_n 0, 1) := by decide +kernel
theorem dX9_turn_5 : decode cX9_turn 5 = .ok (.getfield 10, 3) := by decide +kernel
theorem dX9_turn_8 : decode cX9_turn 8 = .ok (.invokevirtual 51, 3) := by decide +kernel
theorem dX9_turn_11 : decode cX9_turn 11 = .ok (.aload_n 0, 1) := by decide +kernel
theorem dX9_turn_12 : decode cX9_turn 12 = .ok (.aload_n 0, 1) := by decide +kernel
theorem dX9_turn_13 : decode cX9_turn 13 = .ok (.getfield 10, 3) := by decide +kernel
theorem dX9_turn_16 : decode cX9_turn 16 = .ok (.iload_n 1, 1) := by decide +kernel
theorem dX9_turn_17 : decode cX9_turn 17 = .ok (.iload_n 2, 1) := by decide +kernel
theorem dX9_turn_18 : decode cX9_turn 18 = .ok (.iload_n 3, 1) := by decide +kernel
theorem dX9_turn_19 : decode cX9_turn 19 = .ok (.invokevirtual 54, 3) := by decide +kernel
theorem dX9_turn_22 : decode cX9_turn 22 = .ok (.invokevirtual 58, 3) := by decide +kernel
theorem dX9_turn_25 : decode cX9_turn 25 = .ok (.ireturn, 1) := by decide +kernel
theorem dX9_say_0 : decode cX9_say 0 = .ok (.aload_n 0, 1) := by decide +kernel
theorem dX9_say_1 : decode cX9_say 1 = .ok (.getfield 16, 3) := by decide +kernel
theorem dX9_say_4 : decode cX9_say 4 = .ok (.aload_n 0, 1) := by decide +kernel
theorem dX9_say_5 : decode cX9_say 5 = .ok (.getfield 10, 3) := by decide +kernel
theorem dX9_say_8 : decode cX9_say 8 = .ok (.invokevirtual 51, 3) := by decide +kernel
theorem dX9_say_11 : decode cX9_say 11 = .ok (.aload_n 0, 1) := by decide +kernel
theorem dX9_say_12 : decode cX9_say 12 = .ok (.aload_n 0, 1) := by decide +kernel
theorem dX9_say_13 : decode cX9_say 13 = .ok (.getfield 10, 3) := by decide +kernel
theorem dX9_say_16 : decode cX9_say 16 = .ok (.iload_n 1, 1) := by decide +kernel
theorem dX9_say_17 : decode cX9_say 17 = .ok (.iload_n 2, 1) := by decide +kernel
theorem dX9_say_18 : decode cX9_say 18 = .ok (.invokevirtual 62, 3) := by decide +kernel
theorem dX9_say_21 : decode cX9_say 21 = .ok (.invokevirtual 58, 3) := by decide +kernel
theorem dX9_say_24 : decode cX9_say 24 = .ok (.ireturn, 1) := by decide +kernel
theorem dX9_part_0 : decode cX9_part 0 = .ok (.aload_n 0, 1) := by decide +kernel
theorem dX9_part_1 : decode cX9_part 1 = .ok (.getfield 16, 3) := by decide +kernel
theorem dX9_part_4 : decode cX9_part 4 = .ok (.aload_n 0, 1) := by decide +kernel
theorem dX9_part_5 : decode cX9_part 5 = .ok (.getfield 10, 3) := by decide +kernel
theorem dX9_part_8 : decode cX9_part 8 = .ok (.invokevirtual 51, 3) := by decide +kernel
theorem dX9_part_11 : decode cX9_part 11 = .ok (.aload_n 0, 1) := by decide +kernel
theorem dX9_part_12 : decode cX9_part 12 = .ok (.aload_n 0, 1) := by decide +kernel
theorem dX9_part_13 : decode cX9_part 13 = .ok (.getfield 10, 3) := by decide +kernel
theorem dX9_part_16 : decode cX9_part 16 = .ok (.iload_n 1, 1) := by decide +kernel
theorem dX9_part_17 : decode cX9_part 17 = .ok (.iload_n 2, 1) := by decide +kernel
theorem dX9_part_18 : decode cX9_part 18 = .ok (.iload_n 3, 1) := by decide +kernel
theorem dX9_part_19 : decode cX9_part 19 = .ok (.invokevirtual 66, 3) := by decide +kernel
theorem dX9_part_22 : decode cX9_part 22 = .ok (.invokevirtual 58, 3) := by decide +kernel
theorem dX9_part_25 : decode cX9_part 25 = .ok (.ireturn, 1) := by decide +kernel
theorem dX9_remove_0 : decode cX9_remove 0 = .ok (.aload_n 0, 1) := by decide +kernel
theorem dX9_remove_1 : decode cX9_remove 1 = .ok (.getfield 16, 3) := by decide +kernel
theorem dX9_remove_4 : decode cX9_remove 4 = .ok (.aload_n 0, 1) := by decide +kernel
theorem dX9_remove_5 : decode cX9_remove 5 = .ok (.getfield 10, 3) := by decide +kernel
theorem dX9_remove_8 : decode cX9_remove 8 = .ok (.invokevirtual 51, 3) := by decide +kernel
theorem dX9_remove_11 : decode cX9_remove 11 = .ok (.aload_n 0, 1) := by decide +kernel
theorem dX9_remove_12 : decode cX9_remove 12 = .ok (.aload_n 0, 1) := by decide +kernel
theorem dX9_remove_13 : decode cX9_remove 13 = .ok (.getfield 10, 3) := by decide +kernel
theorem dX9_remove_16 : decode cX9_remove 16 = .ok (.iload_n 1, 1) := by decide +kernel
theorem dX9_remove_17 : decode cX9_remove 17 = .ok (.invokevirtual 69, 3) := by decide +kernel
theorem dX9_remove_20 : decode cX9_remove 20 = .ok (.invokevirtual 58, 3) := by decide +kernel
theorem dX9_remove_23 : decode cX9_remove 23 = .ok (.ireturn, 1) := by decide +kernel
theorem dX9_correct_0 : decode cX9_correct 0 = .ok (.aload_n 0, 1) := by decide +kernel
theorem dX9_correct_1 : decode cX9_correct 1 = .ok (.getfield 16, 3) := by decide +kernel
theorem dX9_correct_4 : decode cX9_correct 4 = .ok (.aload_n 0, 1) := by decide +kernel
theorem dX9_correct_5 : decode cX9_correct 5 = .ok (.getfield 10, 3) := by decide +kernel
theorem dX9_correct_8 : decode cX9_correct 8 = .ok (.invokevirtual 51, 3) := by decide +kernel
theorem dX9_correct_11 : decode cX9_correct 11 = .ok (.aload_n 0, 1) := by decide +kernel
theorem dX9_correct_12 : decode cX9_correct 12 = .ok (.aload_n 0, 1) := by decide +kernel
theorem dX9_correct_13 : decode cX9_correct 13 = .ok (.getfield 10, 3) := by decide +kernel
theorem dX9_correct_16 : decode cX9_correct 16 = .ok (.iload_n 1, 1) := by decide +kernel
theorem dX9_correct_17 : decode cX9_correct 17 = .ok (.iload_n 2, 1) := by decide +kernel
theorem dX9_correct_18 : decode cX9_correct 18 = .ok (.invokevirtual 72, 3) := by decide +kernel
theorem dX9_correct_21 : decode cX9_correct 21 = .ok (.invokevirtual 58, 3) := by decide +kernel
theorem dX9_correct_24 : decode cX9_correct 24 = .ok (.ireturn, 1) := by decide +kernel
theorem dX9_uncorrect_0 : decode cX9_uncorrect 0 = .ok (.aload_n 0, 1) := by decide +kernel
theorem dX9_uncorrect_1 : decode cX9_uncorrect 1 = .ok (.getfield 16, 3) := by decide +kernel
theorem dX9_uncorrect_4 : decode cX9_uncorrect 4 = .ok (.aload_n 0, 1) := by decide +kernel
theorem dX9_uncorrect_5 : decode cX9_uncorrect 5 = .ok (.getfield 10, 3) := by decide +kernel
theorem dX9_uncorrect_8 : decode cX9_uncorrect 8 = .ok (.invokevirtual 51, 3) := by decide +kernel
theorem dX9_uncorrect_11 : decode cX9_uncorrect 11 = .ok (.aload_n 0, 1) := by decide +kernel
theorem dX9_uncorrect_12 : decode cX9_uncorrect 12 = .ok (.aload_n 0, 1) := by decide +kernel
theorem dX9_uncorrect_13 : decode cX9_uncorrect 13 = .ok (.getfield 10, 3) := by decide +kernel
theorem dX9_uncorrect_16 : decode cX9_uncorrect 16 = .ok (.iload_n 1, 1) := by decide +kernel
theorem dX9_uncorrect_17 : decode cX9_uncorrect 17 = .ok (.invokevirtual 75, 3) := by decide +kernel
theorem dX9_uncorrect_20 : decode cX9_uncorrect 20 = .ok (.invokevirtual 58, 3) := by decide +kernel
theorem dX9_uncorrect_23 : decode cX9_uncorrect 23 = .ok (.ireturn, 1) := by decide +kernel
theorem dX9_speaker_0 : decode cX9_speaker 0 = .ok (.aload_n 0, 1) := by decide +kernel
theorem dX9_speaker_1 : decode cX9_speaker 1 = .ok (.getfield 16, 3) := by decide +kernel
theorem dX9_speaker_4 : decode cX9_speaker 4 = .ok (.aload_n 0, 1) := by decide +kernel
theorem dX9_speaker_5 : decode cX9_speaker 5 = .ok (.getfield 10, 3) := by decide +kernel
theorem dX9_speaker_8 : decode cX9_speaker 8 = .ok (.invokevirtual 51, 3) := by decide +kernel
theorem dX9_speaker_11 : decode cX9_speaker 11 = .ok (.aload_n 0, 1) := by decide +kernel
theorem dX9_speaker_12 : decode cX9_speaker 12 = .ok (.aload_n 0, 1) := by decide +kernel
theorem dX9_speaker_13 : decode cX9_speaker 13 = .ok (.getfield 10, 3) := by decide +kernel
theorem dX9_speaker_16 : decode cX9_speaker 16 = .ok (.iload_n 1, 1) := by decide +kernel
theorem dX9_speaker_17 : decode cX9_speaker 17 = .ok (.invokevirtual 78, 3) := by decide +kernel
theorem dX9_speaker_20 : decode cX9_speaker 20 = .ok (.invokevirtual 58, 3) := by decide +kernel
theorem dX9_speaker_23 : decode cX9_speaker 23 = .ok (.ireturn, 1) := by decide +kernel
theorem dX9_give_0 : decode cX9_give 0 = .ok (.aload_n 0, 1) := by decide +kernel
theorem dX9_give_1 : decode cX9_give 1 = .ok (.getfield 16, 3) := by decide +kernel
theorem dX9_give_4 : decode cX9_give 4 = .ok (.aload_n 0, 1) := by decide +kernel
theorem dX9_give_5 : decode cX9_give 5 = .ok (.getfield 10, 3) := by decide +kernel
theorem dX9_give_8 : decode cX9_give 8 = .ok (.invokevirtual 51, 3) := by decide +kernel
theorem dX9_give_11 : decode cX9_give 11 = .ok (.aload_n 0, 1) := by decide +kernel
theorem dX9_give_12 : decode cX9_give 12 = .ok (.aload_n 0, 1) := by decide +kernel
theorem dX9_give_13 : decode cX9_give 13 = .ok (.getfield 10, 3) := by decide +kernel
theorem dX9_give_16 : decode cX9_give 16 = .ok (.iload_n 1, 1) := by decide +kernel
theorem dX9_give_17 : decode cX9_give 17 = .ok (.iload_n 2, 1) := by decide +kernel
theorem dX9_give_18 : decode cX9_give 18 = .ok (.invokevirtual 81, 3) := by decide +kernel
theorem dX9_give_21 : decode cX9_give 21 = .ok (.invokevirtual 58, 3) := by decide +kernel
theorem dX9_give_24 : decode cX9_give 24 = .ok (.ireturn, 1) := by decide +kernel
theorem dX9_join_0 : decode cX9_join 0 = .ok (.aload_n 0, 1) := by decide +kernel
theorem dX9_join_1 : decode cX9_join 1 = .ok (.getfield 16, 3) := by decide +kernel
theorem dX9_join_4 : decode cX9_join 4 = .ok (.aload_n 0, 1) := by decide +kernel
theorem dX9_join_5 : decode cX9_join 5 = .ok (.getfield 10, 3) := by decide +kernel
theorem dX9_join_8 : decode cX9_join 8 = .ok (.invokevirtual 51, 3) := by decide +kernel
theorem dX9_join_11 : decode cX9_join 11 = .ok (.aload_n 0, 1) := by decide +kernel
theorem dX9_join_12 : decode cX9_join 12 = .ok (.aload_n 0, 1) := by decide +kernel
theorem dX9_join_13 : decode cX9_join 13 = .ok (.getfield 10, 3) := by decide +kernel
theorem dX9_join_16 : decode cX9_join 16 = .ok (.iload_n 1, 1) := by decide +kernel
theorem dX9_join_17 : decode cX9_join 17 = .ok (.iload_n 2, 1) := by decide +kernel
theorem dX9_join_18 : decode cX9_join 18 = .ok (.invokevirtual 84, 3) := by decide +kernel
theorem dX9_join_21 : decode cX9_join 21 = .ok (.invokevirtual 58, 3) := by decide +kernel
theorem dX9_join_24 : decode cX9_join 24 = .ok (.ireturn, 1) := by decide +kernel
theorem dX9_set_0 : decode cX9_set 0 = .ok (.aload_n 0, 1) := by decide +kernel
theorem dX9_set_1 : decode cX9_set 1 = .ok (.getfield 16, 3) := by decide +kernel
theorem dX9_set_4 : decode cX9_set 4 = .ok (.aload_n 0, 1) := by decide +kernel
theorem dX9_set_5 : decode cX9_set 5 = .ok (.getfield 10, 3) := by decide +kernel
theorem dX9_set_8 : decode cX9_set 8 = .ok (.invokevirtual 51, 3) := by decide +kernel
theorem dX9_set_11 : decode cX9_set 11 = .ok (.aload_n 0, 1) := by decide +kernel
theorem dX9_set_12 : decode cX9_set 12 = .ok (.aload_n 0, 1) := by decide +kernel
theorem dX9_set_13 : decode cX9_set 13 = .ok (.getfield 10, 3) := by decide +kernel
theorem dX9_set_16 : decode cX9_set 16 = .ok (.iload_n 1, 1) := by decide +kernel
theorem dX9_set_17 : decode cX9_set 17 = .ok (.iload_n 2, 1) := by decide +kernel
theorem dX9_set_18 : decode cX9_set 18 = .ok (.invokevirtual 87, 3) := by decide +kernel
theorem dX9_set_21 : decode cX9_set 21 = .ok (.invokevirtual 58, 3) := by decide +kernel
theorem dX9_set_24 : decode cX9_set 24 = .ok (.ireturn, 1) := by decide +kernel
theorem dX9_turnOf_0 : decode cX9_turnOf 0 = .ok (.aload_n 0, 1) := by decide +kernel
theorem dX9_turnOf_1 : decode cX9_turnOf 1 = .ok (.getfield 31, 3) := by decide +kernel
theorem dX9_turnOf_4 : decode cX9_turnOf 4 = .ok (.iload_n 1, 1) := by decide +kernel
theorem dX9_turnOf_5 : decode cX9_turnOf 5 = .ok (.iload_n 2, 1) := by decide +kernel
theorem dX9_turnOf_6 : decode cX9_turnOf 6 = .ok (.invokevirtual 90, 3) := by decide +kernel
theorem dX9_turnOf_9 : decode cX9_turnOf 9 = .ok (.ireturn, 1) := by decide +kernel
theorem dX9_termAt_0 : decode cX9_termAt 0 = .ok (.aload_n 0, 1) := by decide +kernel
theorem dX9_termAt_1 : decode cX9_termAt 1 = .ok (.getfield 31, 3) := by decide +kernel
theorem dX9_termAt_4 : decode cX9_termAt 4 = .ok (.iload_n 1, 1) := by decide +kernel
theorem dX9_termAt_5 : decode cX9_termAt 5 = .ok (.iload_n 2, 1) := by decide +kernel
theorem dX9_termAt_6 : decode cX9_termAt 6 = .ok (.iload_n 3, 1) := by decide +kernel
theorem dX9_termAt_7 : decode cX9_termAt 7 = .ok (.invokevirtual 93, 3) := by decide +kernel
theorem dX9_termAt_10 : decode cX9_termAt 10 = .ok (.ireturn, 1) := by decide +kernel
theorem dX9_termOf_0 : decode cX9_termOf 0 = .ok (.aload_n 0, 1) := by decide +kernel
theorem dX9_termOf_1 : decode cX9_termOf 1 = .ok (.getfield 31, 3) := by decide +kernel
theorem dX9_termOf_4 : decode cX9_termOf 4 = .ok (.iload_n 1, 1) := by decide +kernel
theorem dX9_termOf_5 : decode cX9_termOf 5 = .ok (.iload_n 2, 1) := by decide +kernel
theorem dX9_termOf_6 : decode cX9_termOf 6 = .ok (.invokevirtual 96, 3) := by decide +kernel
theorem dX9_termOf_9 : decode cX9_termOf 9 = .ok (.ireturn, 1) := by decide +kernel
theorem dX9_speakerOf_0 : decode cX9_speakerOf 0 = .ok (.aload_n 0, 1) := by decide +kernel
theorem dX9_speakerOf_1 : decode cX9_speakerOf 1 = .ok (.getfield 31, 3) := by decide +kernel
theorem dX9_speakerOf_4 : decode cX9_speakerOf 4 = .ok (.iload_n 1, 1) := by decide +kernel
theorem dX9_speakerOf_5 : decode cX9_speakerOf 5 = .ok (.iload_n 2, 1) := by decide +kernel
theorem dX9_speakerOf_6 : decode cX9_speakerOf 6 = .ok (.invokevirtual 99, 3) := by decide +kernel
theorem dX9_speakerOf_9 : decode cX9_speakerOf 9 = .ok (.ireturn, 1) := by decide +kernel
theorem dX9_during_0 : decode cX9_during 0 = .ok (.aload_n 0, 1) := by decide +kernel
theorem dX9_during_1 : decode cX9_during 1 = .ok (.getfield 31, 3) := by decide +kernel
theorem dX9_during_4 : decode cX9_during 4 = .ok (.iload_n 1, 1) := by decide +kernel
theorem dX9_during_5 : decode cX9_during 5 = .ok (.iload_n 2, 1) := by decide +kernel
theorem dX9_during_6 : decode cX9_during 6 = .ok (.invokevirtual 102, 3) := by decide +kernel
theorem dX9_during_9 : decode cX9_during 9 = .ok (.ireturn, 1) := by decide +kernel
theorem dX9_interrupts_0 : decode cX9_interrupts 0 = .ok (.aload_n 0, 1) := by decide +kernel
theorem dX9_interrupts_1 : decode cX9_interrupts 1 = .ok (.getfield 31, 3) := by decide +kernel
theorem dX9_interrupts_4 : decode cX9_interrupts 4 = .ok (.iload_n 1, 1) := by decide +kernel
theorem dX9_interrupts_5 : decode cX9_interrupts 5 = .ok (.iload_n 2, 1) := by decide +kernel
theorem dX9_interrupts_6 : decode cX9_interrupts 6 = .ok (.invokevirtual 105, 3) := by decide +kernel
theorem dX9_interrupts_9 : decode cX9_interrupts 9 = .ok (.ireturn, 1) := by decide +kernel
theorem dX9_nearest_0 : decode cX9_nearest 0 = .ok (.aload_n 0, 1) := by decide +kernel
theorem dX9_nearest_1 : decode cX9_nearest 1 = .ok (.getfield 31, 3) := by decide +kernel
theorem dX9_nearest_4 : decode cX9_nearest 4 = .ok (.iload_n 1, 1) := by decide +kernel
theorem dX9_nearest_5 : decode cX9_nearest 5 = .ok (.invokevirtual 108, 3) := by decide +kernel
theorem dX9_nearest_8 : decode cX9_nearest 8 = .ok (.ireturn, 1) := by decide +kernel
theorem dX9_would_0 : decode cX9_would 0 = .ok (.aload_n 0, 1) := by decide +kernel
theorem dX9_would_1 : decode cX9_would 1 = .ok (.getfield 31, 3) := by decide +kernel
theorem dX9_would_4 : decode cX9_would 4 = .ok (.iload_n 1, 1) := by decide +kernel
theorem dX9_would_5 : decode cX9_would 5 = .ok (.iload_n 2, 1) := by decide +kernel
theorem dX9_would_6 : decode cX9_would 6 = .ok (.invokevirtual 111, 3) := by decide +kernel
theorem dX9_would_9 : decode cX9_would 9 = .ok (.ireturn, 1) := by decide +kernel
theorem dX9_together_0 : decode cX9_together 0 = .ok (.aload_n 0, 1) := by decide +kernel
theorem dX9_together_1 : decode cX9_together 1 = .ok (.getfield 31, 3) := by decide +kernel
theorem dX9_together_4 : decode cX9_together 4 = .ok (.iload_n 1, 1) := by decide +kernel
theorem dX9_together_5 : decode cX9_together 5 = .ok (.invokevirtual 114, 3) := by decide +kernel
theorem dX9_together_8 : decode cX9_together 8 = .ok (.ireturn, 1) := by decide +kernel
theorem dX9_silence_0 : decode cX9_silence 0 = .ok (.aload_n 0, 1) := by decide +kernel
theorem dX9_silence_1 : decode cX9_silence 1 = .ok (.getfield 31, 3) := by decide +kernel
theorem dX9_silence_4 : decode cX9_silence 4 = .ok (.iload_n 1, 1) := by decide +kernel
theorem dX9_silence_5 : decode cX9_silence 5 = .ok (.invokevirtual 117, 3) := by decide +kernel
theorem dX9_silence_8 : decode cX9_silence 8 = .ok (.ireturn, 1) := by decide +kernel
theorem dX9_doubtful_0 : decode cX9_doubtful 0 = .ok (.aload_n 0, 1) := by decide +kernel
theorem dX9_doubtful_1 : decode cX9_doubtful 1 = .ok (.getfield 31, 3) := by decide +kernel
theorem dX9_doubtful_4 : decode cX9_doubtful 4 = .ok (.iload_n 1, 1) := by decide +kernel
theorem dX9_doubtful_5 : decode cX9_doubtful 5 = .ok (.invokevirtual 120, 3) := by decide +kernel
theorem dX9_doubtful_8 : decode cX9_doubtful 8 = .ok (.ireturn, 1) := by decide +kernel
theorem dX9_count_0 : decode cX9_count 0 = .ok (.iload_n 1, 1) := by decide +kernel
theorem dX9_count_1 : decode cX9_count 1 = .ok (.lookupswitch 43 #[(8, 27), (9, 35)], 27) := by decide +kernel
theorem dX9_count_28 : decode cX9_count 28 = .ok (.aload_n 0, 1) := by decide +kernel
theorem dX9_count_29 : decode cX9_count 29 = .ok (.getfield 22, 3) := by decide +kernel
theorem dX9_count_32 : decode cX9_count 32 = .ok (.invokevirtual 123, 3) := by decide +kernel
theorem dX9_count_35 : decode cX9_count 35 = .ok (.ireturn, 1) := by decide +kernel
theorem dX9_count_36 : decode cX9_count 36 = .ok (.aload_n 0, 1) := by decide +kernel
theorem dX9_count_37 : decode cX9_count 37 = .ok (.getfield 38, 3) := by decide +kernel
theorem dX9_count_40 : decode cX9_count 40 = .ok (.invokevirtual 127, 3) := by decide +kernel
theorem dX9_count_43 : decode cX9_count 43 = .ok (.ireturn, 1) := by decide +kernel
theorem dX9_count_44 : decode cX9_count 44 = .ok (.aload_n 0, 1) := by decide +kernel
theorem dX9_count_45 : decode cX9_count 45 = .ok (.getfield 31, 3) := by decide +kernel
theorem dX9_count_48 : decode cX9_count 48 = .ok (.iload_n 1, 1) := by decide +kernel
theorem dX9_count_49 : decode cX9_count 49 = .ok (.invokevirtual 130, 3) := by decide +kernel
theorem dX9_count_52 : decode cX9_count 52 = .ok (.ireturn, 1) := by decide +kernel
theorem dX9_undo_0 : decode cX9_undo 0 = .ok (.aload_n 0, 1) := by decide +kernel
theorem dX9_undo_1 : decode cX9_undo 1 = .ok (.getfield 22, 3) := by decide +kernel
theorem dX9_undo_4 : decode cX9_undo 4 = .ok (.invokevirtual 133, 3) := by decide +kernel
theorem dX9_undo_7 : decode cX9_undo 7 = .ok (.ifCond .eq 6, 3) := by decide +kernel
theorem dX9_undo_10 : decode cX9_undo 10 = .ok (.ldc 137, 2) := by decide +kernel
theorem dX9_undo_12 : decode cX9_undo 12 = .ok (.ireturn, 1) := by decide +kernel
theorem dX9_undo_13 : decode cX9_undo 13 = .ok (.aload_n 0, 1) := by decide +kernel
theorem dX9_undo_14 : decode cX9_undo 14 = .ok (.getfield 22, 3) := by decide +kernel
theorem dX9_undo_17 : decode cX9_undo 17 = .ok (.aload_n 0, 1) := by decide +kernel
theorem dX9_undo_18 : decode cX9_undo 18 = .ok (.getfield 10, 3) := by decide +kernel
theorem dX9_undo_21 : decode cX9_undo 21 = .ok (.invokevirtual 138, 3) := by decide +kernel
theorem dX9_undo_24 : decode cX9_undo 24 = .ok (.ireturn, 1) := by decide +kernel
theorem dX9_type_0 : decode cX9_type 0 = .ok (.iload_n 1, 1) := by decide +kernel
theorem dX9_type_1 : decode cX9_type 1 = .ok (.bipush 32, 2) := by decide +kernel
theorem dX9_type_3 : decode cX9_type 3 = .ok (.bipush 126, 2) := by decide +kernel
theorem dX9_type_5 : decode cX9_type 5 = .ok (.invokestatic 142, 3) := by decide +kernel
theorem dX9_type_8 : decode cX9_type 8 = .ok (.ifCond .ne 6, 3) := by decide +kernel
theorem dX9_type_11 : decode cX9_type 11 = .ok (.ldc 146, 2) := by decide +kernel
theorem dX9_type_13 : decode cX9_type 13 = .ok (.ireturn, 1) := by decide +kernel
theorem dX9_type_14 : decode cX9_type 14 = .ok (.aload_n 0, 1) := by decide +kernel
theorem dX9_type_15 : decode cX9_type 15 = .ok (.getfield 38, 3) := by decide +kernel
theorem dX9_type_18 : decode cX9_type 18 = .ok (.invokevirtual 147, 3) := by decide +kernel
theorem dX9_type_21 : decode cX9_type 21 = .ok (.ifCond .eq 6, 3) := by decide +kernel
theorem dX9_type_24 : decode cX9_type 24 = .ok (.ldc 150, 2) := by decide +kernel
theorem dX9_type_26 : decode cX9_type 26 = .ok (.ireturn, 1) := by decide +kernel
theorem dX9_type_27 : decode cX9_type 27 = .ok (.aload_n 0, 1) := by decide +kernel
theorem dX9_type_28 : decode cX9_type 28 = .ok (.getfield 38, 3) := by decide +kernel
theorem dX9_type_31 : decode cX9_type 31 = .ok (.iload_n 1, 1) := by decide +kernel
theorem dX9_type_32 : decode cX9_type 32 = .ok (.invokevirtual 151, 3) := by decide +kernel
theorem dX9_type_35 : decode cX9_type 35 = .ok (.ireturn, 1) := by decide +kernel
theorem dX9_clearText_0 : decode cX9_clearText 0 = .ok (.aload_n 0, 1) := by decide +kernel
theorem dX9_clearText_1 : decode cX9_clearText 1 = .ok (.getfield 38, 3) := by decide +kernel
theorem dX9_clearText_4 : decode cX9_clearText 4 = .ok (.invokevirtual 154, 3) := by decide +kernel
theorem dX9_clearText_7 : decode cX9_clearText 7 = .ok (.ireturn, 1) := by decide +kernel
theorem dX9_fault_0 : decode cX9_fault 0 = .ok (.iload_n 1, 1) := by decide +kernel
theorem dX9_fault_1 : decode cX9_fault 1 = .ok (.iconst 0, 1) := by decide +kernel
theorem dX9_fault_2 : decode cX9_fault 2 = .ok (.iconst 2, 1) := by decide +kernel
theorem dX9_fault_3 : decode cX9_fault 3 = .ok (.invokestatic 142, 3) := by decide +kernel
theorem dX9_fault_6 : decode cX9_fault 6 = .ok (.ifCond .ne 6, 3) := by decide +kernel
theorem dX9_fault_9 : decode cX9_fault 9 = .ok (.ldc 146, 2) := by decide +kernel
theorem dX9_fault_11 : decode cX9_fault 11 = .ok (.ireturn, 1) := by decide +kernel
theorem dX9_fault_12 : decode cX9_fault 12 = .ok (.aload_n 0, 1) := by decide +kernel
theorem dX9_fault_13 : decode cX9_fault 13 = .ok (.getfield 47, 3) := by decide +kernel
theorem dX9_fault_16 : decode cX9_fault 16 = .ok (.aload_n 0, 1) := by decide +kernel
theorem dX9_fault_17 : decode cX9_fault 17 = .ok (.getfield 10, 3) := by decide +kernel
theorem dX9_fault_20 : decode cX9_fault 20 = .ok (.invokevirtual 157, 3) := by decide +kernel
theorem dX9_fault_23 : decode cX9_fault 23 = .ok (.aload_n 0, 1) := by decide +kernel
theorem dX9_fault_24 : decode cX9_fault 24 = .ok (.getfield 47, 3) := by decide +kernel
theorem dX9_fault_27 : decode cX9_fault 27 = .ok (.invokevirtual 160, 3) := by decide +kernel
theorem dX9_fault_30 : decode cX9_fault 30 = .ok (.ifCond .ne 6, 3) := by decide +kernel
theorem dX9_fault_33 : decode cX9_fault 33 = .ok (.ldc 163, 2) := by decide +kernel
theorem dX9_fault_35 : decode cX9_fault 35 = .ok (.ireturn, 1) := by decide +kernel
theorem dX9_fault_36 : decode cX9_fault 36 = .ok (.iload_n 1, 1) := by decide +kernel
theorem dX9_fault_37 : decode cX9_fault 37 = .ok (.lookupswitch 43 #[(0, 27), (1, 35)], 27) := by decide +kernel
theorem dX9_fault_64 : decode cX9_fault 64 = .ok (.aload_n 0, 1) := by decide +kernel
theorem dX9_fault_65 : decode cX9_fault 65 = .ok (.getfield 47, 3) := by decide +kernel
theorem dX9_fault_68 : decode cX9_fault 68 = .ok (.invokevirtual 164, 3) := by decide +kernel
theorem dX9_fault_71 : decode cX9_fault 71 = .ok (.ireturn, 1) := by decide +kernel
theorem dX9_fault_72 : decode cX9_fault 72 = .ok (.aload_n 0, 1) := by decide +kernel
theorem dX9_fault_73 : decode cX9_fault 73 = .ok (.getfield 47, 3) := by decide +kernel
theorem dX9_fault_76 : decode cX9_fault 76 = .ok (.invokevirtual 167, 3) := by decide +kernel
theorem dX9_fault_79 : decode cX9_fault 79 = .ok (.ireturn, 1) := by decide +kernel
theorem dX9_fault_80 : decode cX9_fault 80 = .ok (.aload_n 0, 1) := by decide +kernel
theorem dX9_fault_81 : decode cX9_fault 81 = .ok (.getfield 47, 3) := by decide +kernel
theorem dX9_fault_84 : decode cX9_fault 84 = .ok (.invokevirtual 170, 3) := by decide +kernel
theorem dX9_fault_87 : decode cX9_fault 87 = .ok (.ireturn, 1) := by decide +kernel
theorem dX9_play_0 : decode cX9_play 0 = .ok (.aload_n 0, 1) := by decide +kernel
theorem dX9_play_1 : decode cX9_play 1 = .ok (.getfield 47, 3) := by decide +kernel
theorem dX9_play_4 : decode cX9_play 4 = .ok (.aload_n 0, 1) := by decide +kernel
theorem dX9_play_5 : decode cX9_play 5 = .ok (.getfield 10, 3) := by decide +kernel
theorem dX9_play_8 : decode cX9_play 8 = .ok (.invokevirtual 157, 3) := by decide +kernel
theorem dX9_play_11 : decode cX9_play 11 = .ok (.aload_n 0, 1) := by decide +kernel
theorem dX9_play_12 : decode cX9_play 12 = .ok (.getfield 47, 3) := by decide +kernel
theorem dX9_play_15 : decode cX9_play 15 = .ok (.invokevirtual 160, 3) := by decide +kernel
theorem dX9_play_18 : decode cX9_play 18 = .ok (.ifCond .eq 6, 3) := by decide +kernel
theorem dX9_play_21 : decode cX9_play 21 = .ok (.ldc 137, 2) := by decide +kernel
theorem dX9_play_23 : decode cX9_play 23 = .ok (.ireturn, 1) := by decide +kernel
theorem dX9_play_24 : decode cX9_play 24 = .ok (.aload_n 0, 1) := by decide +kernel
theorem dX9_play_25 : decode cX9_play 25 = .ok (.getfield 16, 3) := by decide +kernel
theorem dX9_play_28 : decode cX9_play 28 = .ok (.aload_n 0, 1) := by decide +kernel
theorem dX9_play_29 : decode cX9_play 29 = .ok (.getfield 10, 3) := by decide +kernel
theorem dX9_play_32 : decode cX9_play 32 = .ok (.invokevirtual 51, 3) := by decide +kernel
theorem dX9_play_35 : decode cX9_play 35 = .ok (.aload_n 0, 1) := by decide +kernel
theorem dX9_play_36 : decode cX9_play 36 = .ok (.getfield 10, 3) := by decide +kernel
theorem dX9_play_39 : decode cX9_play 39 = .ok (.aload_n 0, 1) := by decide +kernel
theorem dX9_play_40 : decode cX9_play 40 = .ok (.getfield 47, 3) := by decide +kernel
theorem dX9_play_43 : decode cX9_play 43 = .ok (.invokevirtual 173, 3) := by decide +kernel
theorem dX9_play_46 : decode cX9_play 46 = .ok (.invokevirtual 51, 3) := by decide +kernel
theorem dX9_play_49 : decode cX9_play 49 = .ok (.aload_n 0, 1) := by decide +kernel
theorem dX9_play_50 : decode cX9_play 50 = .ok (.aload_n 0, 1) := by decide +kernel
theorem dX9_play_51 : decode cX9_play 51 = .ok (.getfield 47, 3) := by decide +kernel
theorem dX9_play_54 : decode cX9_play 54 = .ok (.invokevirtual 177, 3) := by decide +kernel
theorem dX9_play_57 : decode cX9_play 57 = .ok (.invokevirtual 58, 3) := by decide +kernel
theorem dX9_play_60 : decode cX9_play 60 = .ok (.ireturn, 1) := by decide +kernel
theorem dX9_recorded_0 : decode cX9_recorded 0 = .ok (.iload_n 1, 1) := by decide +kernel
theorem dX9_recorded_1 : decode cX9_recorded 1 = .ok (.ifCond .lt 14, 3) := by decide +kernel
theorem dX9_recorded_4 : decode cX9_recorded 4 = .ok (.aload_n 0, 1) := by decide +kernel
theorem dX9_recorded_5 : decode cX9_recorded 5 = .ok (.getfield 22, 3) := by decide +kernel
theorem dX9_recorded_8 : decode cX9_recorded 8 = .ok (.aload_n 0, 1) := by decide +kernel
theorem dX9_recorded_9 : decode cX9_recorded 9 = .ok (.getfield 16, 3) := by decide +kernel
theorem dX9_recorded_12 : decode cX9_recorded 12 = .ok (.invokevirtual 180, 3) := by decide +kernel
theorem dX9_recorded_15 : decode cX9_recorded 15 = .ok (.iload_n 1, 1) := by decide +kernel
theorem dX9_recorded_16 : decode cX9_recorded 16 = .ok (.ireturn, 1) := by decide +kernel
theorem dX9_isWithin_0 : decode cX9_isWithin 0 = .ok (.iload_n 0, 1) := by decide +kernel
theorem dX9_isWithin_1 : decode cX9_isWithin 1 = .ok (.iload_n 1, 1) := by decide +kernel
theorem dX9_isWithin_2 : decode cX9_isWithin 2 = .ok (.if_icmp .lt 12, 3) := by decide +kernel
theorem dX9_isWithin_5 : decode cX9_isWithin 5 = .ok (.iload_n 0, 1) := by decide +kernel
theorem dX9_isWithin_6 : decode cX9_isWithin 6 = .ok (.iload_n 2, 1) := by decide +kernel
theorem dX9_isWithin_7 : decode cX9_isWithin 7 = .ok (.if_icmp .gt 7, 3) := by decide +kernel
theorem dX9_isWithin_10 : decode cX9_isWithin 10 = .ok (.iconst 1, 1) := by decide +kernel
theorem dX9_isWithin_11 : decode cX9_isWithin 11 = .ok (.goto 4, 3) := by decide +kernel
theorem dX9_isWithin_14 : decode cX9_isWithin 14 = .ok (.iconst 0, 1) := by decide +kernel
theorem dX9_isWithin_15 : decode cX9_isWithin 15 = .ok (.ireturn, 1) := by decide +kernel
theorem dX10_init_0 : decode cX10_init 0 = .ok (.aload_n 0, 1) := by decide +kernel
theorem dX10_init_1 : decode cX10_init 1 = .ok (.invokespecial 1, 3) := by decide +kernel
theorem dX10_init_4 : decode cX10_init 4 = .ok (.aload_n 0, 1) := by decide +kernel
theorem dX10_init_5 : decode cX10_init 5 = .ok (.sipush 284, 3) := by decide +kernel
theorem dX10_init_8 : decode cX10_init 8 = .ok (.newarray .int, 2) := by decide +kernel
theorem dX10_init_10 : decode cX10_init 10 = .ok (.putfield 7, 3) := by decide +kernel
theorem dX10_init_13 : decode cX10_init 13 = .ok (.aload_n 0, 1) := by decide +kernel
theorem dX10_init_14 : decode cX10_init 14 = .ok (.sipush 1136, 3) := by decide +kernel
theorem dX10_init_17 : decode cX10_init 17 = .ok (.newarray .int, 2) := by decide +kernel
theorem dX10_init_19 : decode cX10_init 19 = .ok (.putfield 13, 3) := by decide +kernel
theorem dX10_init_22 : decode cX10_init 22 = .ok (.aload_n 0, 1) := by decide +kernel
theorem dX10_init_23 : decode cX10_init 23 = .ok (.sipush 284, 3) := by decide +kernel
theorem dX10_init_26 : decode cX10_init 26 = .ok (.newarray .int, 2) := by decide +kernel
theorem dX10_init_28 : decode cX10_init 28 = .ok (.putfield 16, 3) := by decide +kernel
theorem dX10_init_31 : decode cX10_init 31 = .ok (.aload_n 0, 1) := by decide +kernel
theorem dX10_init_32 : decode cX10_init 32 = .ok (.bipush 60, 2) := by decide +kernel
theorem dX10_init_34 : decode cX10_init 34 = .ok (.newarray .int, 2) := by decide +kernel
theorem dX10_init_36 : decode cX10_init 36 = .ok (.putfield 19, 3) := by decide +kernel
theorem dX10_init_39 : decode cX10_init 39 = .ok (.aload_n 0, 1) := by decide +kernel
theorem dX10_init_40 : decode cX10_init 40 = .ok (.bipush 13, 2) := by decide +kernel
theorem dX10_init_42 : decode cX10_init 42 = .ok (.newarray .int, 2) := by decide +kernel
theorem dX10_init_44 : decode cX10_init 44 = .ok (.putfield 22, 3) := by decide +kernel
theorem dX10_init_47 : decode cX10_init 47 = .ok (.aload_n 0, 1) := by decide +kernel
theorem dX10_init_48 : decode cX10_init 48 = .ok (.bipush 16, 2) := by decide +kernel
theorem dX10_init_50 : decode cX10_init 50 = .ok (.newarray .int, 2) := by decide +kernel
theorem dX10_init_52 : decode cX10_init 52 = .ok (.putfield 25, 3) := by decide +kernel
theorem dX10_init_55 : decode cX10_init 55 = .ok (.aload_n 0, 1) := by decide +kernel
theorem dX10_init_56 : decode cX10_init 56 = .ok (.iconst 3, 1) := by decide +kernel
theorem dX10_init_57 : decode cX10_init 57 = .ok (.newarray .int, 2) := by decide +kernel
theorem dX10_init_59 : decode cX10_init 59 = .ok (.putfield 28, 3) := by decide +kernel
theorem dX10_init_62 : decode cX10_init 62 = .ok (.iconst 0, 1) := by decide +kernel
theorem dX10_init_63 : decode cX10_init 63 = .ok (.istore_n 1, 1) := by decide +kernel
theorem dX10_init_64 : decode cX10_init 64 = .ok (.iload_n 1, 1) := by decide +kernel
theorem dX10_init_65 : decode cX10_init 65 = .ok (.bipush 16, 2) := by decide +kernel
theorem dX10_init_67 : decode cX10_init 67 = .ok (.if_icmp .ge 20, 3) := by decide +kernel
theorem dX10_init_70 : decode cX10_init 70 = .ok (.aload_n 0, 1) := by decide +kernel
theorem dX10_init_71 : decode cX10_init 71 = .ok (.getfield 7, 3) := by decide +kernel
theorem dX10_init_74 : decode cX10_init 74 = .ok (.sipush 260, 3) := by decide +kernel
theorem dX10_init_77 : decode cX10_init 77 = .ok (.iload_n 1, 1) := by decide +kernel
theorem dX10_init_78 : decode cX10_init 78 = .ok (.iadd, 1) := by decide +kernel
theorem dX10_init_79 : decode cX10_init 79 = .ok (.iconst (-1), 1) := by decide +kernel
theorem dX10_init_80 : decode cX10_init 80 = .ok (.iastore, 1) := by decide +kernel
theorem dX10_init_81 : decode cX10_init 81 = .ok (.iinc 1 1, 3) := by decide +kernel
theorem dX10_init_84 : decode cX10_init 84 = .ok (.goto (-20), 3) := by decide +kernel
theorem dX10_init_87 : decode cX10_init 87 = .ok (.aload_n 0, 1) := by decide +kernel
theorem dX10_init_88 : decode cX10_init 88 = .ok (.getfield 7, 3) := by decide +kernel
theorem dX10_init_91 : decode cX10_init 91 = .ok (.sipush 283, 3) := by decide +kernel
theorem dX10_init_94 : decode cX10_init 94 = .ok (.bipush 30, 2) := by decide +kernel
theorem dX10_init_96 : decode cX10_init 96 = .ok (.iastore, 1) := by decide +kernel
theorem dX10_init_97 : decode cX10_init 97 = .ok (.return_, 1) := by decide +kernel
theorem dX10_in_0 : decode cX10_in 0 = .ok (.iload_n 0, 1) := by decide +kernel
theorem dX10_in_1 : decode cX10_in 1 = .ok (.iload_n 1, 1) := by decide +kernel
theorem dX10_in_2 : decode cX10_in 2 = .ok (.if_icmp .lt 12, 3) := by decide +kernel
theorem dX10_in_5 : decode cX10_in 5 = .ok (.iload_n 0, 1) := by decide +kernel
theorem dX10_in_6 : decode cX10_in 6 = .ok (.iload_n 2, 1) := by decide +kernel
theorem dX10_in_7 : decode cX10_in 7 = .ok (.if_icmp .gt 7, 3) := by decide +kernel
theorem dX10_in_10 : decode cX10_in 10 = .ok (.iconst 1, 1) := by decide +kernel
theorem dX10_in_11 : decode cX10_in 11 = .ok (.goto 4, 3) := by decide +kernel
theorem dX10_in_14 : decode cX10_in 14 = .ok (.iconst 0, 1) := by decide +kernel
theorem dX10_in_15 : decode cX10_in 15 = .ok (.ireturn, 1) := by decide +kernel
theorem dX10_copies_0 : decode cX10_copies 0 = .ok (.iconst 0, 1) := by decide +kernel
theorem dX10_copies_1 : decode cX10_copies 1 = .ok (.istore_n 2, 1) := by decide +kernel
theorem dX10_copies_2 : decode cX10_copies 2 = .ok (.iload_n 2, 1) := by decide +kernel
theorem dX10_copies_3 : decode cX10_copies 3 = .ok (.sipush 284, 3) := by decide +kernel
theorem dX10_copies_6 : decode cX10_copies 6 = .ok (.if_icmp .ge 15, 3) := by decide +kernel
theorem dX10_copies_9 : decode cX10_copies 9 = .ok (.aload_n 1, 1) := by decide +kernel
theorem dX10_copies_10 : decode cX10_copies 10 = .ok (.iload_n 2, 1) := by decide +kernel
theorem dX10_copies_11 : decode cX10_copies 11 = .ok (.aload_n 0, 1) := by decide +kernel
theorem dX10_copies_12 : decode cX10_copies 12 = .ok (.iload_n 2, 1) := by decide +kernel
theorem dX10_copies_13 : decode cX10_copies 13 = .ok (.iaload, 1) := by decide +kernel
theorem dX10_copies_14 : decode cX10_copies 14 = .ok (.iastore, 1) := by decide +kernel
theorem dX10_copies_15 : decode cX10_copies 15 = .ok (.iinc 2 1, 3) := by decide +kernel
theorem dX10_copies_18 : decode cX10_copies 18 = .ok (.goto (-16), 3) := by decide +kernel
theorem dX10_copies_21 : decode cX10_copies 21 = .ok (.return_, 1) := by decide +kernel
theorem dX10_changes_0 : decode cX10_changes 0 = .ok (.aload_n 0, 1) := by decide +kernel
theorem dX10_changes_1 : decode cX10_changes 1 = .ok (.getfield 31, 3) := by decide +kernel
theorem dX10_changes_4 : decode cX10_changes 4 = .ok (.ifCond .eq 4, 3) := by decide +kernel
theorem dX10_changes_7 : decode cX10_changes 7 = .ok (.return_, 1) := by decide +kernel
theorem dX10_changes_8 : decode cX10_changes 8 = .ok (.aload_n 0, 1) := by decide +kernel
theorem dX10_changes_9 : decode cX10_changes 9 = .ok (.getfield 35, 3) := by decide +kernel
theorem dX10_changes_12 : decode cX10_changes 12 = .ok (.iconst 4, 1) := by decide +kernel
theorem dX10_changes_13 : decode cX10_changes 13 = .ok (.if_icmp .ne 44, 3) := by decide +kernel
theorem dX10_changes_16 : decode cX10_changes 16 = .ok (.iconst 0, 1) := by decide +kernel
theorem dX10_changes_17 : decode cX10_changes 17 = .ok (.istore_n 1, 1) := by decide +kernel
theorem dX10_changes_18 : decode cX10_changes 18 = .ok (.iload_n 1, 1) := by decide +kernel
theorem dX10_changes_19 : decode cX10_changes 19 = .ok (.sipush 852, 3) := by decide +kernel
theorem dX10_changes_22 : decode cX10_changes 22 = .ok (.if_icmp .ge 25, 3) := by decide +kernel
theorem dX10_changes_25 : decode cX10_changes 25 = .ok (.aload_n 0, 1) := by decide +kernel
theorem dX10_changes_26 : decode cX10_changes 26 = .ok (.getfield 13, 3) := by decide +kernel
theorem dX10_changes_29 : decode cX10_changes 29 = .ok (.iload_n 1, 1) := by decide +kernel
