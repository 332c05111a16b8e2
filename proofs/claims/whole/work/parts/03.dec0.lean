theorem dX0_init_0 : decode cX0_init 0 = .ok (.aload_n 0, 1) := by decide +kernel
theorem dX0_init_1 : decode cX0_init 1 = .ok (.invokespecial 3, 3) := by decide +kernel
theorem dX0_init_4 : decode cX0_init 4 = .ok (.aload_n 0, 1) := by decide +kernel
theorem dX0_init_5 : decode cX0_init 5 = .ok (.bipush 16, 2) := by decide +kernel
theorem dX0_init_7 : decode cX0_init 7 = .ok (.newarray .int, 2) := by decide +kernel
theorem dX0_init_9 : decode cX0_init 9 = .ok (.putfield 9, 3) := by decide +kernel
theorem dX0_init_12 : decode cX0_init 12 = .ok (.aload_n 0, 1) := by decide +kernel
theorem dX0_init_13 : decode cX0_init 13 = .ok (.getfield 9, 3) := by decide +kernel
theorem dX0_init_16 : decode cX0_init 16 = .ok (.iconst (-1), 1) := by decide +kernel
theorem dX0_init_17 : decode cX0_init 17 = .ok (.invokestatic 15, 3) := by decide +kernel
theorem dX0_init_20 : decode cX0_init 20 = .ok (.return_, 1) := by decide +kernel
theorem dX0_takeFrom_0 : decode cX0_takeFrom 0 = .ok (.aload_n 1, 1) := by decide +kernel
theorem dX0_takeFrom_1 : decode cX0_takeFrom 1 = .ok (.getfield 9, 3) := by decide +kernel
theorem dX0_takeFrom_4 : decode cX0_takeFrom 4 = .ok (.iconst 0, 1) := by decide +kernel
theorem dX0_takeFrom_5 : decode cX0_takeFrom 5 = .ok (.aload_n 0, 1) := by decide +kernel
theorem dX0_takeFrom_6 : decode cX0_takeFrom 6 = .ok (.getfield 9, 3) := by decide +kernel
theorem dX0_takeFrom_9 : decode cX0_takeFrom 9 = .ok (.iconst 0, 1) := by decide +kernel
theorem dX0_takeFrom_10 : decode cX0_takeFrom 10 = .ok (.bipush 16, 2) := by decide +kernel
theorem dX0_takeFrom_12 : decode cX0_takeFrom 12 = .ok (.invokestatic 21, 3) := by decide +kernel
theorem dX0_takeFrom_15 : decode cX0_takeFrom 15 = .ok (.return_, 1) := by decide +kernel
theorem dX0_isTerm_0 : decode cX0_isTerm 0 = .ok (.iload_n 0, 1) := by decide +kernel
theorem dX0_isTerm_1 : decode cX0_isTerm 1 = .ok (.iconst 0, 1) := by decide +kernel
theorem dX0_isTerm_2 : decode cX0_isTerm 2 = .ok (.bipush 15, 2) := by decide +kernel
theorem dX0_isTerm_4 : decode cX0_isTerm 4 = .ok (.invokestatic 27, 3) := by decide +kernel
theorem dX0_isTerm_7 : decode cX0_isTerm 7 = .ok (.ireturn, 1) := by decide +kernel
theorem dX0_targetOf_0 : decode cX0_targetOf 0 = .ok (.aload_n 0, 1) := by decide +kernel
theorem dX0_targetOf_1 : decode cX0_targetOf 1 = .ok (.iload_n 1, 1) := by decide +kernel
theorem dX0_targetOf_2 : decode cX0_targetOf 2 = .ok (.invokevirtual 31, 3) := by decide +kernel
theorem dX0_targetOf_5 : decode cX0_targetOf 5 = .ok (.ifCond .eq 12, 3) := by decide +kernel
theorem dX0_targetOf_8 : decode cX0_targetOf 8 = .ok (.aload_n 0, 1) := by decide +kernel
theorem dX0_targetOf_9 : decode cX0_targetOf 9 = .ok (.getfield 9, 3) := by decide +kernel
theorem dX0_targetOf_12 : decode cX0_targetOf 12 = .ok (.iload_n 1, 1) := by decide +kernel
theorem dX0_targetOf_13 : decode cX0_targetOf 13 = .ok (.iaload, 1) := by decide +kernel
theorem dX0_targetOf_14 : decode cX0_targetOf 14 = .ok (.goto 4, 3) := by decide +kernel
theorem dX0_targetOf_17 : decode cX0_targetOf 17 = .ok (.iconst (-1), 1) := by decide +kernel
theorem dX0_targetOf_18 : decode cX0_targetOf 18 = .ok (.ireturn, 1) := by decide +kernel
theorem dX0_isCorrected_0 : decode cX0_isCorrected 0 = .ok (.iload_n 1, 1) := by decide +kernel
theorem dX0_isCorrected_1 : decode cX0_isCorrected 1 = .ok (.ifCond .lt 23, 3) := by decide +kernel
theorem dX0_isCorrected_4 : decode cX0_isCorrected 4 = .ok (.iload_n 1, 1) := by decide +kernel
theorem dX0_isCorrected_5 : decode cX0_isCorrected 5 = .ok (.bipush 16, 2) := by decide +kernel
theorem dX0_isCorrected_7 : decode cX0_isCorrected 7 = .ok (.if_icmp .ge 17, 3) := by decide +kernel
theorem dX0_isCorrected_10 : decode cX0_isCorrected 10 = .ok (.aload_n 0, 1) := by decide +kernel
theorem dX0_isCorrected_11 : decode cX0_isCorrected 11 = .ok (.getfield 9, 3) := by decide +kernel
theorem dX0_isCorrected_14 : decode cX0_isCorrected 14 = .ok (.iload_n 1, 1) := by decide +kernel
theorem dX0_isCorrected_15 : decode cX0_isCorrected 15 = .ok (.iaload, 1) := by decide +kernel
theorem dX0_isCorrected_16 : decode cX0_isCorrected 16 = .ok (.iconst (-1), 1) := by decide +kernel
theorem dX0_isCorrected_17 : decode cX0_isCorrected 17 = .ok (.if_icmp .eq 7, 3) := by decide +kernel
theorem dX0_isCorrected_20 : decode cX0_isCorrected 20 = .ok (.iconst 1, 1) := by decide +kernel
theorem dX0_isCorrected_21 : decode cX0_isCorrected 21 = .ok (.goto 4, 3) := by decide +kernel
theorem dX0_isCorrected_24 : decode cX0_isCorrected 24 = .ok (.iconst 0, 1) := by decide +kernel
theorem dX0_isCorrected_25 : decode cX0_isCorrected 25 = .ok (.ireturn, 1) := by decide +kernel
theorem dX0_put_0 : decode cX0_put 0 = .ok (.iload_n 1, 1) := by decide +kernel
theorem dX0_put_1 : decode cX0_put 1 = .ok (.invokestatic 35, 3) := by decide +kernel
theorem dX0_put_4 : decode cX0_put 4 = .ok (.ifCond .eq 10, 3) := by decide +kernel
theorem dX0_put_7 : decode cX0_put 7 = .ok (.aload_n 0, 1) := by decide +kernel
theorem dX0_put_8 : decode cX0_put 8 = .ok (.getfield 9, 3) := by decide +kernel
theorem dX0_put_11 : decode cX0_put 11 = .ok (.iload_n 1, 1) := by decide +kernel
theorem dX0_put_12 : decode cX0_put 12 = .ok (.iload_n 2, 1) := by decide +kernel
theorem dX0_put_13 : decode cX0_put 13 = .ok (.iastore, 1) := by decide +kernel
theorem dX0_put_14 : decode cX0_put 14 = .ok (.return_, 1) := by decide +kernel
theorem dX0_shown_0 : decode cX0_shown 0 = .ok (.iload_n 1, 1) := by decide +kernel
theorem dX0_shown_1 : decode cX0_shown 1 = .ok (.istore_n 2, 1) := by decide +kernel
theorem dX0_shown_2 : decode cX0_shown 2 = .ok (.iconst 0, 1) := by decide +kernel
theorem dX0_shown_3 : decode cX0_shown 3 = .ok (.istore_n 3, 1) := by decide +kernel
theorem dX0_shown_4 : decode cX0_shown 4 = .ok (.iload_n 3, 1) := by decide +kernel
theorem dX0_shown_5 : decode cX0_shown 5 = .ok (.bipush 16, 2) := by decide +kernel
theorem dX0_shown_7 : decode cX0_shown 7 = .ok (.if_icmp .ge 24, 3) := by decide +kernel
theorem dX0_shown_10 : decode cX0_shown 10 = .ok (.aload_n 0, 1) := by decide +kernel
theorem dX0_shown_11 : decode cX0_shown 11 = .ok (.iload_n 2, 1) := by decide +kernel
theorem dX0_shown_12 : decode cX0_shown 12 = .ok (.invokevirtual 31, 3) := by decide +kernel
theorem dX0_shown_15 : decode cX0_shown 15 = .ok (.ifCond .eq 16, 3) := by decide +kernel
theorem dX0_shown_18 : decode cX0_shown 18 = .ok (.aload_n 0, 1) := by decide +kernel
theorem dX0_shown_19 : decode cX0_shown 19 = .ok (.getfield 9, 3) := by decide +kernel
theorem dX0_shown_22 : decode cX0_shown 22 = .ok (.iload_n 2, 1) := by decide +kernel
theorem dX0_shown_23 : decode cX0_shown 23 = .ok (.iaload, 1) := by decide +kernel
theorem dX0_shown_24 : decode cX0_shown 24 = .ok (.istore_n 2, 1) := by decide +kernel
theorem dX0_shown_25 : decode cX0_shown 25 = .ok (.iinc 3 1, 3) := by decide +kernel
theorem dX0_shown_28 : decode cX0_shown 28 = .ok (.goto (-24), 3) := by decide +kernel
theorem dX0_shown_31 : decode cX0_shown 31 = .ok (.iload_n 2, 1) := by decide +kernel
theorem dX0_shown_32 : decode cX0_shown 32 = .ok (.ireturn, 1) := by decide +kernel
theorem dX0_chainOf_0 : decode cX0_chainOf 0 = .ok (.iload_n 1, 1) := by decide +kernel
theorem dX0_chainOf_1 : decode cX0_chainOf 1 = .ok (.istore_n 2, 1) := by decide +kernel
theorem dX0_chainOf_2 : decode cX0_chainOf 2 = .ok (.iconst 0, 1) := by decide +kernel
theorem dX0_chainOf_3 : decode cX0_chainOf 3 = .ok (.istore_n 3, 1) := by decide +kernel
theorem dX0_chainOf_4 : decode cX0_chainOf 4 = .ok (.iload_n 3, 1) := by decide +kernel
theorem dX0_chainOf_5 : decode cX0_chainOf 5 = .ok (.bipush 16, 2) := by decide +kernel
theorem dX0_chainOf_7 : decode cX0_chainOf 7 = .ok (.if_icmp .ge 24, 3) := by decide +kernel
theorem dX0_chainOf_10 : decode cX0_chainOf 10 = .ok (.aload_n 0, 1) := by decide +kernel
theorem dX0_chainOf_11 : decode cX0_chainOf 11 = .ok (.iload_n 2, 1) := by decide +kernel
theorem dX0_chainOf_12 : decode cX0_chainOf 12 = .ok (.invokevirtual 31, 3) := by decide +kernel
theorem dX0_chainOf_15 : decode cX0_chainOf 15 = .ok (.ifCond .eq 16, 3) := by decide +kernel
theorem dX0_chainOf_18 : decode cX0_chainOf 18 = .ok (.aload_n 0, 1) := by decide +kernel
theorem dX0_chainOf_19 : decode cX0_chainOf 19 = .ok (.getfield 9, 3) := by decide +kernel
theorem dX0_chainOf_22 : decode cX0_chainOf 22 = .ok (.iload_n 2, 1) := by decide +kernel
theorem dX0_chainOf_23 : decode cX0_chainOf 23 = .ok (.iaload, 1) := by decide +kernel
theorem dX0_chainOf_24 : decode cX0_chainOf 24 = .ok (.istore_n 2, 1) := by decide +kernel
theorem dX0_chainOf_25 : decode cX0_chainOf 25 = .ok (.iinc 3 1, 3) := by decide +kernel
theorem dX0_chainOf_28 : decode cX0_chainOf 28 = .ok (.goto (-24), 3) := by decide +kernel
theorem dX0_chainOf_31 : decode cX0_chainOf 31 = .ok (.iload_n 3, 1) := by decide +kernel
theorem dX0_chainOf_32 : decode cX0_chainOf 32 = .ok (.ireturn, 1) := by decide +kernel
theorem dX0_leadsTo_0 : decode cX0_leadsTo 0 = .ok (.iload_n 1, 1) := by decide +kernel
theorem dX0_leadsTo_1 : decode cX0_leadsTo 1 = .ok (.istore_n 3, 1) := by decide +kernel
theorem dX0_leadsTo_2 : decode cX0_leadsTo 2 = .ok (.iconst 0, 1) := by decide +kernel
theorem dX0_leadsTo_3 : decode cX0_leadsTo 3 = .ok (.istore 4, 2) := by decide +kernel
theorem dX0_leadsTo_5 : decode cX0_leadsTo 5 = .ok (.iload 4, 2) := by decide +kernel
theorem dX0_leadsTo_7 : decode cX0_leadsTo 7 = .ok (.bipush 16, 2) := by decide +kernel
theorem dX0_leadsTo_9 : decode cX0_leadsTo 9 = .ok (.if_icmp .ge 29, 3) := by decide +kernel
theorem dX0_leadsTo_12 : decode cX0_leadsTo 12 = .ok (.iload_n 3, 1) := by decide +kernel
theorem dX0_leadsTo_13 : decode cX0_leadsTo 13 = .ok (.iload_n 2, 1) := by decide +kernel
theorem dX0_leadsTo_14 : decode cX0_leadsTo 14 = .ok (.if_icmp .eq 24, 3) := by decide +kernel
theorem dX0_leadsTo_17 : decode cX0_leadsTo 17 = .ok (.aload_n 0, 1) := by decide +kernel
theorem dX0_leadsTo_18 : decode cX0_leadsTo 18 = .ok (.iload_n 3, 1) := by decide +kernel
theorem dX0_leadsTo_19 : decode cX0_leadsTo 19 = .ok (.invokevirtual 31, 3) := by decide +kernel
theorem dX0_leadsTo_22 : decode cX0_leadsTo 22 = .ok (.ifCond .eq 16, 3) := by decide +kernel
theorem dX0_leadsTo_25 : decode cX0_leadsTo 25 = .ok (.aload_n 0, 1) := by decide +kernel
theorem dX0_leadsTo_26 : decode cX0_leadsTo 26 = .ok (.getfield 9, 3) := by decide +kernel
theorem dX0_leadsTo_29 : decode cX0_leadsTo 29 = .ok (.iload_n 3, 1) := by decide +kernel
theorem dX0_leadsTo_30 : decode cX0_leadsTo 30 = .ok (.iaload, 1) := by decide +kernel
theorem dX0_leadsTo_31 : decode cX0_leadsTo 31 = .ok (.istore_n 3, 1) := by decide +kernel
theorem dX0_leadsTo_32 : decode cX0_leadsTo 32 = .ok (.iinc 4 1, 3) := by decide +kernel
theorem dX0_leadsTo_35 : decode cX0_leadsTo 35 = .ok (.goto (-30), 3) := by decide +kernel
theorem dX0_leadsTo_38 : decode cX0_leadsTo 38 = .ok (.iload_n 3, 1) := by decide +kernel
theorem dX0_leadsTo_39 : decode cX0_leadsTo 39 = .ok (.iload_n 2, 1) := by decide +kernel
theorem dX0_leadsTo_40 : decode cX0_leadsTo 40 = .ok (.if_icmp .ne 7, 3) := by decide +kernel
theorem dX0_leadsTo_43 : decode cX0_leadsTo 43 = .ok (.iconst 1, 1) := by decide +kernel
theorem dX0_leadsTo_44 : decode cX0_leadsTo 44 = .ok (.goto 4, 3) := by decide +kernel
theorem dX0_leadsTo_47 : decode cX0_leadsTo 47 = .ok (.iconst 0, 1) := by decide +kernel
theorem dX0_leadsTo_48 : decode cX0_leadsTo 48 = .ok (.ireturn, 1) := by decide +kernel
theorem dX0_errorOf_0 : decode cX0_errorOf 0 = .ok (.iload_n 1, 1) := by decide +kernel
theorem dX0_errorOf_1 : decode cX0_errorOf 1 = .ok (.invokestatic 35, 3) := by decide +kernel
theorem dX0_errorOf_4 : decode cX0_errorOf 4 = .ok (.ifCond .eq 15, 3) := by decide +kernel
theorem dX0_errorOf_7 : decode cX0_errorOf 7 = .ok (.iload_n 2, 1) := by decide +kernel
theorem dX0_errorOf_8 : decode cX0_errorOf 8 = .ok (.invokestatic 35, 3) := by decide +kernel
theorem dX0_errorOf_11 : decode cX0_errorOf 11 = .ok (.ifCond .eq 8, 3) := by decide +kernel
theorem dX0_errorOf_14 : decode cX0_errorOf 14 = .ok (.iload_n 1, 1) := by decide +kernel
theorem dX0_errorOf_15 : decode cX0_errorOf 15 = .ok (.iload_n 2, 1) := by decide +kernel
theorem dX0_errorOf_16 : decode cX0_errorOf 16 = .ok (.if_icmp .ne 6, 3) := by decide +kernel
theorem dX0_errorOf_19 : decode cX0_errorOf 19 = .ok (.ldc 38, 2) := by decide +kernel
theorem dX0_errorOf_21 : decode cX0_errorOf 21 = .ok (.ireturn, 1) := by decide +kernel
theorem dX0_errorOf_22 : decode cX0_errorOf 22 = .ok (.aload_n 0, 1) := by decide +kernel
theorem dX0_errorOf_23 : decode cX0_errorOf 23 = .ok (.iload_n 2, 1) := by decide +kernel
theorem dX0_errorOf_24 : decode cX0_errorOf 24 = .ok (.iload_n 1, 1) := by decide +kernel
theorem dX0_errorOf_25 : decode cX0_errorOf 25 = .ok (.invokevirtual 39, 3) := by decide +kernel
theorem dX0_errorOf_28 : decode cX0_errorOf 28 = .ok (.ifCond .eq 8, 3) := by decide +kernel
theorem dX0_errorOf_31 : decode cX0_errorOf 31 = .ok (.ldc 43, 2) := by decide +kernel
theorem dX0_errorOf_33 : decode cX0_errorOf 33 = .ok (.goto 4, 3) := by decide +kernel
theorem dX0_errorOf_36 : decode cX0_errorOf 36 = .ok (.iconst 0, 1) := by decide +kernel
theorem dX0_errorOf_37 : decode cX0_errorOf 37 = .ok (.ireturn, 1) := by decide +kernel
theorem dX0_shownAs_0 : decode cX0_shownAs 0 = .ok (.iconst 0, 1) := by decide +kernel
theorem dX0_shownAs_1 : decode cX0_shownAs 1 = .ok (.istore_n 2, 1) := by decide +kernel
theorem dX0_shownAs_2 : decode cX0_shownAs 2 = .ok (.iconst 0, 1) := by decide +kernel
theorem dX0_shownAs_3 : decode cX0_shownAs 3 = .ok (.istore_n 3, 1) := by decide +kernel
theorem dX0_shownAs_4 : decode cX0_shownAs 4 = .ok (.iload_n 3, 1) := by decide +kernel
theorem dX0_shownAs_5 : decode cX0_shownAs 5 = .ok (.bipush 16, 2) := by decide +kernel
theorem dX0_shownAs_7 : decode cX0_shownAs 7 = .ok (.if_icmp .ge 24, 3) := by decide +kernel
theorem dX0_shownAs_10 : decode cX0_shownAs 10 = .ok (.aload_n 0, 1) := by decide +kernel
theorem dX0_shownAs_11 : decode cX0_shownAs 11 = .ok (.iload_n 3, 1) := by decide +kernel
theorem dX0_shownAs_12 : decode cX0_shownAs 12 = .ok (.invokevirtual 44, 3) := by decide +kernel
theorem dX0_shownAs_15 : decode cX0_shownAs 15 = .ok (.iload_n 1, 1) := by decide +kernel
theorem dX0_shownAs_16 : decode cX0_shownAs 16 = .ok (.if_icmp .ne 9, 3) := by decide +kernel
theorem dX0_shownAs_19 : decode cX0_shownAs 19 = .ok (.iload_n 2, 1) := by decide +kernel
theorem dX0_shownAs_20 : decode cX0_shownAs 20 = .ok (.iconst 1, 1) := by decide +kernel
theorem dX0_shownAs_21 : decode cX0_shownAs 21 = .ok (.iload_n 3, 1) := by decide +kernel
theorem dX0_shownAs_22 : decode cX0_shownAs 22 = .ok (.ishl, 1) := by decide +kernel
theorem dX0_shownAs_23 : decode cX0_shownAs 23 = .ok (.ior, 1) := by decide +kernel
theorem dX0_shownAs_24 : decode cX0_shownAs 24 = .ok (.istore_n 2, 1) := by decide +kernel
theorem dX0_shownAs_25 : decode cX0_shownAs 25 = .ok (.iinc 3 1, 3) := by decide +kernel
theorem dX0_shownAs_28 : decode cX0_shownAs 28 = .ok (.goto (-24), 3) := by decide +kernel
theorem dX0_shownAs_31 : decode cX0_shownAs 31 = .ok (.iload_n 2, 1) := by decide +kernel
theorem dX0_shownAs_32 : decode cX0_shownAs 32 = .ok (.ireturn, 1) := by decide +kernel
theorem dX0_size_0 : decode cX0_size 0 = .ok (.iconst 0, 1) := by decide +kernel
theorem dX0_size_1 : decode cX0_size 1 = .ok (.istore_n 1, 1) := by decide +kernel
theorem dX0_size_2 : decode cX0_size 2 = .ok (.iconst 0, 1) := by decide +kernel
theorem dX0_size_3 : decode cX0_size 3 = .ok (.istore_n 2, 1) := by decide +kernel
theorem dX0_size_4 : decode cX0_size 4 = .ok (.iload_n 2, 1) := by decide +kernel
theorem dX0_size_5 : decode cX0_size 5 = .ok (.bipush 16, 2) := by decide +kernel
theorem dX0_size_7 : decode cX0_size 7 = .ok (.if_icmp .ge 20, 3) := by decide +kernel
theorem dX0_size_10 : decode cX0_size 10 = .ok (.aload_n 0, 1) := by decide +kernel
theorem dX0_size_11 : decode cX0_size 11 = .ok (.iload_n 2, 1) := by decide +kernel
theorem dX0_size_12 : decode cX0_size 12 = .ok (.invokevirtual 31, 3) := by decide +kernel
theorem dX0_size_15 : decode cX0_size 15 = .ok (.ifCond .eq 6, 3) := by decide +kernel
theorem dX0_size_18 : decode cX0_size 18 = .ok (.iinc 1 1, 3) := by decide +kernel
theorem dX0_size_21 : decode cX0_size 21 = .ok (.iinc 2 1, 3) := by decide +kernel
theorem dX0_size_24 : decode cX0_size 24 = .ok (.goto (-20), 3) := by decide +kernel
theorem dX0_size_27 : decode cX0_size 27 = .ok (.iload_n 1, 1) := by decide +kernel
theorem dX0_size_28 : decode cX0_size 28 = .ok (.ireturn, 1) := by decide +kernel
theorem dX1_init_0 : decode cX1_init 0 = .ok (.aload_n 0, 1) := by decide +kernel
theorem dX1_init_1 : decode cX1_init 1 = .ok (.invokespecial 3, 3) := by decide +kernel
theorem dX1_init_4 : decode cX1_init 4 = .ok (.aload_n 0, 1) := by decide +kernel
theorem dX1_init_5 : decode cX1_init 5 = .ok (.iconst 4, 1) := by decide +kernel
theorem dX1_init_6 : decode cX1_init 6 = .ok (.anewarray 9, 3) := by decide +kernel
theorem dX1_init_9 : decode cX1_init 9 = .ok (.putfield 11, 3) := by decide +kernel
theorem dX1_init_12 : decode cX1_init 12 = .ok (.iconst 0, 1) := by decide +kernel
theorem dX1_init_13 : decode cX1_init 13 = .ok (.istore_n 1, 1) := by decide +kernel
theorem dX1_init_14 : decode cX1_init 14 = .ok (.iload_n 1, 1) := by decide +kernel
theorem dX1_init_15 : decode cX1_init 15 = .ok (.iconst 4, 1) := by decide +kernel
theorem dX1_init_16 : decode cX1_init 16 = .ok (.if_icmp .ge 22, 3) := by decide +kernel
theorem dX1_init_19 : decode cX1_init 19 = .ok (.aload_n 0, 1) := by decide +kernel
theorem dX1_init_20 : decode cX1_init 20 = .ok (.getfield 11, 3) := by decide +kernel
theorem dX1_init_23 : decode cX1_init 23 = .ok (.iload_n 1, 1) := by decide +kernel
theorem dX1_init_24 : decode cX1_init 24 = .ok (.new 9, 3) := by decide +kernel
theorem dX1_init_27 : decode cX1_init 27 = .ok (.dup, 1) := by decide +kernel
theorem dX1_init_28 : decode cX1_init 28 = .ok (.invokespecial 17, 3) := by decide +kernel
theorem dX1_init_31 : decode cX1_init 31 = .ok (.aastore, 1) := by decide +kernel
theorem dX1_init_32 : decode cX1_init 32 = .ok (.iinc 1 1, 3) := by decide +kernel
theorem dX1_init_35 : decode cX1_init 35 = .ok (.goto (-21), 3) := by decide +kernel
theorem dX1_init_38 : decode cX1_init 38 = .ok (.return_, 1) := by decide +kernel
theorem dX1_size_0 : decode cX1_size 0 = .ok (.aload_n 0, 1) := by decide +kernel
theorem dX1_size_1 : decode cX1_size 1 = .ok (.getfield 18, 3) := by decide +kernel
theorem dX1_size_4 : decode cX1_size 4 = .ok (.ireturn, 1) := by decide +kernel
theorem dX1_isEmpty_0 : decode cX1_isEmpty 0 = .ok (.aload_n 0, 1) := by decide +kernel
theorem dX1_isEmpty_1 : decode cX1_isEmpty 1 = .ok (.getfield 18, 3) := by decide +kernel
theorem dX1_isEmpty_4 : decode cX1_isEmpty 4 = .ok (.ifCond .ne 7, 3) := by decide +kernel
theorem dX1_isEmpty_7 : decode cX1_isEmpty 7 = .ok (.iconst 1, 1) := by decide +kernel
theorem dX1_isEmpty_8 : decode cX1_isEmpty 8 = .ok (.goto 4, 3) := by decide +kernel
theorem dX1_isEmpty_11 : decode cX1_isEmpty 11 = .ok (.iconst 0, 1) := by decide +kernel
theorem dX1_isEmpty_12 : decode cX1_isEmpty 12 = .ok (.ireturn, 1) := by decide +kernel
theorem dX1_keep_0 : decode cX1_keep 0 = .ok (.aload_n 1, 1) := by decide +kernel
theorem dX1_keep_1 : decode cX1_keep 1 = .ok (.aload_n 0, 1) := by decide +kernel
theorem dX1_keep_2 : decode cX1_keep 2 = .ok (.aload_n 0, 1) := by decide +kernel
theorem dX1_keep_3 : decode cX1_keep 3 = .ok (.getfield 18, 3) := by decide +kernel
theorem dX1_keep_6 : decode cX1_keep 6 = .ok (.invokevirtual 22, 3) := by decide +kernel
theorem dX1_keep_9 : decode cX1_keep 9 = .ok (.invokestatic 26, 3) := by decide +kernel
theorem dX1_keep_12 : decode cX1_keep 12 = .ok (.aload_n 0, 1) := by decide +kernel
theorem dX1_keep_13 : decode cX1_keep 13 = .ok (.getfield 18, 3) := by decide +kernel
theorem dX1_keep_16 : decode cX1_keep 16 = .ok (.iconst 4, 1) := by decide +kernel
theorem dX1_keep_17 : decode cX1_keep 17 = .ok (.if_icmp .ge 16, 3) := by decide +kernel
theorem dX1_keep_20 : decode cX1_keep 20 = .ok (.aload_n 0, 1) := by decide +kernel
theorem dX1_keep_21 : decode cX1_keep 21 = .ok (.dup, 1) := by decide +kernel
theorem dX1_keep_22 : decode cX1_keep 22 = .ok (.getfield 18, 3) := by decide +kernel
theorem dX1_keep_25 : decode cX1_keep 25 = .ok (.iconst 1, 1) := by decide +kernel
theorem dX1_keep_26 : decode cX1_keep 26 = .ok (.iadd, 1) := by decide +kernel
theorem dX1_keep_27 : decode cX1_keep 27 = .ok (.putfield 18, 3) := by decide +kernel
theorem dX1_keep_30 : decode cX1_keep 30 = .ok (.goto 15, 3) := by decide +kernel
theorem dX1_keep_33 : decode cX1_keep 33 = .ok (.aload_n 0, 1) := by decide +kernel
theorem dX1_keep_34 : decode cX1_keep 34 = .ok (.aload_n 0, 1) := by decide +kernel
theorem dX1_keep_35 : decode cX1_keep 35 = .ok (.getfield 30, 3) := by decide +kernel
theorem dX1_keep_38 : decode cX1_keep 38 = .ok (.iconst 1, 1) := by decide +kernel
theorem dX1_keep_39 : decode cX1_keep 39 = .ok (.iadd, 1) := by decide +kernel
theorem dX1_keep_40 : decode cX1_keep 40 = .ok (.iconst 4, 1) := by decide +kernel
theorem dX1_keep_41 : decode cX1_keep 41 = .ok (.irem, 1) := by decide +kernel
theorem dX1_keep_42 : decode cX1_keep 42 = .ok (.putfield 30, 3) := by decide +kernel
theorem dX1_keep_45 : decode cX1_keep 45 = .ok (.return_, 1) := by decide +kernel
theorem dX1_restoreLatest_0 : decode cX1_restoreLatest 0 = .ok (.aload_n 0, 1) := by decide +kernel
theorem dX1_restoreLatest_1 : decode cX1_restoreLatest 1 = .ok (.getfield 18, 3) := by decide +kernel
theorem dX1_restoreLatest_4 : decode cX1_restoreLatest 4 = .ok (.ifCond .le 25, 3) := by decide +kernel
theorem dX1_restoreLatest_7 : decode cX1_restoreLatest 7 = .ok (.aload_n 0, 1) := by decide +kernel
theorem dX1_restoreLatest_8 : decode cX1_restoreLatest 8 = .ok (.dup, 1) := by decide +kernel
theorem dX1_restoreLatest_9 : decode cX1_restoreLatest 9 = .ok (.getfield 18, 3) := by decide +kernel
theorem dX1_restoreLatest_12 : decode cX1_restoreLatest 12 = .ok (.iconst 1, 1) := by decide +kernel
theorem dX1_restoreLatest_13 : decode cX1_restoreLatest 13 = .ok (.isub, 1) := by decide +kernel
theorem dX1_restoreLatest_14 : decode cX1_restoreLatest 14 = .ok (.putfield 18, 3) := by decide +kernel
theorem dX1_restoreLatest_17 : decode cX1_restoreLatest 17 = .ok (.aload_n 0, 1) := by decide +kernel
theorem dX1_restoreLatest_18 : decode cX1_restoreLatest 18 = .ok (.aload_n 0, 1) := by decide +kernel
theorem dX1_restoreLatest_19 : decode cX1_restoreLatest 19 = .ok (.getfield 18, 3) := by decide +kernel
theorem dX1_restoreLatest_22 : decode cX1_restoreLatest 22 = .ok (.invokevirtual 22, 3) := by decide +kernel
theorem dX1_restoreLatest_25 : decode cX1_restoreLatest 25 = .ok (.aload_n 1, 1) := by decide +kernel
theorem dX1_restoreLatest_26 : decode cX1_restoreLatest 26 = .ok (.invokestatic 26, 3) := by decide +kernel
theorem dX1_restoreLatest_29 : decode cX1_restoreLatest 29 = .ok (.aload_n 0, 1) := by decide +kernel
theorem dX1_restoreLatest_30 : decode cX1_restoreLatest 30 = .ok (.getfield 18, 3) := by decide +kernel
theorem dX1_restoreLatest_33 : decode cX1_restoreLatest 33 = .ok (.ireturn, 1) := by decide +kernel
theorem dX1_stateAt_0 : decode cX1_stateAt 0 = .ok (.aload_n 0, 1) := by decide +kernel
theorem dX1_stateAt_1 : decode cX1_stateAt 1 = .ok (.getfield 11, 3) := by decide +kernel
theorem dX1_stateAt_4 : decode cX1_stateAt 4 = .ok (.aload_n 0, 1) := by decide +kernel
theorem dX1_stateAt_5 : decode cX1_stateAt 5 = .ok (.getfield 30, 3) := by decide +kernel
theorem dX1_stateAt_8 : decode cX1_stateAt 8 = .ok (.iload_n 1, 1) := by decide +kernel
theorem dX1_stateAt_9 : decode cX1_stateAt 9 = .ok (.iadd, 1) := by decide +kernel
theorem dX1_stateAt_10 : decode cX1_stateAt 10 = .ok (.iconst 4, 1) := by decide +kernel
theorem dX1_stateAt_11 : decode cX1_stateAt 11 = .ok (.invokestatic 33, 3) := by decide +kernel
theorem dX1_stateAt_14 : decode cX1_stateAt 14 = .ok (.aaload, 1) := by decide +kernel
theorem dX1_stateAt_15 : decode cX1_stateAt 15 = .ok (.areturn, 1) := by decide +kernel
theorem dX1_copy_0 : decode cX1_copy 0 = .ok (.aload_n 0, 1) := by decide +kernel
theorem dX1_copy_1 : decode cX1_copy 1 = .ok (.ifnull 12, 3) := by decide +kernel
theorem dX1_copy_4 : decode cX1_copy 4 = .ok (.aload_n 1, 1) := by decide +kernel
theorem dX1_copy_5 : decode cX1_copy 5 = .ok (.ifnull 8, 3) := by decide +kernel
theorem dX1_copy_8 : decode cX1_copy 8 = .ok (.aload_n 1, 1) := by decide +kernel
theorem dX1_copy_9 : decode cX1_copy 9 = .ok (.aload_n 0, 1) := by decide +kernel
theorem dX1_copy_10 : decode cX1_copy 10 = .ok (.invokevirtual 39, 3) := by decide +kernel
theorem dX1_copy_13 : decode cX1_copy 13 = .ok (.return_, 1) := by decide +kernel
theorem dX2_init_0 : decode cX2_init 0 = .ok (.aload_n 0, 1) := by decide +kernel
theorem dX2_init_1 : decode cX2_init 1 = .ok (.invokespecial 3, 3) := by decide +kernel
theorem dX2_init_4 : decode cX2_init 4 = .ok (.aload_n 0, 1) := by decide +kernel
theorem dX2_init_5 : decode cX2_init 5 = .ok (.iconst 3, 1) := by decide +kernel
theorem dX2_init_6 : decode cX2_init 6 = .ok (.newarray .int, 2) := by decide +kernel
theorem dX2_init_8 : decode cX2_init 8 = .ok (.putfield 9, 3) := by decide +kernel
theorem dX2_init_11 : decode cX2_init 11 = .ok (.return_, 1) := by decide +kernel
theorem dX2_readFrom_0 : decode cX2_readFrom 0 = .ok (.aload_n 0, 1) := by decide +kernel
theorem dX2_readFrom_1 : decode cX2_readFrom 1 = .ok (.aload_n 1, 1) := by decide +kernel
theorem dX2_readFrom_2 : decode cX2_readFrom 2 = .ok (.iload_n 2, 1) := by decide +kernel
theorem dX2_readFrom_3 : decode cX2_readFrom 3 = .ok (.invokevirtual 15, 3) := by decide +kernel
theorem dX2_readFrom_6 : decode cX2_readFrom 6 = .ok (.putfield 21, 3) := by decide +kernel
theorem dX2_readFrom_9 : decode cX2_readFrom 9 = .ok (.aload_n 0, 1) := by decide +kernel
theorem dX2_readFrom_10 : decode cX2_readFrom 10 = .ok (.iconst 0, 1) := by decide +kernel
theorem dX2_readFrom_11 : decode cX2_readFrom 11 = .ok (.putfield 25, 3) := by decide +kernel
theorem dX2_readFrom_14 : decode cX2_readFrom 14 = .ok (.aload_n 0, 1) := by decide +kernel
theorem dX2_readFrom_15 : decode cX2_readFrom 15 = .ok (.iconst 0, 1) := by decide +kernel
theorem dX2_readFrom_16 : decode cX2_readFrom 16 = .ok (.putfield 28, 3) := by decide +kernel
theorem dX2_readFrom_19 : decode cX2_readFrom 19 = .ok (.aload_n 0, 1) := by decide +kernel
theorem dX2_readFrom_20 : decode cX2_readFrom 20 = .ok (.getfield 21, 3) := by decide +kernel
theorem dX2_readFrom_23 : decode cX2_readFrom 23 = .ok (.invokestatic 32, 3) := by decide +kernel
theorem dX2_readFrom_26 : decode cX2_readFrom 26 = .ok (.istore_n 3, 1) := by decide +kernel
theorem dX2_readFrom_27 : decode cX2_readFrom 27 = .ok (.iload_n 3, 1) := by decide +kernel
theorem dX2_readFrom_28 : decode cX2_readFrom 28 = .ok (.ifCond .ne 4, 3) := by decide +kernel
theorem dX2_readFrom_31 : decode cX2_readFrom 31 = .ok (.return_, 1) := by decide +kernel
theorem dX2_readFrom_32 : decode cX2_readFrom 32 = .ok (.aload_n 0, 1) := by decide +kernel
theorem dX2_readFrom_33 : decode cX2_readFrom 33 = .ok (.iconst 1, 1) := by decide +kernel
theorem dX2_readFrom_34 : decode cX2_readFrom 34 = .ok (.putfield 25, 3) := by decide +kernel
theorem dX2_readFrom_37 : decode cX2_readFrom 37 = .ok (.iconst 0, 1) := by decide +kernel
theorem dX2_readFrom_38 : decode cX2_readFrom 38 = .ok (.istore 4, 2) := by decide +kernel
theorem dX2_readFrom_40 : decode cX2_readFrom 40 = .ok (.iload 4, 2) := by decide +kernel
theorem dX2_readFrom_42 : decode cX2_readFrom 42 = .ok (.iload_n 3, 1) := by decide +kernel
theorem dX2_readFrom_43 : decode cX2_readFrom 43 = .ok (.if_icmp .ge 63, 3) := by decide +kernel
theorem dX2_readFrom_46 : decode cX2_readFrom 46 = .ok (.iload 4, 2) := by decide +kernel
theorem dX2_readFrom_48 : decode cX2_readFrom 48 = .ok (.iload_n 3, 1) := by decide +kernel
theorem dX2_readFrom_49 : decode cX2_readFrom 49 = .ok (.iconst 1, 1) := by decide +kernel
theorem dX2_readFrom_50 : decode cX2_readFrom 50 = .ok (.isub, 1) := by decide +kernel
theorem dX2_readFrom_51 : decode cX2_readFrom 51 = .ok (.if_icmp .ge 8, 3) := by decide +kernel
theorem dX2_readFrom_54 : decode cX2_readFrom 54 = .ok (.bipush 44, 2) := by decide +kernel
theorem dX2_readFrom_56 : decode cX2_readFrom 56 = .ok (.goto 5, 3) := by decide +kernel
theorem dX2_readFrom_59 : decode cX2_readFrom 59 = .ok (.bipush 59, 2) := by decide +kernel
theorem dX2_readFrom_61 : decode cX2_readFrom 61 = .ok (.istore 5, 2) := by decide +kernel
theorem dX2_readFrom_63 : decode cX2_readFrom 63 = .ok (.aload_n 0, 1) := by decide +kernel
theorem dX2_readFrom_64 : decode cX2_readFrom 64 = .ok (.aload_n 1, 1) := by decide +kernel
theorem dX2_readFrom_65 : decode cX2_readFrom 65 = .ok (.iload_n 2, 1) := by decide +kernel
theorem dX2_readFrom_66 : decode cX2_readFrom 66 = .ok (.iload 4, 2) := by decide +kernel
theorem dX2_readFrom_68 : decode cX2_readFrom 68 = .ok (.invokevirtual 35, 3) := by decide +kernel
theorem dX2_readFrom_71 : decode cX2_readFrom 71 = .ok (.ifCond .eq 18, 3) := by decide +kernel
theorem dX2_readFrom_74 : decode cX2_readFrom 74 = .ok (.aload_n 1, 1) := by decide +kernel
theorem dX2_readFrom_75 : decode cX2_readFrom 75 = .ok (.iload_n 2, 1) := by decide +kernel
theorem dX2_readFrom_76 : decode cX2_readFrom 76 = .ok (.aload_n 0, 1) := by decide +kernel
theorem dX2_readFrom_77 : decode cX2_readFrom 77 = .ok (.getfield 25, 3) := by decide +kernel
theorem dX2_readFrom_80 : decode cX2_readFrom 80 = .ok (.iadd, 1) := by decide +kernel
theorem dX2_readFrom_81 : decode cX2_readFrom 81 = .ok (.invokevirtual 15, 3) := by decide +kernel
theorem dX2_readFrom_84 : decode cX2_readFrom 84 = .ok (.iload 5, 2) := by decide +kernel
theorem dX2_readFrom_86 : decode cX2_readFrom 86 = .ok (.if_icmp .eq 4, 3) := by decide +kernel
theorem dX2_readFrom_89 : decode cX2_readFrom 89 = .ok (.return_, 1) := by decide +kernel
theorem dX2_readFrom_90 : decode cX2_readFrom 90 = .ok (.aload_n 0, 1) := by decide +kernel
theorem dX2_readFrom_91 : decode cX2_readFrom 91 = .ok (.dup, 1) := by decide +kernel
theorem dX2_readFrom_92 : decode cX2_readFrom 92 = .ok (.getfield 25, 3) := by decide +kernel
theorem dX2_readFrom_95 : decode cX2_readFrom 95 = .ok (.iconst 1, 1) := by decide +kernel
theorem dX2_readFrom_96 : decode cX2_readFrom 96 = .ok (.iadd, 1) := by decide +kernel
theorem dX2_readFrom_97 : decode cX2_readFrom 97 = .ok (.putfield 25, 3) := by decide +kernel
theorem dX2_readFrom_100 : decode cX2_readFrom 100 = .ok (.iinc 4 1, 3) := by decide +kernel
theorem dX2_readFrom_103 : decode cX2_readFrom 103 = .ok (.goto (-63), 3) := by decide +kernel
theorem dX2_readFrom_106 : decode cX2_readFrom 106 = .ok (.aload_n 0, 1) := by decide +kernel
theorem dX2_readFrom_107 : decode cX2_readFrom 107 = .ok (.iconst 1, 1) := by decide +kernel
theorem dX2_readFrom_108 : decode cX2_readFrom 108 = .ok (.putfield 28, 3) := by decide +kernel
theorem dX2_readFrom_111 : decode cX2_readFrom 111 = .ok (.return_, 1) := by decide +kernel
theorem dX2_readNumber_0 : decode cX2_readNumber 0 = .ok (.iconst 0, 1) := by decide +kernel
theorem dX2_readNumber_1 : decode cX2_readNumber 1 = .ok (.istore 4, 2) := by decide +kernel
theorem dX2_readNumber_3 : decode cX2_readNumber 3 = .ok (.iconst 0, 1) := by decide +kernel
theorem dX2_readNumber_4 : decode cX2_readNumber 4 = .ok (.istore 5, 2) := by decide +kernel
theorem dX2_readNumber_6 : decode cX2_readNumber 6 = .ok (.iload 5, 2) := by decide +kernel
theorem dX2_readNumber_8 : decode cX2_readNumber 8 = .ok (.iconst 4, 1) := by decide +kernel
theorem dX2_readNumber_9 : decode cX2_readNumber 9 = .ok (.if_icmp .ge 60, 3) := by decide +kernel
theorem dX2_readNumber_12 : decode cX2_readNumber 12 = .ok (.aload_n 1, 1) := by decide +kernel
theorem dX2_readNumber_13 : decode cX2_readNumber 13 = .ok (.iload_n 2, 1) := by decide +kernel
theorem dX2_readNumber_14 : decode cX2_readNumber 14 = .ok (.aload_n 0, 1) := by decide +kernel
theorem dX2_readNumber_15 : decode cX2_readNumber 15 = .ok (.getfield 25, 3) := by decide +kernel
theorem dX2_readNumber_18 : decode cX2_readNumber 18 = .ok (.iadd, 1) := by decide +kernel
theorem dX2_readNumber_19 : decode cX2_readNumber 19 = .ok (.invokevirtual 15, 3) := by decide +kernel
theorem dX2_readNumber_22 : decode cX2_readNumber 22 = .ok (.bipush 48, 2) := by decide +kernel
theorem dX2_readNumber_24 : decode cX2_readNumber 24 = .ok (.bipush 57, 2) := by decide +kernel
theorem dX2_readNumber_26 : decode cX2_readNumber 26 = .ok (.invokestatic 39, 3) := by decide +kernel
theorem dX2_readNumber_29 : decode cX2_readNumber 29 = .ok (.ifCond .eq 40, 3) := by decide +kernel
theorem dX2_readNumber_32 : decode cX2_readNumber 32 = .ok (.iload 4, 2) := by decide +kernel
theorem dX2_readNumber_34 : decode cX2_readNumber 34 = .ok (.bipush 10, 2) := by decide +kernel
theorem dX2_readNumber_36 : decode cX2_readNumber 36 = .ok (.imul, 1) := by decide +kernel
theorem dX2_readNumber_37 : decode cX2_readNumber 37 = .ok (.aload_n 1, 1) := by decide +kernel
theorem dX2_readNumber_38 : decode cX2_readNumber 38 = .ok (.iload_n 2, 1) := by decide +kernel
theorem dX2_readNumber_39 : decode cX2_readNumber 39 = .ok (.aload_n 0, 1) := by decide +kernel
theorem dX2_readNumber_40 : decode cX2_readNumber 40 = .ok (.getfield 25, 3) := by decide +kernel
theorem dX2_readNumber_43 : decode cX2_readNumber 43 = .ok (.iadd, 1) := by decide +kernel
theorem dX2_readNumber_44 : decode cX2_readNumber 44 = .ok (.invokevirtual 15, 3) := by decide +kernel
theorem dX2_readNumber_47 : decode cX2_readNumber 47 = .ok (.iadd, 1) := by decide +kernel
theorem dX2_readNumber_48 : decode cX2_readNumber 48 = .ok (.bipush 48, 2) := by decide +kernel
theorem dX2_readNumber_50 : decode cX2_readNumber 50 = .ok (.isub, 1) := by decide +kernel
theorem dX2_readNumber_51 : decode cX2_readNumber 51 = .ok (.istore 4, 2) := by decide +kernel
theorem dX2_readNumber_53 : decode cX2_readNumber 53 = .ok (.aload_n 0, 1) := by decide +kernel
theorem dX2_readNumber_54 : decode cX2_readNumber 54 = .ok (.dup, 1) := by decide +kernel
theorem dX2_readNumber_55 : decode cX2_readNumber 55 = .ok (.getfield 25, 3) := by decide +kernel
theorem dX2_readNumber_58 : decode cX2_readNumber 58 = .ok (.iconst 1, 1) := by decide +kernel
theorem dX2_readNumber_59 : decode cX2_readNumber 59 = .ok (.iadd, 1) := by decide +kernel
theorem dX2_readNumber_60 : decode cX2_readNumber 60 = .ok (.putfield 25, 3) := by decide +kernel
theorem dX2_readNumber_63 : decode cX2_readNumber 63 = .ok (.iinc 5 1, 3) := by decide +kernel
theorem dX2_readNumber_66 : decode cX2_readNumber 66 = .ok (.goto (-60), 3) := by decide +kernel
theorem dX2_readNumber_69 : decode cX2_readNumber 69 = .ok (.iload_n 3, 1) := by decide +kernel
theorem dX2_readNumber_70 : decode cX2_readNumber 70 = .ok (.iconst 0, 1) := by decide +kernel
theorem dX2_readNumber_71 : decode cX2_readNumber 71 = .ok (.iconst 2, 1) := by decide +kernel
theorem dX2_readNumber_72 : decode cX2_readNumber 72 = .ok (.invokestatic 39, 3) := by decide +kernel
theorem dX2_readNumber_75 : decode cX2_readNumber 75 = .ok (.ifCond .eq 11, 3) := by decide +kernel
theorem dX2_readNumber_78 : decode cX2_readNumber 78 = .ok (.aload_n 0, 1) := by decide +kernel
theorem dX2_readNumber_79 : decode cX2_readNumber 79 = .ok (.getfield 9, 3) := by decide +kernel
theorem dX2_readNumber_82 : decode cX2_readNumber 82 = .ok (.iload_n 3, 1) := by decide +kernel
theorem dX2_readNumber_83 : decode cX2_readNumber 83 = .ok (.iload 4, 2) := by decide +kernel
theorem dX2_readNumber_85 : decode cX2_readNumber 85 = .ok (.iastore, 1) := by decide +kernel
theorem dX2_readNumber_86 : decode cX2_readNumber 86 = .ok (.iload 5, 2) := by decide +kernel
theorem dX2_readNumber_88 : decode cX2_readNumber 88 = .ok (.ifCond .le 7, 3) := by decide +kernel
theorem dX2_readNumber_91 : decode cX2_readNumber 91 = .ok (.iconst 1, 1) := by decide +kernel
theorem dX2_readNumber_92 : decode cX2_readNumber 92 = .ok (.goto 4, 3) := by decide +kernel
theorem dX2_readNumber_95 : decode cX2_readNumber 95 = .ok (.iconst 0, 1) := by decide +kernel
theorem dX2_readNumber_96 : decode cX2_readNumber 96 = .ok (.ireturn, 1) := by decide +kernel
theorem dX2_numbersOf_0 : decode cX2_numbersOf 0 = .ok (.iload_n 0, 1) := by decide +kernel
theorem dX2_numbersOf_1 : decode cX2_numbersOf 1 = .ok (.lookupswitch 57 #[(99, 53), (103, 53), (115, 55), (116, 51), (119, 53)], 51) := by decide +kernel
theorem dX2_numbersOf_52 : decode cX2_numbersOf 52 = .ok (.iconst 3, 1) := by decide +kernel
theorem dX2_numbersOf_53 : decode cX2_numbersOf 53 = .ok (.ireturn, 1) := by decide +kernel
theorem dX2_numbersOf_54 : decode cX2_numbersOf 54 = .ok (.iconst 2, 1) := by decide +kernel
theorem dX2_numbersOf_55 : decode cX2_numbersOf 55 = .ok (.ireturn, 1) := by decide +kernel
theorem dX2_numbersOf_56 : decode cX2_numbersOf 56 = .ok (.iconst 1, 1) := by decide +kernel
theorem dX2_numbersOf_57 : decode cX2_numbersOf 57 = .ok (.ireturn, 1) := by decide +kernel
theorem dX2_numbersOf_58 : decode cX2_numbersOf 58 = .ok (.iconst 0, 1) := by decide +kernel
theorem dX2_numbersOf_59 : decode cX2_numbersOf 59 = .ok (.ireturn, 1) := by decide +kernel
theorem dX2_isWhole_0 : decode cX2_isWhole 0 = .ok (.aload_n 0, 1) := by decide +kernel
theorem dX2_isWhole_1 : decode cX2_isWhole 1 = .ok (.getfield 28, 3) := by decide +kernel
theorem dX2_isWhole_4 : decode cX2_isWhole 4 = .ok (.ireturn, 1) := by decide +kernel
theorem dX2_length_0 : decode cX2_length 0 = .ok (.aload_n 0, 1) := by decide +kernel
theorem dX2_length_1 : decode cX2_length 1 = .ok (.getfield 25, 3) := by decide +kernel
theorem dX2_length_4 : decode cX2_length 4 = .ok (.ireturn, 1) := by decide +kernel
theorem dX2_doOn_0 : decode cX2_doOn 0 = .ok (.aload_n 0, 1) := by decide +kernel
theorem dX2_doOn_1 : decode cX2_doOn 1 = .ok (.getfield 21, 3) := by decide +kernel
theorem dX2_doOn_4 : decode cX2_doOn 4 = .ok (.lookupswitch 137 #[(99, 92), (103, 109), (115, 126), (116, 52), (119, 75)], 52) := by decide +kernel
theorem dX2_doOn_56 : decode cX2_doOn 56 = .ok (.aload_n 1, 1) := by decide +kernel
theorem dX2_doOn_57 : decode cX2_doOn 57 = .ok (.aload_n 0, 1) := by decide +kernel
theorem dX2_doOn_58 : decode cX2_doOn 58 = .ok (.getfield 9, 3) := by decide +kernel
theorem dX2_doOn_61 : decode cX2_doOn 61 = .ok (.iconst 0, 1) := by decide +kernel
theorem dX2_doOn_62 : decode cX2_doOn 62 = .ok (.iaload, 1) := by decide +kernel
theorem dX2_doOn_63 : decode cX2_doOn 63 = .ok (.aload_n 0, 1) := by decide +kernel
theorem dX2_doOn_64 : decode cX2_doOn 64 = .ok (.getfield 9, 3) := by decide +kernel
theorem dX2_doOn_67 : decode cX2_doOn 67 = .ok (.iconst 1, 1) := by decide +kernel
theorem dX2_doOn_68 : decode cX2_doOn 68 = .ok (.iaload, 1) := by decide +kernel
theorem dX2_doOn_69 : decode cX2_doOn 69 = .ok (.aload_n 0, 1) := by decide +kernel
theorem dX2_doOn_70 : decode cX2_doOn 70 = .ok (.getfield 9, 3) := by decide +kernel
theorem dX2_doOn_73 : decode cX2_doOn 73 = .ok (.iconst 2, 1) := by decide +kernel
theorem dX2_doOn_74 : decode cX2_doOn 74 = .ok (.iaload, 1) := by decide +kernel
theorem dX2_doOn_75 : decode cX2_doOn 75 = .ok (.invokevirtual 43, 3) := by decide +kernel
theorem dX2_doOn_78 : decode cX2_doOn 78 = .ok (.ireturn, 1) := by decide +kernel
theorem dX2_doOn_79 : decode cX2_doOn 79 = .ok (.aload_n 1, 1) := by decide +kernel
theorem dX2_doOn_80 : decode cX2_doOn 80 = .ok (.aload_n 0, 1) := by decide +kernel
theorem dX2_doOn_81 : decode cX2_doOn 81 = .ok (.getfield 9, 3) := by decide +kernel
theorem dX2_doOn_84 : decode cX2_doOn 84 = .ok (.iconst 0, 1) := by decide +kernel
theorem dX2_doOn_85 : decode cX2_doOn 85 = .ok (.iaload, 1) := by decide +kernel
theorem dX2_doOn_86 : decode cX2_doOn 86 = .ok (.aload_n 0, 1) := by decide +kernel
theorem dX2_doOn_87 : decode cX2_doOn 87 = .ok (.getfield 9, 3) := by decide +kernel
theorem dX2_doOn_90 : decode cX2_doOn 90 = .ok (.iconst 1, 1) := by decide +kernel
theorem dX2_doOn_91 : decode cX2_doOn 91 = .ok (.iaload, 1) := by decide +kernel
theorem dX2_doOn_92 : decode cX2_doOn 92 = .ok (.invokevirtual 49, 3) := by decide +kernel
theorem dX2_doOn_95 : decode cX2_doOn 95 = .ok (.ireturn, 1) := by decide +kernel
theorem dX2_doOn_96 : decode cX2_doOn 96 = .ok (.aload_n 1, 1) := by decide +kernel
theorem dX2_doOn_97 : decode cX2_doOn 97 = .ok (.aload_n 0, 1) := by decide +kernel
theorem dX2_doOn_98 : decode cX2_doOn 98 = .ok (.getfield 9, 3) := by decide +kernel
theorem dX2_doOn_101 : decode cX2_doOn 101 = .ok (.iconst 0, 1) := by decide +kernel
theorem dX2_doOn_102 : decode cX2_doOn 102 = .ok (.iaload, 1) := by decide +kernel
theorem dX2_doOn_103 : decode cX2_doOn 103 = .ok (.aload_n 0, 1) := by decide +kernel
theorem dX2_doOn_104 : decode cX2_doOn 104 = .ok (.getfield 9, 3) := by decide +kernel
theorem dX2_doOn_107 : decode cX2_doOn 107 = .ok (.iconst 1, 1) := by decide +kernel
theorem dX2_doOn_108 : decode cX2_doOn 108 = .ok (.iaload, 1) := by decide +kernel
theorem dX2_doOn_109 : decode cX2_doOn 109 = .ok (.invokevirtual 53, 3) := by decide +kernel
theorem dX2_doOn_112 : decode cX2_doOn 112 = .ok (.ireturn, 1) := by decide +kernel
theorem dX2_doOn_113 : decode cX2_doOn 113 = .ok (.aload_n 1, 1) := by decide +kernel
theorem dX2_doOn_114 : decode cX2_doOn 114 = .ok (.aload_n 0, 1) := by decide +kernel
theorem dX2_doOn_115 : decode cX2_doOn 115 = .ok (.getfield 9, 3) := by decide +kernel
theorem dX2_doOn_118 : decode cX2_doOn 118 = .ok (.iconst 0, 1) := by decide +kernel
theorem dX2_doOn_119 : decode cX2_doOn 119 = .ok (.iaload, 1) := by decide +kernel
theorem dX2_doOn_120 : decode cX2_doOn 120 = .ok (.aload_n 0, 1) := by decide +kernel
theorem dX2_doOn_121 : decode cX2_doOn 121 = .ok (.getfield 9, 3) := by decide +kernel
theorem dX2_doOn_124 : decode cX2_doOn 124 = .ok (.iconst 1, 1) := by decide +kernel
theorem dX2_doOn_125 : decode cX2_doOn 125 = .ok (.iaload, 1) := by decide +kernel
theorem dX2_doOn_126 : decode cX2_doOn 126 = .ok (.invokevirtual 56, 3) := by decide +kernel
theorem dX2_doOn_129 : decode cX2_doOn 129 = .ok (.ireturn, 1) := by decide +kernel
theorem dX2_doOn_130 : decode cX2_doOn 130 = .ok (.aload_n 1, 1) := by decide +kernel
theorem dX2_doOn_131 : decode cX2_doOn 131 = .ok (.aload_n 0, 1) := by decide +kernel
theorem dX2_doOn_132 : decode cX2_doOn 132 = .ok (.getfield 9, 3) := by decide +kernel
theorem dX2_doOn_135 : decode cX2_doOn 135 = .ok (.iconst 0, 1) := by decide +kernel
theorem dX2_doOn_136 : decode cX2_doOn 136 = .ok (.iaload, 1) := by decide +kernel
theorem dX2_doOn_137 : decode cX2_doOn 137 = .ok (.invokevirtual 59, 3) := by decide +kernel
theorem dX2_doOn_140 : decode cX2_doOn 140 = .ok (.ireturn, 1) := by decide +kernel
theorem dX2_doOn_141 : decode cX2_doOn 141 = .ok (.ldc 62, 2) := by decide +kernel
theorem dX2_doOn_143 : decode cX2_doOn 143 = .ok (.ireturn, 1) := by decide +kernel
theorem dX3_init_0 : decode cX3_init 0 = .ok (.aload_n 0, 1) := by decide +kernel
theorem dX3_init_1 : decode cX3_init 1 = .ok (.invokespecial 3, 3) := by decide +kernel
theorem dX3_init_4 : decode cX3_init 4 = .ok (.aload_n 0, 1) := by decide +kernel
theorem dX3_init_5 : decode cX3_init 5 = .ok (.new 9, 3) := by decide +kernel
theorem dX3_init_8 : decode cX3_init 8 = .ok (.dup, 1) := by decide +kernel
theorem dX3_init_9 : decode cX3_init 9 = .ok (.invokespecial 11, 3) := by decide +kernel
theorem dX3_init_12 : decode cX3_init 12 = .ok (.putfield 12, 3) := by decide +kernel
theorem dX3_init_15 : decode cX3_init 15 = .ok (.aload_n 0, 1) := by decide +kernel
theorem dX3_init_16 : decode cX3_init 16 = .ok (.new 18, 3) := by decide +kernel
theorem dX3_init_19 : decode cX3_init 19 = .ok (.dup, 1) := by decide +kernel
theorem dX3_init_20 : decode cX3_init 20 = .ok (.invokespecial 20, 3) := by decide +kernel
theorem dX3_init_23 : decode cX3_init 23 = .ok (.putfield 21, 3) := by decide +kernel
theorem dX3_init_26 : decode cX3_init 26 = .ok (.aload_n 0, 1) := by decide +kernel
theorem dX3_init_27 : decode cX3_init 27 = .ok (.aload_n 1, 1) := by decide +kernel
theorem dX3_init_28 : decode cX3_init 28 = .ok (.putfield 25, 3) := by decide +kernel
theorem dX3_init_31 : decode cX3_init 31 = .ok (.return_, 1) := by decide +kernel
theorem dX3_run_0 : decode cX3_run 0 = .ok (.aload_n 0, 1) := by decide +kernel
theorem dX3_run_1 : decode cX3_run 1 = .ok (.getfield 12, 3) := by decide +kernel
theorem dX3_run_4 : decode cX3_run 4 = .ok (.aload_n 1, 1) := by decide +kernel
theorem dX3_run_5 : decode cX3_run 5 = .ok (.invokevirtual 29, 3) := by decide +kernel
theorem dX3_run_8 : decode cX3_run 8 = .ok (.aload_n 0, 1) := by decide +kernel
theorem dX3_run_9 : decode cX3_run 9 = .ok (.iconst 0, 1) := by decide +kernel
theorem dX3_run_10 : decode cX3_run 10 = .ok (.putfield 33, 3) := by decide +kernel
theorem dX3_run_13 : decode cX3_run 13 = .ok (.aload_n 0, 1) := by decide +kernel
theorem dX3_run_14 : decode cX3_run 14 = .ok (.iconst 0, 1) := by decide +kernel
theorem dX3_run_15 : decode cX3_run 15 = .ok (.putfield 37, 3) := by decide +kernel
theorem dX3_run_18 : decode cX3_run 18 = .ok (.aload_n 0, 1) := by decide +kernel
theorem dX3_run_19 : decode cX3_run 19 = .ok (.iconst 0, 1) := by decide +kernel
theorem dX3_run_20 : decode cX3_run 20 = .ok (.putfield 40, 3) := by decide +kernel
theorem dX3_run_23 : decode cX3_run 23 = .ok (.aload_n 0, 1) := by decide +kernel
theorem dX3_run_24 : decode cX3_run 24 = .ok (.iconst 0, 1) := by decide +kernel
theorem dX3_run_25 : decode cX3_run 25 = .ok (.putfield 43, 3) := by decide +kernel
theorem dX3_run_28 : decode cX3_run 28 = .ok (.aload_n 0, 1) := by decide +kernel
theorem dX3_run_29 : decode cX3_run 29 = .ok (.getfield 37, 3) := by decide +kernel
theorem dX3_run_32 : decode cX3_run 32 = .ok (.bipush 60, 2) := by decide +kernel
theorem dX3_run_34 : decode cX3_run 34 = .ok (.if_icmp .ge 71, 3) := by decide +kernel
theorem dX3_run_37 : decode cX3_run 37 = .ok (.aload_n 0, 1) := by decide +kernel
theorem dX3_run_38 : decode cX3_run 38 = .ok (.getfield 33, 3) := by decide +kernel
theorem dX3_run_41 : decode cX3_run 41 = .ok (.aload_n 0, 1) := by decide +kernel
theorem dX3_run_42 : decode cX3_run 42 = .ok (.getfield 25, 3) := by decide +kernel
theorem dX3_run_45 : decode cX3_run 45 = .ok (.invokevirtual 46, 3) := by decide +kernel
theorem dX3_run_48 : decode cX3_run 48 = .ok (.if_icmp .ge 57, 3) := by decide +kernel
theorem dX3_run_51 : decode cX3_run 51 = .ok (.aload_n 0, 1) := by decide +kernel
theorem dX3_run_52 : decode cX3_run 52 = .ok (.getfield 40, 3) := by decide +kernel
theorem dX3_run_55 : decode cX3_run 55 = .ok (.ifCond .ne 50, 3) := by decide +kernel
theorem dX3_run_58 : decode cX3_run 58 = .ok (.aload_n 0, 1) := by decide +kernel
theorem dX3_run_59 : decode cX3_run 59 = .ok (.getfield 21, 3) := by decide +kernel
theorem dX3_run_62 : decode cX3_run 62 = .ok (.aload_n 0, 1) := by decide +kernel
theorem dX3_run_63 : decode cX3_run 63 = .ok (.getfield 25, 3) := by decide +kernel
theorem dX3_run_66 : decode cX3_run 66 = .ok (.aload_n 0, 1) := by decide +kernel
theorem dX3_run_67 : decode cX3_run 67 = .ok (.getfield 33, 3) := by decide +kernel
theorem dX3_run_70 : decode cX3_run 70 = .ok (.invokevirtual 52, 3) := by decide +kernel
theorem dX3_run_73 : decode cX3_run 73 = .ok (.aload_n 0, 1) := by decide +kernel
theorem dX3_run_74 : decode cX3_run 74 = .ok (.aload_n 0, 1) := by decide +kernel
theorem dX3_run_75 : decode cX3_run 75 = .ok (.getfield 21, 3) := by decide +kernel
theorem dX3_run_78 : decode cX3_run 78 = .ok (.invokevirtual 56, 3) := by decide +kernel
theorem dX3_run_81 : decode cX3_run 81 = .ok (.ifCond .eq 17, 3) := by decide +kernel
theorem dX3_run_84 : decode cX3_run 84 = .ok (.aload_n 0, 1) := by decide +kernel
theorem dX3_run_85 : decode cX3_run 85 = .ok (.getfield 21, 3) := by decide +kernel
theorem dX3_run_88 : decode cX3_run 88 = .ok (.aload_n 0, 1) := by decide +kernel
theorem dX3_run_89 : decode cX3_run 89 = .ok (.getfield 12, 3) := by decide +kernel
theorem dX3_run_92 : decode cX3_run 92 = .ok (.invokevirtual 60, 3) := by decide +kernel
theorem dX3_run_95 : decode cX3_run 95 = .ok (.goto 4, 3) := by decide +kernel
theorem dX3_run_98 : decode cX3_run 98 = .ok (.iconst (-1), 1) := by decide +kernel
theorem dX3_run_99 : decode cX3_run 99 = .ok (.invokevirtual 64, 3) := by decide +kernel
theorem dX3_run_102 : decode cX3_run 102 = .ok (.goto (-74), 3) := by decide +kernel
theorem dX3_run_105 : decode cX3_run 105 = .ok (.return_, 1) := by decide +kernel
theorem dX3_noteAnswer_0 : decode cX3_noteAnswer 0 = .ok (.aload_n 0, 1) := by decide +kernel
theorem dX3_noteAnswer_1 : decode cX3_noteAnswer 1 = .ok (.getfield 21, 3) := by decide +kernel
theorem dX3_noteAnswer_4 : decode cX3_noteAnswer 4 = .ok (.invokevirtual 56, 3) := by decide +kernel
theorem dX3_noteAnswer_7 : decode cX3_noteAnswer 7 = .ok (.ifCond .ne 22, 3) := by decide +kernel
theorem dX3_noteAnswer_10 : decode cX3_noteAnswer 10 = .ok (.aload_n 0, 1) := by decide +kernel
theorem dX3_noteAnswer_11 : decode cX3_noteAnswer 11 = .ok (.iconst 1, 1) := by decide +kernel
theorem dX3_noteAnswer_12 : decode cX3_noteAnswer 12 = .ok (.putfield 40, 3) := by decide +kernel
theorem dX3_noteAnswer_15 : decode cX3_noteAnswer 15 = .ok (.aload_n 0, 1) := by decide +kernel
theorem dX3_noteAnswer_16 : decode cX3_noteAnswer 16 = .ok (.aload_n 0, 1) := by decide +kernel
theorem dX3_noteAnswer_17 : decode cX3_noteAnswer 17 = .ok (.getfield 21, 3) := by decide +kernel
theorem dX3_noteAnswer_20 : decode cX3_noteAnswer 20 = .ok (.invokevirtual 68, 3) := by decide +kernel
theorem dX3_noteAnswer_23 : decode cX3_noteAnswer 23 = .ok (.putfield 43, 3) := by decide +kernel
theorem dX3_noteAnswer_26 : decode cX3_noteAnswer 26 = .ok (.goto 46, 3) := by decide +kernel
theorem dX3_noteAnswer_29 : decode cX3_noteAnswer 29 = .ok (.iload_n 1, 1) := by decide +kernel
theorem dX3_noteAnswer_30 : decode cX3_noteAnswer 30 = .ok (.ifCond .ge 16, 3) := by decide +kernel
theorem dX3_noteAnswer_33 : decode cX3_noteAnswer 33 = .ok (.aload_n 0, 1) := by decide +kernel
theorem dX3_noteAnswer_34 : decode cX3_noteAnswer 34 = .ok (.iconst 2, 1) := by decide +kernel
theorem dX3_noteAnswer_35 : decode cX3_noteAnswer 35 = .ok (.putfield 40, 3) := by decide +kernel
theorem dX3_noteAnswer_38 : decode cX3_noteAnswer 38 = .ok (.aload_n 0, 1) := by decide +kernel
theorem dX3_noteAnswer_39 : decode cX3_noteAnswer 39 = .ok (.iload_n 1, 1) := by decide +kernel
theorem dX3_noteAnswer_40 : decode cX3_noteAnswer 40 = .ok (.putfield 43, 3) := by decide +kernel
theorem dX3_noteAnswer_43 : decode cX3_noteAnswer 43 = .ok (.goto 29, 3) := by decide +kernel
theorem dX3_noteAnswer_46 : decode cX3_noteAnswer 46 = .ok (.aload_n 0, 1) := by decide +kernel
theorem dX3_noteAnswer_47 : decode cX3_noteAnswer 47 = .ok (.dup, 1) := by decide +kernel
theorem dX3_noteAnswer_48 : decode cX3_noteAnswer 48 = .ok (.getfield 33, 3) := by decide +kernel
theorem dX3_noteAnswer_51 : decode cX3_noteAnswer 51 = .ok (.aload_n 0, 1) := by decide +kernel
theorem dX3_noteAnswer_52 : decode cX3_noteAnswer 52 = .ok (.getfield 21, 3) := by decide +kernel
theorem dX3_noteAnswer_55 : decode cX3_noteAnswer 55 = .ok (.invokevirtual 68, 3) := by decide +kernel
theorem dX3_noteAnswer_58 : decode cX3_noteAnswer 58 = .ok (.iadd, 1) := by decide +kernel
theorem dX3_noteAnswer_59 : decode cX3_noteAnswer 59 = .ok (.putfield 33, 3) := by decide +kernel
theorem dX3_noteAnswer_62 : decode cX3_noteAnswer 62 = .ok (.aload_n 0, 1) := by decide +kernel
theorem dX3_noteAnswer_63 : decode cX3_noteAnswer 63 = .ok (.dup, 1) := by decide +kernel
theorem dX3_noteAnswer_64 : decode cX3_noteAnswer 64 = .ok (.getfield 37, 3) := by decide +kernel
theorem dX3_noteAnswer_67 : decode cX3_noteAnswer 67 = .ok (.iconst 1, 1) := by decide +kernel
theorem dX3_noteAnswer_68 : decode cX3_noteAnswer 68 = .ok (.iadd, 1) := by decide +kernel
theorem dX3_noteAnswer_69 : decode cX3_noteAnswer 69 = .ok (.putfield 37, 3) := by decide +kernel
theorem dX3_noteAnswer_72 : decode cX3_noteAnswer 72 = .ok (.return_, 1) := by decide +kernel
theorem dX3_foundFault_0 : decode cX3_foundFault 0 = .ok (.aload_n 0, 1) := by decide +kernel
theorem dX3_foundFault_1 : decode cX3_foundFault 1 = .ok (.getfield 40, 3) := by decide +kernel
theorem dX3_foundFault_4 : decode cX3_foundFault 4 = .ok (.ifCond .eq 7, 3) := by decide +kernel
theorem dX3_foundFault_7 : decode cX3_foundFault 7 = .ok (.iconst 1, 1) := by decide +kernel
theorem dX3_foundFault_8 : decode cX3_foundFault 8 = .ok (.goto 4, 3) := by decide +kernel
theorem dX3_foundFault_11 : decode cX3_foundFault 11 = .ok (.iconst 0, 1) := by decide +kernel
theorem dX3_foundFault_12 : decode cX3_foundFault 12 = .ok (.ireturn, 1) := by decide +kernel
theorem dX3_position_0 : decode cX3_position 0 = .ok (.aload_n 0, 1) := by decide +kernel
theorem dX3_position_1 : decode cX3_position 1 = .ok (.getfield 33, 3) := by decide +kernel
theorem dX3_position_4 : decode cX3_position 4 = .ok (.ireturn, 1) := by decide +kernel
theorem dX3_reason_0 : decode cX3_reason 0 = .ok (.aload_n 0, 1) := by decide +kernel
theorem dX3_reason_1 : decode cX3_reason 1 = .ok (.getfield 40, 3) := by decide +kernel
theorem dX3_reason_4 : decode cX3_reason 4 = .ok (.ireturn, 1) := by decide +kernel
theorem dX3_cause_0 : decode cX3_cause 0 = .ok (.aload_n 0, 1) := by decide +kernel
theorem dX3_cause_1 : decode cX3_cause 1 = .ok (.getfield 43, 3) := by decide +kernel
theorem dX3_cause_4 : decode cX3_cause 4 = .ok (.ireturn, 1) := by decide +kernel
theorem dX3_ordersDone_0 : decode cX3_ordersDone 0 = .ok (.aload_n 0, 1) := by decide +kernel
theorem dX3_ordersDone_1 : decode cX3_ordersDone 1 = .ok (.getfield 37, 3) := by decide +kernel
theorem dX3_ordersDone_4 : decode cX3_ordersDone 4 = .ok (.ireturn, 1) := by decide +kernel
theorem dX3_outcome_0 : decode cX3_outcome 0 = .ok (.aload_n 0, 1) := by decide +kernel
theorem dX3_outcome_1 : decode cX3_outcome 1 = .ok (.getfield 12, 3) := by decide +kernel
theorem dX3_outcome_4 : decode cX3_outcome 4 = .ok (.areturn, 1) := by decide +kernel
theorem dX4_init_0 : decode cX4_init 0 = .ok (.aload_n 0, 1) := by decide +kernel
theorem dX4_init_1 : decode cX4_init 1 = .ok (.invokespecial 3, 3) := by decide +kernel
theorem dX4_init_4 : decode cX4_init 4 = .ok (.aload_n 0, 1) := by decide +kernel
theorem dX4_init_5 : decode cX4_init 5 = .ok (.bipush 6, 2) := by decide +kernel
theorem dX4_init_7 : decode cX4_init 7 = .ok (.newarray .int, 2) := by decide +kernel
theorem dX4_init_9 : decode cX4_init 9 = .ok (.putfield 9, 3) := by decide +kernel
theorem dX4_init_12 : decode cX4_init 12 = .ok (.return_, 1) := by decide +kernel
theorem dX4_takeFrom_0 : decode cX4_takeFrom 0 = .ok (.aload_n 1, 1) := by decide +kernel
theorem dX4_takeFrom_1 : decode cX4_takeFrom 1 = .ok (.getfield 9, 3) := by decide +kernel
theorem dX4_takeFrom_4 : decode cX4_takeFrom 4 = .ok (.iconst 0, 1) := by decide +kernel
theorem dX4_takeFrom_5 : decode cX4_takeFrom 5 = .ok (.aload_n 0, 1) := by decide +kernel
theorem dX4_takeFrom_6 : decode cX4_takeFrom 6 = .ok (.getfield 9, 3) := by decide +kernel
theorem dX4_takeFrom_9 : decode cX4_takeFrom 9 = .ok (.iconst 0, 1) := by decide +kernel
theorem dX4_takeFrom_10 : decode cX4_takeFrom 10 = .ok (.bipush 6, 2) := by decide +kernel
theorem dX4_takeFrom_12 : decode cX4_takeFrom 12 = .ok (.invokestatic 15, 3) := by decide +kernel
theorem dX4_takeFrom_15 : decode cX4_takeFrom 15 = .ok (.return_, 1) := by decide +kernel
theorem dX4_has_0 : decode cX4_has 0 = .ok (.iload_n 1, 1) := by decide +kernel
theorem dX4_has_1 : decode cX4_has 1 = .ok (.ifCond .lt 22, 3) := by decide +kernel
theorem dX4_has_4 : decode cX4_has 4 = .ok (.iload_n 1, 1) := by decide +kernel
theorem dX4_has_5 : decode cX4_has 5 = .ok (.bipush 6, 2) := by decide +kernel
theorem dX4_has_7 : decode cX4_has 7 = .ok (.if_icmp .ge 16, 3) := by decide +kernel
theorem dX4_has_10 : decode cX4_has 10 = .ok (.aload_n 0, 1) := by decide +kernel
theorem dX4_has_11 : decode cX4_has 11 = .ok (.getfield 9, 3) := by decide +kernel
theorem dX4_has_14 : decode cX4_has 14 = .ok (.iload_n 1, 1) := by decide +kernel
theorem dX4_has_15 : decode cX4_has 15 = .ok (.iaload, 1) := by decide +kernel
theorem dX4_has_16 : decode cX4_has 16 = .ok (.ifCond .eq 7, 3) := by decide +kernel
theorem dX4_has_19 : decode cX4_has 19 = .ok (.iconst 1, 1) := by decide +kernel
theorem dX4_has_20 : decode cX4_has 20 = .ok (.goto 4, 3) := by decide +kernel
theorem dX4_has_23 : decode cX4_has 23 = .ok (.iconst 0, 1) := by decide +kernel
theorem dX4_has_24 : decode cX4_has 24 = .ok (.ireturn, 1) := by decide +kernel
theorem dX4_pitchOf_0 : decode cX4_pitchOf 0 = .ok (.aload_n 0, 1) := by decide +kernel
theorem dX4_pitchOf_1 : decode cX4_pitchOf 1 = .ok (.iload_n 1, 1) := by decide +kernel
theorem dX4_pitchOf_2 : decode cX4_pitchOf 2 = .ok (.invokevirtual 21, 3) := by decide +kernel
theorem dX4_pitchOf_5 : decode cX4_pitchOf 5 = .ok (.ifCond .eq 12, 3) := by decide +kernel
theorem dX4_pitchOf_8 : decode cX4_pitchOf 8 = .ok (.aload_n 0, 1) := by decide +kernel
theorem dX4_pitchOf_9 : decode cX4_pitchOf 9 = .ok (.getfield 9, 3) := by decide +kernel
theorem dX4_pitchOf_12 : decode cX4_pitchOf 12 = .ok (.iload_n 1, 1) := by decide +kernel
theorem dX4_pitchOf_13 : decode cX4_pitchOf 13 = .ok (.iaload, 1) := by decide +kernel
theorem dX4_pitchOf_14 : decode cX4_pitchOf 14 = .ok (.goto 4, 3) := by decide +kernel
theorem dX4_pitchOf_17 : decode cX4_pitchOf 17 = .ok (.iconst 0, 1) := by decide +kernel
theorem dX4_pitchOf_18 : decode cX4_pitchOf 18 = .ok (.ireturn, 1) := by decide +kernel
theorem dX4_tune_0 : decode cX4_tune 0 = .ok (.iload_n 1, 1) := by decide +kernel
theorem dX4_tune_1 : decode cX4_tune 1 = .ok (.iconst 0, 1) := by decide +kernel
theorem dX4_tune_2 : decode cX4_tune 2 = .ok (.iconst 5, 1) := by decide +kernel
theorem dX4_tune_3 : decode cX4_tune 3 = .ok (.invokestatic 25, 3) := by decide +kernel
theorem dX4_tune_6 : decode cX4_tune 6 = .ok (.ifCond .eq 10, 3) := by decide +kernel
theorem dX4_tune_9 : decode cX4_tune 9 = .ok (.aload_n 0, 1) := by decide +kernel
theorem dX4_tune_10 : decode cX4_tune 10 = .ok (.getfield 9, 3) := by decide +kernel
theorem dX4_tune_13 : decode cX4_tune 13 = .ok (.iload_n 1, 1) := by decide +kernel
theorem dX4_tune_14 : decode cX4_tune 14 = .ok (.iload_n 2, 1) := by decide +kernel
theorem dX4_tune_15 : decode cX4_tune 15 = .ok (.iastore, 1) := by decide +kernel
theorem dX4_tune_16 : decode cX4_tune 16 = .ok (.return_, 1) := by decide +kernel
theorem dX4_free_0 : decode cX4_free 0 = .ok (.aload_n 0, 1) := by decide +kernel
theorem dX4_free_1 : decode cX4_free 1 = .ok (.iload_n 1, 1) := by decide +kernel
theorem dX4_free_2 : decode cX4_free 2 = .ok (.iconst 0, 1) := by decide +kernel
theorem dX4_free_3 : decode cX4_free 3 = .ok (.invokevirtual 29, 3) := by decide +kernel
theorem dX4_free_6 : decode cX4_free 6 = .ok (.return_, 1) := by decide +kernel
theorem dX4_lowestFree_0 : decode cX4_lowestFree 0 = .ok (.iconst 0, 1) := by decide +kernel
theorem dX4_lowestFree_1 : decode cX4_lowestFree 1 = .ok (.istore_n 1, 1) := by decide +kernel
theorem dX4_lowestFree_2 : decode cX4_lowestFree 2 = .ok (.iload_n 1, 1) := by decide +kernel
theorem dX4_lowestFree_3 : decode cX4_lowestFree 3 = .ok (.bipush 6, 2) := by decide +kernel
theorem dX4_lowestFree_5 : decode cX4_lowestFree 5 = .ok (.if_icmp .ge 19, 3) := by decide +kernel
theorem dX4_lowestFree_8 : decode cX4_lowestFree 8 = .ok (.aload_n 0, 1) := by decide +kernel
theorem dX4_lowestFree_9 : decode cX4_lowestFree 9 = .ok (.iload_n 1, 1) := by decide +kernel
theorem dX4_lowestFree_10 : decode cX4_lowestFree 10 = .ok (.invokevirtual 21, 3) := by decide +kernel
theorem dX4_lowestFree_13 : decode cX4_lowestFree 13 = .ok (.ifCond .ne 5, 3) := by decide +kernel
theorem dX4_lowestFree_16 : decode cX4_lowestFree 16 = .ok (.iload_n 1, 1) := by decide +kernel
theorem dX4_lowestFree_17 : decode cX4_lowestFree 17 = .ok (.ireturn, 1) := by decide +kernel
theorem dX4_lowestFree_18 : decode cX4_lowestFree 18 = .ok (.iinc 1 1, 3) := by decide +kernel
theorem dX4_lowestFree_21 : decode cX4_lowestFree 21 = .ok (.goto (-19), 3) := by decide +kernel
theorem dX4_lowestFree_24 : decode cX4_lowestFree 24 = .ok (.iconst (-1), 1) := by decide +kernel
theorem dX4_lowestFree_25 : decode cX4_lowestFree 25 = .ok (.ireturn, 1) := by decide +kernel
theorem dX4_closestTo_0 : decode cX4_closestTo 0 = .ok (.iconst (-1), 1) := by decide +kernel
theorem dX4_closestTo_1 : decode cX4_closestTo 1 = .ok (.istore_n 3, 1) := by decide +kernel
theorem dX4_closestTo_2 : decode cX4_closestTo 2 = .ok (.iload_n 2, 1) := by decide +kernel
theorem dX4_closestTo_3 : decode cX4_closestTo 3 = .ok (.iconst 1, 1) := by decide +kernel
theorem dX4_closestTo_4 : decode cX4_closestTo 4 = .ok (.iadd, 1) := by decide +kernel
theorem dX4_closestTo_5 : decode cX4_closestTo 5 = .ok (.istore 4, 2) := by decide +kernel
theorem dX4_closestTo_7 : decode cX4_closestTo 7 = .ok (.iconst 0, 1) := by decide +kernel
theorem dX4_closestTo_8 : decode cX4_closestTo 8 = .ok (.istore 5, 2) := by decide +kernel
theorem dX4_closestTo_10 : decode cX4_closestTo 10 = .ok (.iload 5, 2) := by decide +kernel
theorem dX4_closestTo_12 : decode cX4_closestTo 12 = .ok (.bipush 6, 2) := by decide +kernel
theorem dX4_closestTo_14 : decode cX4_closestTo 14 = .ok (.if_icmp .ge 52, 3) := by decide +kernel
theorem dX4_closestTo_17 : decode cX4_closestTo 17 = .ok (.aload_n 0, 1) := by decide +kernel
theorem dX4_closestTo_18 : decode cX4_closestTo 18 = .ok (.iload 5, 2) := by decide +kernel
theorem dX4_closestTo_20 : decode cX4_closestTo 20 = .ok (.invokevirtual 21, 3) := by decide +kernel
theorem dX4_closestTo_23 : decode cX4_closestTo 23 = .ok (.ifCond .eq 37, 3) := by decide +kernel
theorem dX4_closestTo_26 : decode cX4_closestTo 26 = .ok (.aload_n 0, 1) := by decide +kernel
theorem dX4_closestTo_27 : decode cX4_closestTo 27 = .ok (.getfield 9, 3) := by decide +kernel
theorem dX4_closestTo_30 : decode cX4_closestTo 30 = .ok (.iload 5, 2) := by decide +kernel
theorem dX4_closestTo_32 : decode cX4_closestTo 32 = .ok (.iaload, 1) := by decide +kernel
theorem dX4_closestTo_33 : decode cX4_closestTo 33 = .ok (.iload_n 1, 1) := by decide +kernel
theorem dX4_closestTo_34 : decode cX4_closestTo 34 = .ok (.isub, 1) := by decide +kernel
theorem dX4_closestTo_35 : decode cX4_closestTo 35 = .ok (.invokestatic 33, 3) := by decide +kernel
theorem dX4_closestTo_38 : decode cX4_closestTo 38 = .ok (.iload 4, 2) := by decide +kernel
theorem dX4_closestTo_40 : decode cX4_closestTo 40 = .ok (.if_icmp .ge 20, 3) := by decide +kernel
theorem dX4_closestTo_43 : decode cX4_closestTo 43 = .ok (.iload 5, 2) := by decide +kernel
theorem dX4_closestTo_45 : decode cX4_closestTo 45 = .ok (.istore_n 3, 1) := by decide +kernel
theorem dX4_closestTo_46 : decode cX4_closestTo 46 = .ok (.aload_n 0, 1) := by decide +kernel
theorem dX4_closestTo_47 : decode cX4_closestTo 47 = .ok (.getfield 9, 3) := by decide +kernel
theorem dX4_closestTo_50 : decode cX4_closestTo 50 = .ok (.iload 5, 2) := by decide +kernel
theorem dX4_closestTo_52 : decode cX4_closestTo 52 = .ok (.iaload, 1) := by decide +kernel
theorem dX4_closestTo_53 : decode cX4_closestTo 53 = .ok (.iload_n 1, 1) := by decide +kernel
theorem dX4_closestTo_54 : decode cX4_closestTo 54 = .ok (.isub, 1) := by decide +kernel
theorem dX4_closestTo_55 : decode cX4_closestTo 55 = .ok (.invokestatic 33, 3) := by decide +kernel
theorem dX4_closestTo_58 : decode cX4_closestTo 58 = .ok (.istore 4, 2) := by decide +kernel
theorem dX4_closestTo_60 : decode cX4_closestTo 60 = .ok (.iinc 5 1, 3) := by decide +kernel
theorem dX4_closestTo_63 : decode cX4_closestTo 63 = .ok (.goto (-53), 3) := by decide +kernel
theorem dX4_closestTo_66 : decode cX4_closestTo 66 = .ok (.iload_n 3, 1) := by decide +kernel
theorem dX4_closestTo_67 : decode cX4_closestTo 67 = .ok (.ireturn, 1) := by decide +kernel
theorem dX4_asSet_0 : decode cX4_asSet 0 = .ok (.iconst 0, 1) := by decide +kernel
theorem dX4_asSet_1 : decode cX4_asSet 1 = .ok (.istore_n 1, 1) := by decide +kernel
theorem dX4_asSet_2 : decode cX4_asSet 2 = .ok (.iconst 0, 1) := by decide +kernel
theorem dX4_asSet_3 : decode cX4_asSet 3 = .ok (.istore_n 2, 1) := by decide +kernel
theorem dX4_asSet_4 : decode cX4_asSet 4 = .ok (.iload_n 2, 1) := by decide +kernel
theorem dX4_asSet_5 : decode cX4_asSet 5 = .ok (.bipush 6, 2) := by decide +kernel
theorem dX4_asSet_7 : decode cX4_asSet 7 = .ok (.if_icmp .ge 23, 3) := by decide +kernel
theorem dX4_asSet_10 : decode cX4_asSet 10 = .ok (.aload_n 0, 1) := by decide +kernel
theorem dX4_asSet_11 : decode cX4_asSet 11 = .ok (.iload_n 2, 1) := by decide +kernel
theorem dX4_asSet_12 : decode cX4_asSet 12 = .ok (.invokevirtual 21, 3) := by decide +kernel
theorem dX4_asSet_15 : decode cX4_asSet 15 = .ok (.ifCond .eq 9, 3) := by decide +kernel
theorem dX4_asSet_18 : decode cX4_asSet 18 = .ok (.iload_n 1, 1) := by decide +kernel
theorem dX4_asSet_19 : decode cX4_asSet 19 = .ok (.iconst 1, 1) := by decide +kernel
theorem dX4_asSet_20 : decode cX4_asSet 20 = .ok (.iload_n 2, 1) := by decide +kernel
theorem dX4_asSet_21 : decode cX4_asSet 21 = .ok (.ishl, 1) := by decide +kernel
theorem dX4_asSet_22 : decode cX4_asSet 22 = .ok (.ior, 1) := by decide +kernel
theorem dX4_asSet_23 : decode cX4_asSet 23 = .ok (.istore_n 1, 1) := by decide +kernel
theorem dX4_asSet_24 : decode cX4_asSet 24 = .ok (.iinc 2 1, 3) := by decide +kernel
theorem dX4_asSet_27 : decode cX4_asSet 27 = .ok (.goto (-23), 3) := by decide +kernel
theorem dX4_asSet_30 : decode cX4_asSet 30 = .ok (.iload_n 1, 1) := by decide +kernel
theorem dX4_asSet_31 : decode cX4_asSet 31 = .ok (.ireturn, 1) := by decide +kernel
theorem dX5_init_0 : decode cX5_init 0 = .ok (.aload_n 0, 1) := by decide +kernel
theorem dX5_init_1 : decode cX5_init 1 = .ok (.invokespecial 3, 3) := by decide +kernel
theorem dX5_init_4 : decode cX5_init 4 = .ok (.aload_n 0, 1) := by decide +kernel
theorem dX5_init_5 : decode cX5_init 5 = .ok (.bipush 20, 2) := by decide +kernel
theorem dX5_init_7 : decode cX5_init 7 = .ok (.newarray .int, 2) := by decide +kernel
theorem dX5_init_9 : decode cX5_init 9 = .ok (.putfield 9, 3) := by decide +kernel
theorem dX5_init_12 : decode cX5_init 12 = .ok (.aload_n 0, 1) := by decide +kernel
theorem dX5_init_13 : decode cX5_init 13 = .ok (.aload_n 1, 1) := by decide +kernel
theorem dX5_init_14 : decode cX5_init 14 = .ok (.putfield 15, 3) := by decide +kernel
theorem dX5_init_17 : decode cX5_init 17 = .ok (.aload_n 0, 1) := by decide +kernel
theorem dX5_init_18 : decode cX5_init 18 = .ok (.aload_n 1, 1) := by decide +kernel
theorem dX5_init_19 : decode cX5_init 19 = .ok (.getfield 19, 3) := by decide +kernel
theorem dX5_init_22 : decode cX5_init 22 = .ok (.putfield 25, 3) := by decide +kernel
theorem dX5_init_25 : decode cX5_init 25 = .ok (.aload_n 0, 1) := by decide +kernel
theorem dX5_init_26 : decode cX5_init 26 = .ok (.aload_n 1, 1) := by decide +kernel
theorem dX5_init_27 : decode cX5_init 27 = .ok (.getfield 26, 3) := by decide +kernel
theorem dX5_init_30 : decode cX5_init 30 = .ok (.putfield 30, 3) := by decide +kernel
theorem dX5_init_33 : decode cX5_init 33 = .ok (.aload_n 0, 1) := by decide +kernel
theorem dX5_init_34 : decode cX5_init 34 = .ok (.aload_n 1, 1) := by decide +kernel
theorem dX5_init_35 : decode cX5_init 35 = .ok (.getfield 31, 3) := by decide +kernel
theorem dX5_init_38 : decode cX5_init 38 = .ok (.putfield 35, 3) := by decide +kernel
theorem dX5_init_41 : decode cX5_init 41 = .ok (.return_, 1) := by decide +kernel
theorem dX5_ofTurn_0 : decode cX5_ofTurn 0 = .ok (.aload_n 0, 1) := by decide +kernel
theorem dX5_ofTurn_1 : decode cX5_ofTurn 1 = .ok (.getfield 25, 3) := by decide +kernel
theorem dX5_ofTurn_4 : decode cX5_ofTurn 4 = .ok (.iload_n 1, 1) := by decide +kernel
theorem dX5_ofTurn_5 : decode cX5_ofTurn 5 = .ok (.invokevirtual 36, 3) := by decide +kernel
theorem dX5_ofTurn_8 : decode cX5_ofTurn 8 = .ok (.ifCond .ne 6, 3) := by decide +kernel
theorem dX5_ofTurn_11 : decode cX5_ofTurn 11 = .ok (.ldc 42, 2) := by decide +kernel
theorem dX5_ofTurn_13 : decode cX5_ofTurn 13 = .ok (.ireturn, 1) := by decide +kernel
theorem dX5_ofTurn_14 : decode cX5_ofTurn 14 = .ok (.iload_n 2, 1) := by decide +kernel
theorem dX5_ofTurn_15 : decode cX5_ofTurn 15 = .ok (.tableswitch 120 0 7 #[45, 54, 63, 72, 84, 93, 102, 111], 45) := by decide +kernel
theorem dX5_ofTurn_60 : decode cX5_ofTurn 60 = .ok (.aload_n 0, 1) := by decide +kernel
theorem dX5_ofTurn_61 : decode cX5_ofTurn 61 = .ok (.getfield 25, 3) := by decide +kernel
theorem dX5_ofTurn_64 : decode cX5_ofTurn 64 = .ok (.iload_n 1, 1) := by decide +kernel
theorem dX5_ofTurn_65 : decode cX5_ofTurn 65 = .ok (.invokevirtual 43, 3) := by decide +kernel
theorem dX5_ofTurn_68 : decode cX5_ofTurn 68 = .ok (.ireturn, 1) := by decide +kernel
theorem dX5_ofTurn_69 : decode cX5_ofTurn 69 = .ok (.aload_n 0, 1) := by decide +kernel
theorem dX5_ofTurn_70 : decode cX5_ofTurn 70 = .ok (.getfield 25, 3) := by decide +kernel
theorem dX5_ofTurn_73 : decode cX5_ofTurn 73 = .ok (.iload_n 1, 1) := by decide +kernel
theorem dX5_ofTurn_74 : decode cX5_ofTurn 74 = .ok (.invokevirtual 47, 3) := by decide +kernel
theorem dX5_ofTurn_77 : decode cX5_ofTurn 77 = .ok (.ireturn, 1) := by decide +kernel
theorem dX5_ofTurn_78 : decode cX5_ofTurn 78 = .ok (.aload_n 0, 1) := by decide +kernel
theorem dX5_ofTurn_79 : decode cX5_ofTurn 79 = .ok (.getfield 25, 3) := by decide +kernel
theorem dX5_ofTurn_82 : decode cX5_ofTurn 82 = .ok (.iload_n 1, 1) := by decide +kernel
theorem dX5_ofTurn_83 : decode cX5_ofTurn 83 = .ok (.invokevirtual 50, 3) := by decide +kernel
theorem dX5_ofTurn_86 : decode cX5_ofTurn 86 = .ok (.ireturn, 1) := by decide +kernel
theorem dX5_ofTurn_87 : decode cX5_ofTurn 87 = .ok (.aload_n 0, 1) := by decide +kernel
theorem dX5_ofTurn_88 : decode cX5_ofTurn 88 = .ok (.getfield 25, 3) := by decide +kernel
theorem dX5_ofTurn_91 : decode cX5_ofTurn 91 = .ok (.iload_n 1, 1) := by decide +kernel
theorem dX5_ofTurn_92 : decode cX5_ofTurn 92 = .ok (.invokevirtual 53, 3) := by decide +kernel
theorem dX5_ofTurn_95 : decode cX5_ofTurn 95 = .ok (.invokestatic 56, 3) := by decide +kernel
theorem dX5_ofTurn_98 : decode cX5_ofTurn 98 = .ok (.ireturn, 1) := by decide +kernel
theorem dX5_ofTurn_99 : decode cX5_ofTurn 99 = .ok (.aload_n 0, 1) := by decide +kernel
theorem dX5_ofTurn_100 : decode cX5_ofTurn 100 = .ok (.getfield 25, 3) := by decide +kernel
theorem dX5_ofTurn_103 : decode cX5_ofTurn 103 = .ok (.iload_n 1, 1) := by decide +kernel
theorem dX5_ofTurn_104 : decode cX5_ofTurn 104 = .ok (.invokevirtual 59, 3) := by decide +kernel
theorem dX5_ofTurn_107 : decode cX5_ofTurn 107 = .ok (.ireturn, 1) := by decide +kernel
theorem dX5_ofTurn_108 : decode cX5_ofTurn 108 = .ok (.aload_n 0, 1) := by decide +kernel
theorem dX5_ofTurn_109 : decode cX5_ofTurn 109 = .ok (.getfield 25, 3) := by decide +kernel
theorem dX5_ofTurn_112 : decode cX5_ofTurn 112 = .ok (.iload_n 1, 1) := by decide +kernel
theorem dX5_ofTurn_113 : decode cX5_ofTurn 113 = .ok (.invokevirtual 62, 3) := by decide +kernel
theorem dX5_ofTurn_116 : decode cX5_ofTurn 116 = .ok (.ireturn, 1) := by decide +kernel
theorem dX5_ofTurn_117 : decode cX5_ofTurn 117 = .ok (.aload_n 0, 1) := by decide +kernel
theorem dX5_ofTurn_118 : decode cX5_ofTurn 118 = .ok (.getfield 25, 3) := by decide +kernel
theorem dX5_ofTurn_121 : decode cX5_ofTurn 121 = .ok (.iload_n 1, 1) := by decide +kernel
theorem dX5_ofTurn_122 : decode cX5_ofTurn 122 = .ok (.invokevirtual 65, 3) := by decide +kernel
theorem dX5_ofTurn_125 : decode cX5_ofTurn 125 = .ok (.ireturn, 1) := by decide +kernel
theorem dX5_ofTurn_126 : decode cX5_ofTurn 126 = .ok (.aload_n 0, 1) := by decide +kernel
theorem dX5_ofTurn_127 : decode cX5_ofTurn 127 = .ok (.getfield 25, 3) := by decide +kernel
theorem dX5_ofTurn_130 : decode cX5_ofTurn 130 = .ok (.iload_n 1, 1) := by decide +kernel
theorem dX5_ofTurn_131 : decode cX5_ofTurn 131 = .ok (.invokevirtual 68, 3) := by decide +kernel
theorem dX5_ofTurn_134 : decode cX5_ofTurn 134 = .ok (.ireturn, 1) := by decide +kernel
theorem dX5_ofTurn_135 : decode cX5_ofTurn 135 = .ok (.ldc 42, 2) := by decide +kernel
theorem dX5_ofTurn_137 : decode cX5_ofTurn 137 = .ok (.ireturn, 1) := by decide +kernel
theorem dX5_ofPlace_0 : decode cX5_ofPlace 0 = .ok (.aload_n 0, 1) := by decide +kernel
theorem dX5_ofPlace_1 : decode cX5_ofPlace 1 = .ok (.getfield 25, 3) := by decide +kernel
theorem dX5_ofPlace_4 : decode cX5_ofPlace 4 = .ok (.iload_n 1, 1) := by decide +kernel
theorem dX5_ofPlace_5 : decode cX5_ofPlace 5 = .ok (.invokevirtual 36, 3) := by decide +kernel
theorem dX5_ofPlace_8 : decode cX5_ofPlace 8 = .ok (.ifCond .eq 16, 3) := by decide +kernel
theorem dX5_ofPlace_11 : decode cX5_ofPlace 11 = .ok (.iload_n 2, 1) := by decide +kernel
theorem dX5_ofPlace_12 : decode cX5_ofPlace 12 = .ok (.ifCond .lt 12, 3) := by decide +kernel
theorem dX5_ofPlace_15 : decode cX5_ofPlace 15 = .ok (.iload_n 3, 1) := by decide +kernel
theorem dX5_ofPlace_16 : decode cX5_ofPlace 16 = .ok (.iconst 0, 1) := by decide +kernel
theorem dX5_ofPlace_17 : decode cX5_ofPlace 17 = .ok (.iconst 1, 1) := by decide +kernel
theorem dX5_ofPlace_18 : decode cX5_ofPlace 18 = .ok (.invokestatic 71, 3) := by decide +kernel
theorem dX5_ofPlace_21 : decode cX5_ofPlace 21 = .ok (.ifCond .ne 6, 3) := by decide +kernel
theorem dX5_ofPlace_24 : decode cX5_ofPlace 24 = .ok (.ldc 42, 2) := by decide +kernel
theorem dX5_ofPlace_26 : decode cX5_ofPlace 26 = .ok (.ireturn, 1) := by decide +kernel
theorem dX5_ofPlace_27 : decode cX5_ofPlace 27 = .ok (.iload_n 2, 1) := by decide +kernel
theorem dX5_ofPlace_28 : decode cX5_ofPlace 28 = .ok (.aload_n 0, 1) := by decide +kernel
theorem dX5_ofPlace_29 : decode cX5_ofPlace 29 = .ok (.getfield 25, 3) := by decide +kernel
theorem dX5_ofPlace_32 : decode cX5_ofPlace 32 = .ok (.iload_n 1, 1) := by decide +kernel
theorem dX5_ofPlace_33 : decode cX5_ofPlace 33 = .ok (.invokevirtual 59, 3) := by decide +kernel
theorem dX5_ofPlace_36 : decode cX5_ofPlace 36 = .ok (.if_icmp .lt 6, 3) := by decide +kernel
theorem dX5_ofPlace_39 : decode cX5_ofPlace 39 = .ok (.ldc 75, 2) := by decide +kernel
theorem dX5_ofPlace_41 : decode cX5_ofPlace 41 = .ok (.ireturn, 1) := by decide +kernel
theorem dX5_ofPlace_42 : decode cX5_ofPlace 42 = .ok (.aload_n 0, 1) := by decide +kernel
theorem dX5_ofPlace_43 : decode cX5_ofPlace 43 = .ok (.getfield 25, 3) := by decide +kernel
theorem dX5_ofPlace_46 : decode cX5_ofPlace 46 = .ok (.iload_n 1, 1) := by decide +kernel
theorem dX5_ofPlace_47 : decode cX5_ofPlace 47 = .ok (.iload_n 2, 1) := by decide +kernel
theorem dX5_ofPlace_48 : decode cX5_ofPlace 48 = .ok (.invokevirtual 76, 3) := by decide +kernel
theorem dX5_ofPlace_51 : decode cX5_ofPlace 51 = .ok (.istore 4, 2) := by decide +kernel
theorem dX5_ofPlace_53 : decode cX5_ofPlace 53 = .ok (.iload_n 3, 1) := by decide +kernel
theorem dX5_ofPlace_54 : decode cX5_ofPlace 54 = .ok (.ifCond .ne 8, 3) := by decide +kernel
theorem dX5_ofPlace_57 : decode cX5_ofPlace 57 = .ok (.iload 4, 2) := by decide +kernel
theorem dX5_ofPlace_59 : decode cX5_ofPlace 59 = .ok (.goto 12, 3) := by decide +kernel
theorem dX5_ofPlace_62 : decode cX5_ofPlace 62 = .ok (.aload_n 0, 1) := by decide +kernel
theorem dX5_ofPlace_63 : decode cX5_ofPlace 63 = .ok (.getfield 30, 3) := by decide +kernel
theorem dX5_ofPlace_66 : decode cX5_ofPlace 66 = .ok (.iload 4, 2) := by decide +kernel
theorem dX5_ofPlace_68 : decode cX5_ofPlace 68 = .ok (.invokevirtual 80, 3) := by decide +kernel
theorem dX5_ofPlace_71 : decode cX5_ofPlace 71 = .ok (.ireturn, 1) := by decide +kernel
theorem dX5_ofTerm_0 : decode cX5_ofTerm 0 = .ok (.iload_n 1, 1) := by decide +kernel
theorem dX5_ofTerm_1 : decode cX5_ofTerm 1 = .ok (.invokestatic 85, 3) := by decide +kernel
theorem dX5_ofTerm_4 : decode cX5_ofTerm 4 = .ok (.ifCond .ne 6, 3) := by decide +kernel
theorem dX5_ofTerm_7 : decode cX5_ofTerm 7 = .ok (.ldc 42, 2) := by decide +kernel
theorem dX5_ofTerm_9 : decode cX5_ofTerm 9 = .ok (.ireturn, 1) := by decide +kernel
theorem dX5_ofTerm_10 : decode cX5_ofTerm 10 = .ok (.iload_n 2, 1) := by decide +kernel
theorem dX5_ofTerm_11 : decode cX5_ofTerm 11 = .ok (.tableswitch 98 0 6 #[41, 53, 62, 71, 77, 83, 89], 41) := by decide +kernel
theorem dX5_ofTerm_52 : decode cX5_ofTerm 52 = .ok (.aload_n 0, 1) := by decide +kernel
theorem dX5_ofTerm_53 : decode cX5_ofTerm 53 = .ok (.getfield 30, 3) := by decide +kernel
theorem dX5_ofTerm_56 : decode cX5_ofTerm 56 = .ok (.iload_n 1, 1) := by decide +kernel
theorem dX5_ofTerm_57 : decode cX5_ofTerm 57 = .ok (.invokevirtual 88, 3) := by decide +kernel
theorem dX5_ofTerm_60 : decode cX5_ofTerm 60 = .ok (.invokestatic 56, 3) := by decide +kernel
theorem dX5_ofTerm_63 : decode cX5_ofTerm 63 = .ok (.ireturn, 1) := by decide +kernel
theorem dX5_ofTerm_64 : decode cX5_ofTerm 64 = .ok (.aload_n 0, 1) := by decide +kernel
theorem dX5_ofTerm_65 : decode cX5_ofTerm 65 = .ok (.getfield 30, 3) := by decide +kernel
theorem dX5_ofTerm_68 : decode cX5_ofTerm 68 = .ok (.iload_n 1, 1) := by decide +kernel
theorem dX5_ofTerm_69 : decode cX5_ofTerm 69 = .ok (.invokevirtual 80, 3) := by decide +kernel
theorem dX5_ofTerm_72 : decode cX5_ofTerm 72 = .ok (.ireturn, 1) := by decide +kernel
theorem dX5_ofTerm_73 : decode cX5_ofTerm 73 = .ok (.aload_n 0, 1) := by decide +kernel
theorem dX5_ofTerm_74 : decode cX5_ofTerm 74 = .ok (.getfield 30, 3) := by decide +kernel
theorem dX5_ofTerm_77 : decode cX5_ofTerm 77 = .ok (.iload_n 1, 1) := by decide +kernel
theorem dX5_ofTerm_78 : decode cX5_ofTerm 78 = .ok (.invokevirtual 91, 3) := by decide +kernel
theorem dX5_ofTerm_81 : decode cX5_ofTerm 81 = .ok (.ireturn, 1) := by decide +kernel
theorem dX5_ofTerm_82 : decode cX5_ofTerm 82 = .ok (.aload_n 0, 1) := by decide +kernel
theorem dX5_ofTerm_83 : decode cX5_ofTerm 83 = .ok (.iload_n 1, 1) := by decide +kernel
theorem dX5_ofTerm_84 : decode cX5_ofTerm 84 = .ok (.invokevirtual 94, 3) := by decide +kernel
theorem dX5_ofTerm_87 : decode cX5_ofTerm 87 = .ok (.ireturn, 1) := by decide +kernel
theorem dX5_ofTerm_88 : decode cX5_ofTerm 88 = .ok (.aload_n 0, 1) := by decide +kernel
theorem dX5_ofTerm_89 : decode cX5_ofTerm 89 = .ok (.iload_n 1, 1) := by decide +kernel
theorem dX5_ofTerm_90 : decode cX5_ofTerm 90 = .ok (.invokevirtual 97, 3) := by decide +kernel
theorem dX5_ofTerm_93 : decode cX5_ofTerm 93 = .ok (.ireturn, 1) := by decide +kernel
theorem dX5_ofTerm_94 : decode cX5_ofTerm 94 = .ok (.aload_n 0, 1) := by decide +kernel
theorem dX5_ofTerm_95 : decode cX5_ofTerm 95 = .ok (.iload_n 1, 1) := by decide +kernel
theorem dX5_ofTerm_96 : decode cX5_ofTerm 96 = .ok (.invokevirtual 100, 3) := by decide +kernel
theorem dX5_ofTerm_99 : decode cX5_ofTerm 99 = .ok (.ireturn, 1) := by decide +kernel
theorem dX5_ofTerm_100 : decode cX5_ofTerm 100 = .ok (.aload_n 0, 1) := by decide +kernel
theorem dX5_ofTerm_101 : decode cX5_ofTerm 101 = .ok (.getfield 30, 3) := by decide +kernel
theorem dX5_ofTerm_104 : decode cX5_ofTerm 104 = .ok (.iload_n 1, 1) := by decide +kernel
theorem dX5_ofTerm_105 : decode cX5_ofTerm 105 = .ok (.invokevirtual 103, 3) := by decide +kernel
theorem dX5_ofTerm_108 : decode cX5_ofTerm 108 = .ok (.ireturn, 1) := by decide +kernel
theorem dX5_ofTerm_109 : decode cX5_ofTerm 109 = .ok (.ldc 42, 2) := by decide +kernel
theorem dX5_ofTerm_111 : decode cX5_ofTerm 111 = .ok (.ireturn, 1) := by decide +kernel
theorem dX5_ofSpeaker_0 : decode cX5_ofSpeaker 0 = .ok (.aload_n 0, 1) := by decide +kernel
theorem dX5_ofSpeaker_1 : decode cX5_ofSpeaker 1 = .ok (.getfield 35, 3) := by decide +kernel
theorem dX5_ofSpeaker_4 : decode cX5_ofSpeaker 4 = .ok (.iload_n 1, 1) := by decide +kernel
theorem dX5_ofSpeaker_5 : decode cX5_ofSpeaker 5 = .ok (.invokevirtual 106, 3) := by decide +kernel
theorem dX5_ofSpeaker_8 : decode cX5_ofSpeaker 8 = .ok (.ifCond .ne 6, 3) := by decide +kernel
theorem dX5_ofSpeaker_11 : decode cX5_ofSpeaker 11 = .ok (.ldc 42, 2) := by decide +kernel
theorem dX5_ofSpeaker_13 : decode cX5_ofSpeaker 13 = .ok (.ireturn, 1) := by decide +kernel
theorem dX5_ofSpeaker_14 : decode cX5_ofSpeaker 14 = .ok (.iload_n 2, 1) := by decide +kernel
theorem dX5_ofSpeaker_15 : decode cX5_ofSpeaker 15 = .ok (.tableswitch 92 0 6 #[41, 50, 59, 68, 74, 80, 86], 41) := by decide +kernel
theorem dX5_ofSpeaker_56 : decode cX5_ofSpeaker 56 = .ok (.aload_n 0, 1) := by decide +kernel
theorem dX5_ofSpeaker_57 : decode cX5_ofSpeaker 57 = .ok (.getfield 35, 3) := by decide +kernel
theorem dX5_ofSpeaker_60 : decode cX5_ofSpeaker 60 = .ok (.iload_n 1, 1) := by decide +kernel
theorem dX5_ofSpeaker_61 : decode cX5_ofSpeaker 61 = .ok (.invokevirtual 109, 3) := by decide +kernel
theorem dX5_ofSpeaker_64 : decode cX5_ofSpeaker 64 = .ok (.ireturn, 1) := by decide +kernel
theorem dX5_ofSpeaker_65 : decode cX5_ofSpeaker 65 = .ok (.aload_n 0, 1) := by decide +kernel
theorem dX5_ofSpeaker_66 : decode cX5_ofSpeaker 66 = .ok (.getfield 25, 3) := by decide +kernel
theorem dX5_ofSpeaker_69 : decode cX5_ofSpeaker 69 = .ok (.iload_n 1, 1) := by decide +kernel
theorem dX5_ofSpeaker_70 : decode cX5_ofSpeaker 70 = .ok (.invokevirtual 110, 3) := by decide +kernel
theorem dX5_ofSpeaker_73 : decode cX5_ofSpeaker 73 = .ok (.ireturn, 1) := by decide +kernel
theorem dX5_ofSpeaker_74 : decode cX5_ofSpeaker 74 = .ok (.aload_n 0, 1) := by decide +kernel
theorem dX5_ofSpeaker_75 : decode cX5_ofSpeaker 75 = .ok (.getfield 25, 3) := by decide +kernel
theorem dX5_ofSpeaker_78 : decode cX5_ofSpeaker 78 = .ok (.iload_n 1, 1) := by decide +kernel
theorem dX5_ofSpeaker_79 : decode cX5_ofSpeaker 79 = .ok (.invokevirtual 113, 3) := by decide +kernel
theorem dX5_ofSpeaker_82 : decode cX5_ofSpeaker 82 = .ok (.ireturn, 1) := by decide +kernel
theorem dX5_ofSpeaker_83 : decode cX5_ofSpeaker 83 = .ok (.aload_n 0, 1) := by decide +kernel
theorem dX5_ofSpeaker_84 : decode cX5_ofSpeaker 84 = .ok (.iload_n 1, 1) := by decide +kernel
theorem dX5_ofSpeaker_85 : decode cX5_ofSpeaker 85 = .ok (.invokevirtual 116, 3) := by decide +kernel
theorem dX5_ofSpeaker_88 : decode cX5_ofSpeaker 88 = .ok (.ireturn, 1) := by decide +kernel
theorem dX5_ofSpeaker_89 : decode cX5_ofSpeaker 89 = .ok (.aload_n 0, 1) := by decide +kernel
theorem dX5_ofSpeaker_90 : decode cX5_ofSpeaker 90 = .ok (.iload_n 1, 1) := by decide +kernel
theorem dX5_ofSpeaker_91 : decode cX5_ofSpeaker 91 = .ok (.invokevirtual 119, 3) := by decide +kernel
theorem dX5_ofSpeaker_94 : decode cX5_ofSpeaker 94 = .ok (.ireturn, 1) := by decide +kernel
theorem dX5_ofSpeaker_95 : decode cX5_ofSpeaker 95 = .ok (.aload_n 0, 1) := by decide +kernel
theorem dX5_ofSpeaker_96 : decode cX5_ofSpeaker 96 = .ok (.iload_n 1, 1) := by decide +kernel
theorem dX5_ofSpeaker_97 : decode cX5_ofSpeaker 97 = .ok (.invokevirtual 122, 3) := by decide +kernel
theorem dX5_ofSpeaker_100 : decode cX5_ofSpeaker 100 = .ok (.ireturn, 1) := by decide +kernel
theorem dX5_ofSpeaker_101 : decode cX5_ofSpeaker 101 = .ok (.aload_n 0, 1) := by decide +kernel
theorem dX5_ofSpeaker_102 : decode cX5_ofSpeaker 102 = .ok (.iload_n 1, 1) := by decide +kernel
theorem dX5_ofSpeaker_103 : decode cX5_ofSpeaker 103 = .ok (.invokevirtual 125, 3) := by decide +kernel
theorem dX5_ofSpeaker_106 : decode cX5_ofSpeaker 106 = .ok (.ireturn, 1) := by decide +kernel
theorem dX5_ofSpeaker_107 : decode cX5_ofSpeaker 107 = .ok (.ldc 42, 2) := by decide +kernel
theorem dX5_ofSpeaker_109 : decode cX5_ofSpeaker 109 = .ok (.ireturn, 1) := by decide +kernel
theorem dX5_ofSecond_0 : decode cX5_ofSecond 0 = .ok (.iload_n 1, 1) := by decide +kernel
theorem dX5_ofSecond_1 : decode cX5_ofSecond 1 = .ok (.iconst 0, 1) := by decide +kernel
theorem dX5_ofSecond_2 : decode cX5_ofSecond 2 = .ok (.sipush 1999, 3) := by decide +kernel
theorem dX5_ofSecond_5 : decode cX5_ofSecond 5 = .ok (.invokestatic 71, 3) := by decide +kernel
theorem dX5_ofSecond_8 : decode cX5_ofSecond 8 = .ok (.ifCond .eq 12, 3) := by decide +kernel
theorem dX5_ofSecond_11 : decode cX5_ofSecond 11 = .ok (.iload_n 2, 1) := by decide +kernel
theorem dX5_ofSecond_12 : decode cX5_ofSecond 12 = .ok (.iconst 0, 1) := by decide +kernel
theorem dX5_ofSecond_13 : decode cX5_ofSecond 13 = .ok (.iconst 1, 1) := by decide +kernel
theorem dX5_ofSecond_14 : decode cX5_ofSecond 14 = .ok (.invokestatic 71, 3) := by decide +kernel
theorem dX5_ofSecond_17 : decode cX5_ofSecond 17 = .ok (.ifCond .ne 6, 3) := by decide +kernel
theorem dX5_ofSecond_20 : decode cX5_ofSecond 20 = .ok (.ldc 42, 2) := by decide +kernel
theorem dX5_ofSecond_22 : decode cX5_ofSecond 22 = .ok (.ireturn, 1) := by decide +kernel
theorem dX5_ofSecond_23 : decode cX5_ofSecond 23 = .ok (.iload_n 2, 1) := by decide +kernel
theorem dX5_ofSecond_24 : decode cX5_ofSecond 24 = .ok (.ifCond .ne 14, 3) := by decide +kernel
theorem dX5_ofSecond_27 : decode cX5_ofSecond 27 = .ok (.aload_n 0, 1) := by decide +kernel
theorem dX5_ofSecond_28 : decode cX5_ofSecond 28 = .ok (.getfield 25, 3) := by decide +kernel
theorem dX5_ofSecond_31 : decode cX5_ofSecond 31 = .ok (.iload_n 1, 1) := by decide +kernel
theorem dX5_ofSecond_32 : decode cX5_ofSecond 32 = .ok (.invokevirtual 128, 3) := by decide +kernel
theorem dX5_ofSecond_35 : decode cX5_ofSecond 35 = .ok (.goto 11, 3) := by decide +kernel
theorem dX5_ofSecond_38 : decode cX5_ofSecond 38 = .ok (.aload_n 0, 1) := by decide +kernel
theorem dX5_ofSecond_39 : decode cX5_ofSecond 39 = .ok (.getfield 25, 3) := by decide +kernel
theorem dX5_ofSecond_42 : decode cX5_ofSecond 42 = .ok (.iload_n 1, 1) := by decide +kernel
theorem dX5_ofSecond_43 : decode cX5_ofSecond 43 = .ok (.invokevirtual 131, 3) := by decide +kernel
theorem dX5_ofSecond_46 : decode cX5_ofSecond 46 = .ok (.ireturn, 1) := by decide +kernel
theorem dX5_ofInterruptions_0 : decode cX5_ofInterruptions 0 = .ok (.aload_n 0, 1) := by decide +kernel
theorem dX5_ofInterruptions_1 : decode cX5_ofInterruptions 1 = .ok (.getfield 35, 3) := by decide +kernel
theorem dX5_ofInterruptions_4 : decode cX5_ofInterruptions 4 = .ok (.iload_n 1, 1) := by decide +kernel
theorem dX5_ofInterruptions_5 : decode cX5_ofInterruptions 5 = .ok (.invokevirtual 106, 3) := by decide +kernel
theorem dX5_ofInterruptions_8 : decode cX5_ofInterruptions 8 = .ok (.ifCond .eq 19, 3) := by decide +kernel
theorem dX5_ofInterruptions_11 : decode cX5_ofInterruptions 11 = .ok (.aload_n 0, 1) := by decide +kernel
theorem dX5_ofInterruptions_12 : decode cX5_ofInterruptions 12 = .ok (.getfield 35, 3) := by decide +kernel
theorem dX5_ofInterruptions_15 : decode cX5_ofInterruptions 15 = .ok (.iload_n 2, 1) := by decide +kernel
theorem dX5_ofInterruptions_16 : decode cX5_ofInterruptions 16 = .ok (.invokevirtual 106, 3) := by decide +kernel
theorem dX5_ofInterruptions_19 : decode cX5_ofInterruptions 19 = .ok (.ifCond .eq 8, 3) := by decide +kernel
theorem dX5_ofInterruptions_22 : decode cX5_ofInterruptions 22 = .ok (.iload_n 1, 1) := by decide +kernel
theorem dX5_ofInterruptions_23 : decode cX5_ofInterruptions 23 = .ok (.iload_n 2, 1) := by decide +kernel
theorem dX5_ofInterruptions_24 : decode cX5_ofInterruptions 24 = .ok (.if_icmp .ne 6, 3) := by decide +kernel
theorem dX5_ofInterruptions_27 : decode cX5_ofInterruptions 27 = .ok (.ldc 42, 2) := by decide +kernel
theorem dX5_ofInterruptions_29 : decode cX5_ofInterruptions 29 = .ok (.ireturn, 1) := by decide +kernel
theorem dX5_ofInterruptions_30 : decode cX5_ofInterruptions 30 = .ok (.aload_n 0, 1) := by decide +kernel
theorem dX5_ofInterruptions_31 : decode cX5_ofInterruptions 31 = .ok (.getfield 25, 3) := by decide +kernel
theorem dX5_ofInterruptions_34 : decode cX5_ofInterruptions 34 = .ok (.iload_n 1, 1) := by decide +kernel
theorem dX5_ofInterruptions_35 : decode cX5_ofInterruptions 35 = .ok (.iload_n 2, 1) := by decide +kernel
theorem dX5_ofInterruptions_36 : decode cX5_ofInterruptions 36 = .ok (.invokevirtual 134, 3) := by decide +kernel
theorem dX5_ofInterruptions_39 : decode cX5_ofInterruptions 39 = .ok (.ireturn, 1) := by decide +kernel
theorem dX5_ofPitch_0 : decode cX5_ofPitch 0 = .ok (.iload_n 1, 1) := by decide +kernel
theorem dX5_ofPitch_1 : decode cX5_ofPitch 1 = .ok (.invokestatic 137, 3) := by decide +kernel
theorem dX5_ofPitch_4 : decode cX5_ofPitch 4 = .ok (.ifCond .ne 6, 3) := by decide +kernel
theorem dX5_ofPitch_7 : decode cX5_ofPitch 7 = .ok (.ldc 42, 2) := by decide +kernel
theorem dX5_ofPitch_9 : decode cX5_ofPitch 9 = .ok (.ireturn, 1) := by decide +kernel
theorem dX5_ofPitch_10 : decode cX5_ofPitch 10 = .ok (.aload_n 0, 1) := by decide +kernel
theorem dX5_ofPitch_11 : decode cX5_ofPitch 11 = .ok (.getfield 15, 3) := by decide +kernel
theorem dX5_ofPitch_14 : decode cX5_ofPitch 14 = .ok (.iload_n 1, 1) := by decide +kernel
theorem dX5_ofPitch_15 : decode cX5_ofPitch 15 = .ok (.invokevirtual 140, 3) := by decide +kernel
theorem dX5_ofPitch_18 : decode cX5_ofPitch 18 = .ok (.invokestatic 56, 3) := by decide +kernel
theorem dX5_ofPitch_21 : decode cX5_ofPitch 21 = .ok (.ireturn, 1) := by decide +kernel
theorem dX5_ofCorrection_0 : decode cX5_ofCorrection 0 = .ok (.aload_n 0, 1) := by decide +kernel
theorem dX5_ofCorrection_1 : decode cX5_ofCorrection 1 = .ok (.getfield 30, 3) := by decide +kernel
theorem dX5_ofCorrection_4 : decode cX5_ofCorrection 4 = .ok (.iload_n 1, 1) := by decide +kernel
theorem dX5_ofCorrection_5 : decode cX5_ofCorrection 5 = .ok (.iload_n 2, 1) := by decide +kernel
theorem dX5_ofCorrection_6 : decode cX5_ofCorrection 6 = .ok (.invokevirtual 143, 3) := by decide +kernel
theorem dX5_ofCorrection_9 : decode cX5_ofCorrection 9 = .ok (.istore_n 3, 1) := by decide +kernel
theorem dX5_ofCorrection_10 : decode cX5_ofCorrection 10 = .ok (.iload_n 3, 1) := by decide +kernel
theorem dX5_ofCorrection_11 : decode cX5_ofCorrection 11 = .ok (.ifCond .eq 7, 3) := by decide +kernel
theorem dX5_ofCorrection_14 : decode cX5_ofCorrection 14 = .ok (.iload_n 3, 1) := by decide +kernel
theorem dX5_ofCorrection_15 : decode cX5_ofCorrection 15 = .ok (.goto 19, 3) := by decide +kernel
theorem dX5_ofCorrection_18 : decode cX5_ofCorrection 18 = .ok (.aload_n 0, 1) := by decide +kernel
theorem dX5_ofCorrection_19 : decode cX5_ofCorrection 19 = .ok (.getfield 15, 3) := by decide +kernel
theorem dX5_ofCorrection_22 : decode cX5_ofCorrection 22 = .ok (.iload_n 1, 1) := by decide +kernel
theorem dX5_ofCorrection_23 : decode cX5_ofCorrection 23 = .ok (.aload_n 0, 1) := by decide +kernel
theorem dX5_ofCorrection_24 : decode cX5_ofCorrection 24 = .ok (.getfield 30, 3) := by decide +kernel
theorem dX5_ofCorrection_27 : decode cX5_ofCorrection 27 = .ok (.iload_n 2, 1) := by decide +kernel
theorem dX5_ofCorrection_28 : decode cX5_ofCorrection 28 = .ok (.invokevirtual 80, 3) := by decide +kernel
theorem dX5_ofCorrection_31 : decode cX5_ofCorrection 31 = .ok (.invokevirtual 146, 3) := by decide +kernel
theorem dX5_ofCorrection_34 : decode cX5_ofCorrection 34 = .ok (.ireturn, 1) := by decide +kernel
theorem dX5_ofPairs_0 : decode cX5_ofPairs 0 = .ok (.iload_n 1, 1) := by decide +kernel
theorem dX5_ofPairs_1 : decode cX5_ofPairs 1 = .ok (.iconst 0, 1) := by decide +kernel
theorem dX5_ofPairs_2 : decode cX5_ofPairs 2 = .ok (.iconst 2, 1) := by decide +kernel
theorem dX5_ofPairs_3 : decode cX5_ofPairs 3 = .ok (.invokestatic 71, 3) := by decide +kernel
theorem dX5_ofPairs_6 : decode cX5_ofPairs 6 = .ok (.ifCond .ne 6, 3) := by decide +kernel
theorem dX5_ofPairs_9 : decode cX5_ofPairs 9 = .ok (.ldc 42, 2) := by decide +kernel
theorem dX5_ofPairs_11 : decode cX5_ofPairs 11 = .ok (.ireturn, 1) := by decide +kernel
theorem dX5_ofPairs_12 : decode cX5_ofPairs 12 = .ok (.aload_n 0, 1) := by decide +kernel
theorem dX5_ofPairs_13 : decode cX5_ofPairs 13 = .ok (.invokevirtual 149, 3) := by decide +kernel
theorem dX5_ofPairs_16 : decode cX5_ofPairs 16 = .ok (.iconst 0, 1) := by decide +kernel
theorem dX5_ofPairs_17 : decode cX5_ofPairs 17 = .ok (.istore_n 2, 1) := by decide +kernel
theorem dX5_ofPairs_18 : decode cX5_ofPairs 18 = .ok (.iconst 0, 1) := by decide +kernel
theorem dX5_ofPairs_19 : decode cX5_ofPairs 19 = .ok (.istore_n 3, 1) := by decide +kernel
theorem dX5_ofPairs_20 : decode cX5_ofPairs 20 = .ok (.iconst 0, 1) := by decide +kernel
theorem dX5_ofPairs_21 : decode cX5_ofPairs 21 = .ok (.istore 4, 2) := by decide +kernel
theorem dX5_ofPairs_23 : decode cX5_ofPairs 23 = .ok (.iconst 0, 1) := by decide +kernel
theorem dX5_ofPairs_24 : decode cX5_ofPairs 24 = .ok (.istore 5, 2) := by decide +kernel
theorem dX5_ofPairs_26 : decode cX5_ofPairs 26 = .ok (.iload 5, 2) := by decide +kernel
theorem dX5_ofPairs_28 : decode cX5_ofPairs 28 = .ok (.bipush 16, 2) := by decide +kernel
theorem dX5_ofPairs_30 : decode cX5_ofPairs 30 = .ok (.if_icmp .ge 55, 3) := by decide +kernel
theorem dX5_ofPairs_33 : decode cX5_ofPairs 33 = .ok (.iload 5, 2) := by decide +kernel
theorem dX5_ofPairs_35 : decode cX5_ofPairs 35 = .ok (.iconst 1, 1) := by decide +kernel
theorem dX5_ofPairs_36 : decode cX5_ofPairs 36 = .ok (.iadd, 1) := by decide +kernel
theorem dX5_ofPairs_37 : decode cX5_ofPairs 37 = .ok (.istore 6, 2) := by decide +kernel
theorem dX5_ofPairs_39 : decode cX5_ofPairs 39 = .ok (.iload 6, 2) := by decide +kernel
theorem dX5_ofPairs_41 : decode cX5_ofPairs 41 = .ok (.bipush 16, 2) := by decide +kernel
theorem dX5_ofPairs_43 : decode cX5_ofPairs 43 = .ok (.if_icmp .ge 36, 3) := by decide +kernel
theorem dX5_ofPairs_46 : decode cX5_ofPairs 46 = .ok (.aload_n 0, 1) := by decide +kernel
theorem dX5_ofPairs_47 : decode cX5_ofPairs 47 = .ok (.iload 5, 2) := by decide +kernel
theorem dX5_ofPairs_49 : decode cX5_ofPairs 49 = .ok (.iload 6, 2) := by decide +kernel
theorem dX5_ofPairs_51 : decode cX5_ofPairs 51 = .ok (.invokevirtual 152, 3) := by decide +kernel
theorem dX5_ofPairs_54 : decode cX5_ofPairs 54 = .ok (.istore 7, 2) := by decide +kernel
theorem dX5_ofPairs_56 : decode cX5_ofPairs 56 = .ok (.iload 7, 2) := by decide +kernel
theorem dX5_ofPairs_58 : decode cX5_ofPairs 58 = .ok (.iload 4, 2) := by decide +kernel
theorem dX5_ofPairs_60 : decode cX5_ofPairs 60 = .ok (.if_icmp .le 13, 3) := by decide +kernel
theorem dX5_ofPairs_63 : decode cX5_ofPairs 63 = .ok (.iload 5, 2) := by decide +kernel
theorem dX5_ofPairs_65 : decode cX5_ofPairs 65 = .ok (.istore_n 2, 1) := by decide +kernel
theorem dX5_ofPairs_66 : decode cX5_ofPairs 66 = .ok (.iload 6, 2) := by decide +kernel
theorem dX5_ofPairs_68 : decode cX5_ofPairs 68 = .ok (.istore_n 3, 1) := by decide +kernel
theorem dX5_ofPairs_69 : decode cX5_ofPairs 69 = .ok (.iload 7, 2) := by decide +kernel
theorem dX5_ofPairs_71 : decode cX5_ofPairs 71 = .ok (.istore 4, 2) := by decide +kernel
theorem dX5_ofPairs_73 : decode cX5_ofPairs 73 = .ok (.iinc 6 1, 3) := by decide +kernel
theorem dX5_ofPairs_76 : decode cX5_ofPairs 76 = .ok (.goto (-37), 3) := by decide +kernel
theorem dX5_ofPairs_79 : decode cX5_ofPairs 79 = .ok (.iinc 5 1, 3) := by decide +kernel
theorem dX5_ofPairs_82 : decode cX5_ofPairs 82 = .ok (.goto (-56), 3) := by decide +kernel
theorem dX5_ofPairs_85 : decode cX5_ofPairs 85 = .ok (.iload 4, 2) := by decide +kernel
theorem dX5_ofPairs_87 : decode cX5_ofPairs 87 = .ok (.ifCond .ne 6, 3) := by decide +kernel
theorem dX5_ofPairs_90 : decode cX5_ofPairs 90 = .ok (.ldc 75, 2) := by decide +kernel
theorem dX5_ofPairs_92 : decode cX5_ofPairs 92 = .ok (.ireturn, 1) := by decide +kernel
theorem dX5_ofPairs_93 : decode cX5_ofPairs 93 = .ok (.iload_n 1, 1) := by decide +kernel
theorem dX5_ofPairs_94 : decode cX5_ofPairs 94 = .ok (.lookupswitch 30 #[(0, 26), (1, 28)], 26) := by decide +kernel
theorem dX5_ofPairs_120 : decode cX5_ofPairs 120 = .ok (.iload_n 2, 1) := by decide +kernel
theorem dX5_ofPairs_121 : decode cX5_ofPairs 121 = .ok (.ireturn, 1) := by decide +kernel
theorem dX5_ofPairs_122 : decode cX5_ofPairs 122 = .ok (.iload_n 3, 1) := by decide +kernel
theorem dX5_ofPairs_123 : decode cX5_ofPairs 123 = .ok (.ireturn, 1) := by decide +kernel
theorem dX5_ofPairs_124 : decode cX5_ofPairs 124 = .ok (.iload 4, 2) := by decide +kernel
theorem dX5_ofPairs_126 : decode cX5_ofPairs 126 = .ok (.ireturn, 1) := by decide +kernel
theorem dX5_ofSilence_0 : decode cX5_ofSilence 0 = .ok (.iload_n 1, 1) := by decide +kernel
theorem dX5_ofSilence_1 : decode cX5_ofSilence 1 = .ok (.iconst 0, 1) := by decide +kernel
theorem dX5_ofSilence_2 : decode cX5_ofSilence 2 = .ok (.iconst 1, 1) := by decide +kernel
theorem dX5_ofSilence_3 : decode cX5_ofSilence 3 = .ok (.invokestatic 71, 3) := by decide +kernel
theorem dX5_ofSilence_6 : decode cX5_ofSilence 6 = .ok (.ifCond .ne 6, 3) := by decide +kernel
theorem dX5_ofSilence_9 : decode cX5_ofSilence 9 = .ok (.ldc 42, 2) := by decide +kernel
theorem dX5_ofSilence_11 : decode cX5_ofSilence 11 = .ok (.ireturn, 1) := by decide +kernel
theorem dX5_ofSilence_12 : decode cX5_ofSilence 12 = .ok (.aload_n 0, 1) := by decide +kernel
theorem dX5_ofSilence_13 : decode cX5_ofSilence 13 = .ok (.getfield 25, 3) := by decide +kernel
theorem dX5_ofSilence_16 : decode cX5_ofSilence 16 = .ok (.iconst 1, 1) := by decide +kernel
theorem dX5_ofSilence_17 : decode cX5_ofSilence 17 = .ok (.invokevirtual 155, 3) := by decide +kernel
theorem dX5_ofSilence_20 : decode cX5_ofSilence 20 = .ok (.ifCond .ne 6, 3) := by decide +kernel
theorem dX5_ofSilence_23 : decode cX5_ofSilence 23 = .ok (.ldc 75, 2) := by decide +kernel
theorem dX5_ofSilence_25 : decode cX5_ofSilence 25 = .ok (.ireturn, 1) := by decide +kernel
theorem dX5_ofSilence_26 : decode cX5_ofSilence 26 = .ok (.aload_n 0, 1) := by decide +kernel
theorem dX5_ofSilence_27 : decode cX5_ofSilence 27 = .ok (.getfield 25, 3) := by decide +kernel
theorem dX5_ofSilence_30 : decode cX5_ofSilence 30 = .ok (.iload_n 1, 1) := by decide +kernel
theorem dX5_ofSilence_31 : decode cX5_ofSilence 31 = .ok (.invokevirtual 155, 3) := by decide +kernel
theorem dX5_ofSilence_34 : decode cX5_ofSilence 34 = .ok (.ireturn, 1) := by decide +kernel
theorem dX5_ofDoubt_0 : decode cX5_ofDoubt 0 = .ok (.iload_n 1, 1) := by decide +kernel
theorem dX5_ofDoubt_1 : decode cX5_ofDoubt 1 = .ok (.iconst 0, 1) := by decide +kernel
theorem dX5_ofDoubt_2 : decode cX5_ofDoubt 2 = .ok (.iconst 1, 1) := by decide +kernel
theorem dX5_ofDoubt_3 : decode cX5_ofDoubt 3 = .ok (.invokestatic 71, 3) := by decide +kernel
theorem dX5_ofDoubt_6 : decode cX5_ofDoubt 6 = .ok (.ifCond .ne 6, 3) := by decide +kernel
theorem dX5_ofDoubt_9 : decode cX5_ofDoubt 9 = .ok (.ldc 42, 2) := by decide +kernel
theorem dX5_ofDoubt_11 : decode cX5_ofDoubt 11 = .ok (.ireturn, 1) := by decide +kernel
theorem dX5_ofDoubt_12 : decode cX5_ofDoubt 12 = .ok (.iconst (-1), 1) := by decide +kernel
theorem dX5_ofDoubt_13 : decode cX5_ofDoubt 13 = .ok (.istore_n 2, 1) := by decide +kernel
theorem dX5_ofDoubt_14 : decode cX5_ofDoubt 14 = .ok (.iconst (-1), 1) := by decide +kernel
theorem dX5_ofDoubt_15 : decode cX5_ofDoubt 15 = .ok (.istore_n 3, 1) := by decide +kernel
theorem dX5_ofDoubt_16 : decode cX5_ofDoubt 16 = .ok (.iconst 0, 1) := by decide +kernel
theorem dX5_ofDoubt_17 : decode cX5_ofDoubt 17 = .ok (.istore 4, 2) := by decide +kernel
theorem dX5_ofDoubt_19 : decode cX5_ofDoubt 19 = .ok (.iload 4, 2) := by decide +kernel
theorem dX5_ofDoubt_21 : decode cX5_ofDoubt 21 = .ok (.aload_n 0, 1) := by decide +kernel
theorem dX5_ofDoubt_22 : decode cX5_ofDoubt 22 = .ok (.getfield 25, 3) := by decide +kernel
theorem dX5_ofDoubt_25 : decode cX5_ofDoubt 25 = .ok (.invokevirtual 158, 3) := by decide +kernel
theorem dX5_ofDoubt_28 : decode cX5_ofDoubt 28 = .ok (.if_icmp .ge 62, 3) := by decide +kernel
theorem dX5_ofDoubt_31 : decode cX5_ofDoubt 31 = .ok (.aload_n 0, 1) := by decide +kernel
theorem dX5_ofDoubt_32 : decode cX5_ofDoubt 32 = .ok (.getfield 25, 3) := by decide +kernel
theorem dX5_ofDoubt_35 : decode cX5_ofDoubt 35 = .ok (.iload 4, 2) := by decide +kernel
theorem dX5_ofDoubt_37 : decode cX5_ofDoubt 37 = .ok (.invokevirtual 53, 3) := by decide +kernel
theorem dX5_ofDoubt_40 : decode cX5_ofDoubt 40 = .ok (.istore 5, 2) := by decide +kernel
theorem dX5_ofDoubt_42 : decode cX5_ofDoubt 42 = .ok (.aload_n 0, 1) := by decide +kernel
theorem dX5_ofDoubt_43 : decode cX5_ofDoubt 43 = .ok (.getfield 25, 3) := by decide +kernel
theorem dX5_ofDoubt_46 : decode cX5_ofDoubt 46 = .ok (.iload 4, 2) := by decide +kernel
theorem dX5_ofDoubt_48 : decode cX5_ofDoubt 48 = .ok (.invokevirtual 50, 3) := by decide +kernel
theorem dX5_ofDoubt_51 : decode cX5_ofDoubt 51 = .ok (.aload_n 0, 1) := by decide +kernel
theorem dX5_ofDoubt_52 : decode cX5_ofDoubt 52 = .ok (.getfield 35, 3) := by decide +kernel
theorem dX5_ofDoubt_55 : decode cX5_ofDoubt 55 = .ok (.iload 5, 2) := by decide +kernel
theorem dX5_ofDoubt_57 : decode cX5_ofDoubt 57 = .ok (.invokevirtual 109, 3) := by decide +kernel
theorem dX5_ofDoubt_60 : decode cX5_ofDoubt 60 = .ok (.isub, 1) := by decide +kernel
theorem dX5_ofDoubt_61 : decode cX5_ofDoubt 61 = .ok (.invokestatic 162, 3) := by decide +kernel
theorem dX5_ofDoubt_64 : decode cX5_ofDoubt 64 = .ok (.istore 6, 2) := by decide +kernel
theorem dX5_ofDoubt_66 : decode cX5_ofDoubt 66 = .ok (.iload 5, 2) := by decide +kernel
theorem dX5_ofDoubt_68 : decode cX5_ofDoubt 68 = .ok (.iconst (-1), 1) := by decide +kernel
theorem dX5_ofDoubt_69 : decode cX5_ofDoubt 69 = .ok (.if_icmp .eq 15, 3) := by decide +kernel
theorem dX5_ofDoubt_72 : decode cX5_ofDoubt 72 = .ok (.iload 6, 2) := by decide +kernel
theorem dX5_ofDoubt_74 : decode cX5_ofDoubt 74 = .ok (.iload_n 3, 1) := by decide +kernel
theorem dX5_ofDoubt_75 : decode cX5_ofDoubt 75 = .ok (.if_icmp .le 9, 3) := by decide +kernel
theorem dX5_ofDoubt_78 : decode cX5_ofDoubt 78 = .ok (.iload 4, 2) := by decide +kernel
theorem dX5_ofDoubt_80 : decode cX5_ofDoubt 80 = .ok (.istore_n 2, 1) := by decide +kernel
theorem dX5_ofDoubt_81 : decode cX5_ofDoubt 81 = .ok (.iload 6, 2) := by decide +kernel
theorem dX5_ofDoubt_83 : decode cX5_ofDoubt 83 = .ok (.istore_n 3, 1) := by decide +kernel
theorem dX5_ofDoubt_84 : decode cX5_ofDoubt 84 = .ok (.iinc 4 1, 3) := by decide +kernel
theorem dX5_ofDoubt_87 : decode cX5_ofDoubt 87 = .ok (.goto (-68), 3) := by decide +kernel
theorem dX5_ofDoubt_90 : decode cX5_ofDoubt 90 = .ok (.iload_n 1, 1) := by decide +kernel
theorem dX5_ofDoubt_91 : decode cX5_ofDoubt 91 = .ok (.ifCond .ne 7, 3) := by decide +kernel
theorem dX5_ofDoubt_94 : decode cX5_ofDoubt 94 = .ok (.iload_n 2, 1) := by decide +kernel
theorem dX5_ofDoubt_95 : decode cX5_ofDoubt 95 = .ok (.goto 4, 3) := by decide +kernel
theorem dX5_ofDoubt_98 : decode cX5_ofDoubt 98 = .ok (.iload_n 3, 1) := by decide +kernel
theorem dX5_ofDoubt_99 : decode cX5_ofDoubt 99 = .ok (.invokestatic 56, 3) := by decide +kernel
theorem dX5_ofDoubt_102 : decode cX5_ofDoubt 102 = .ok (.ireturn, 1) := by decide +kernel
theorem dX5_ofAll_0 : decode cX5_ofAll 0 = .ok (.iload_n 1, 1) := by decide +kernel
theorem dX5_ofAll_1 : decode cX5_ofAll 1 = .ok (.tableswitch 183 0 20 #[99, 107, 118, 126, 134, 143, 151, 159, 183, 183, 167, 183, 183, 183, 183, 183, 183, 183, 183, 183, 175], 99) := by decide +kernel
theorem dX5_ofAll_100 : decode cX5_ofAll 100 = .ok (.aload_n 0, 1) := by decide +kernel
theorem dX5_ofAll_101 : decode cX5_ofAll 101 = .ok (.getfield 25, 3) := by decide +kernel
theorem dX5_ofAll_104 : decode cX5_ofAll 104 = .ok (.invokevirtual 158, 3) := by decide +kernel
theorem dX5_ofAll_107 : decode cX5_ofAll 107 = .ok (.ireturn, 1) := by decide +kernel
theorem dX5_ofAll_108 : decode cX5_ofAll 108 = .ok (.aload_n 0, 1) := by decide +kernel
theorem dX5_ofAll_109 : decode cX5_ofAll 109 = .ok (.getfield 35, 3) := by decide +kernel
theorem dX5_ofAll_112 : decode cX5_ofAll 112 = .ok (.invokevirtual 167, 3) := by decide +kernel
theorem dX5_ofAll_115 : decode cX5_ofAll 115 = .ok (.invokestatic 170, 3) := by decide +kernel
theorem dX5_ofAll_118 : decode cX5_ofAll 118 = .ok (.ireturn, 1) := by decide +kernel
theorem dX5_ofAll_119 : decode cX5_ofAll 119 = .ok (.aload_n 0, 1) := by decide +kernel
theorem dX5_ofAll_120 : decode cX5_ofAll 120 = .ok (.getfield 25, 3) := by decide +kernel
theorem dX5_ofAll_123 : decode cX5_ofAll 123 = .ok (.invokevirtual 175, 3) := by decide +kernel
theorem dX5_ofAll_126 : decode cX5_ofAll 126 = .ok (.ireturn, 1) := by decide +kernel
theorem dX5_ofAll_127 : decode cX5_ofAll 127 = .ok (.aload_n 0, 1) := by decide +kernel
theorem dX5_ofAll_128 : decode cX5_ofAll 128 = .ok (.getfield 30, 3) := by decide +kernel
theorem dX5_ofAll_131 : decode cX5_ofAll 131 = .ok (.invokevirtual 178, 3) := by decide +kernel
theorem dX5_ofAll_134 : decode cX5_ofAll 134 = .ok (.ireturn, 1) := by decide +kernel
theorem dX5_ofAll_135 : decode cX5_ofAll 135 = .ok (.aload_n 0, 1) := by decide +kernel
theorem dX5_ofAll_136 : decode cX5_ofAll 136 = .ok (.getfield 25, 3) := by decide +kernel
theorem dX5_ofAll_139 : decode cX5_ofAll 139 = .ok (.iconst (-1), 1) := by decide +kernel
theorem dX5_ofAll_140 : decode cX5_ofAll 140 = .ok (.invokevirtual 110, 3) := by decide +kernel
theorem dX5_ofAll_143 : decode cX5_ofAll 143 = .ok (.ireturn, 1) := by decide +kernel
theorem dX5_ofAll_144 : decode cX5_ofAll 144 = .ok (.aload_n 0, 1) := by decide +kernel
theorem dX5_ofAll_145 : decode cX5_ofAll 145 = .ok (.getfield 25, 3) := by decide +kernel
theorem dX5_ofAll_148 : decode cX5_ofAll 148 = .ok (.invokevirtual 179, 3) := by decide +kernel
theorem dX5_ofAll_151 : decode cX5_ofAll 151 = .ok (.ireturn, 1) := by decide +kernel
theorem dX5_ofAll_152 : decode cX5_ofAll 152 = .ok (.aload_n 0, 1) := by decide +kernel
theorem dX5_ofAll_153 : decode cX5_ofAll 153 = .ok (.getfield 25, 3) := by decide +kernel
theorem dX5_ofAll_156 : decode cX5_ofAll 156 = .ok (.invokevirtual 182, 3) := by decide +kernel
theorem dX5_ofAll_159 : decode cX5_ofAll 159 = .ok (.ireturn, 1) := by decide +kernel
theorem dX5_ofAll_160 : decode cX5_ofAll 160 = .ok (.aload_n 0, 1) := by decide +kernel
theorem dX5_ofAll_161 : decode cX5_ofAll 161 = .ok (.getfield 25, 3) := by decide +kernel
theorem dX5_ofAll_164 : decode cX5_ofAll 164 = .ok (.invokevirtual 185, 3) := by decide +kernel
theorem dX5_ofAll_167 : decode cX5_ofAll 167 = .ok (.ireturn, 1) := by decide +kernel
theorem dX5_ofAll_168 : decode cX5_ofAll 168 = .ok (.aload_n 0, 1) := by decide +kernel
theorem dX5_ofAll_169 : decode cX5_ofAll 169 = .ok (.getfield 35, 3) := by decide +kernel
theorem dX5_ofAll_172 : decode cX5_ofAll 172 = .ok (.invokevirtual 167, 3) := by decide +kernel
theorem dX5_ofAll_175 : decode cX5_ofAll 175 = .ok (.ireturn, 1) := by decide +kernel
theorem dX5_ofAll_176 : decode cX5_ofAll 176 = .ok (.aload_n 0, 1) := by decide +kernel
theorem dX5_ofAll_177 : decode cX5_ofAll 177 = .ok (.getfield 15, 3) := by decide +kernel
theorem dX5_ofAll_180 : decode cX5_ofAll 180 = .ok (.invokevirtual 188, 3) := by decide +kernel
theorem dX5_ofAll_183 : decode cX5_ofAll 183 = .ok (.ireturn, 1) := by decide +kernel
theorem dX5_ofAll_184 : decode cX5_ofAll 184 = .ok (.ldc 42, 2) := by decide +kernel
theorem dX5_ofAll_186 : decode cX5_ofAll 186 = .ok (.ireturn, 1) := by decide +kernel
theorem dX5_orNotFound_0 : decode cX5_orNotFound 0 = .ok (.iload_n 0, 1) := by decide +kernel
theorem dX5_orNotFound_1 : decode cX5_orNotFound 1 = .ok (.iconst (-1), 1) := by decide +kernel
theorem dX5_orNotFound_2 : decode cX5_orNotFound 2 = .ok (.if_icmp .ne 8, 3) := by decide +kernel
theorem dX5_orNotFound_5 : decode cX5_orNotFound 5 = .ok (.ldc 75, 2) := by decide +kernel
theorem dX5_orNotFound_7 : decode cX5_orNotFound 7 = .ok (.goto 4, 3) := by decide +kernel
theorem dX5_orNotFound_10 : decode cX5_orNotFound 10 = .ok (.iload_n 0, 1) := by decide +kernel
theorem dX5_orNotFound_11 : decode cX5_orNotFound 11 = .ok (.ireturn, 1) := by decide +kernel
theorem dX5_shownIn_0 : decode cX5_shownIn 0 = .ok (.iconst 0, 1) := by decide +kernel
theorem dX5_shownIn_1 : decode cX5_shownIn 1 = .ok (.istore_n 2, 1) := by decide +kernel
theorem dX5_shownIn_2 : decode cX5_shownIn 2 = .ok (.iconst 0, 1) := by decide +kernel
theorem dX5_shownIn_3 : decode cX5_shownIn 3 = .ok (.istore_n 3, 1) := by decide +kernel
theorem dX5_shownIn_4 : decode cX5_shownIn 4 = .ok (.iload_n 3, 1) := by decide +kernel
theorem dX5_shownIn_5 : decode cX5_shownIn 5 = .ok (.aload_n 0, 1) := by decide +kernel
theorem dX5_shownIn_6 : decode cX5_shownIn 6 = .ok (.getfield 25, 3) := by decide +kernel
theorem dX5_shownIn_9 : decode cX5_shownIn 9 = .ok (.iload_n 1, 1) := by decide +kernel
theorem dX5_shownIn_10 : decode cX5_shownIn 10 = .ok (.invokevirtual 59, 3) := by decide +kernel
theorem dX5_shownIn_13 : decode cX5_shownIn 13 = .ok (.if_icmp .ge 30, 3) := by decide +kernel
theorem dX5_shownIn_16 : decode cX5_shownIn 16 = .ok (.iload_n 2, 1) := by decide +kernel
theorem dX5_shownIn_17 : decode cX5_shownIn 17 = .ok (.iconst 1, 1) := by decide +kernel
theorem dX5_shownIn_18 : decode cX5_shownIn 18 = .ok (.aload_n 0, 1) := by decide +kernel
theorem dX5_shownIn_19 : decode cX5_shownIn 19 = .ok (.getfield 30, 3) := by decide +kernel
theorem dX5_shownIn_22 : decode cX5_shownIn 22 = .ok (.aload_n 0, 1) := by decide +kernel
theorem dX5_shownIn_23 : decode cX5_shownIn 23 = .ok (.getfield 25, 3) := by decide +kernel
theorem dX5_shownIn_26 : decode cX5_shownIn 26 = .ok (.iload_n 1, 1) := by decide +kernel
theorem dX5_shownIn_27 : decode cX5_shownIn 27 = .ok (.iload_n 3, 1) := by decide +kernel
theorem dX5_shownIn_28 : decode cX5_shownIn 28 = .ok (.invokevirtual 76, 3) := by decide +kernel
theorem dX5_shownIn_31 : decode cX5_shownIn 31 = .ok (.invokevirtual 80, 3) := by decide +kernel
theorem dX5_shownIn_34 : decode cX5_shownIn 34 = .ok (.ishl, 1) := by decide +kernel
theorem dX5_shownIn_35 : decode cX5_shownIn 35 = .ok (.ior, 1) := by decide +kernel
theorem dX5_shownIn_36 : decode cX5_shownIn 36 = .ok (.istore_n 2, 1) := by decide +kernel
theorem dX5_shownIn_37 : decode cX5_shownIn 37 = .ok (.iinc 3 1, 3) := by decide +kernel
theorem dX5_shownIn_40 : decode cX5_shownIn 40 = .ok (.goto (-36), 3) := by decide +kernel
theorem dX5_shownIn_43 : decode cX5_shownIn 43 = .ok (.iload_n 2, 1) := by decide +kernel
theorem dX5_shownIn_44 : decode cX5_shownIn 44 = .ok (.ireturn, 1) := by decide +kernel
theorem dX5_isShownIn_0 : decode cX5_isShownIn 0 = .ok (.aload_n 0, 1) := by decide +kernel
theorem dX5_isShownIn_1 : decode cX5_isShownIn 1 = .ok (.iload_n 1, 1) := by decide +kernel
theorem dX5_isShownIn_2 : decode cX5_isShownIn 2 = .ok (.invokevirtual 191, 3) := by decide +kernel
theorem dX5_isShownIn_5 : decode cX5_isShownIn 5 = .ok (.iload_n 2, 1) := by decide +kernel
theorem dX5_isShownIn_6 : decode cX5_isShownIn 6 = .ok (.ishr, 1) := by decide +kernel
theorem dX5_isShownIn_7 : decode cX5_isShownIn 7 = .ok (.iconst 1, 1) := by decide +kernel
theorem dX5_isShownIn_8 : decode cX5_isShownIn 8 = .ok (.iand, 1) := by decide +kernel
theorem dX5_isShownIn_9 : decode cX5_isShownIn 9 = .ok (.iconst 1, 1) := by decide +kernel
theorem dX5_isShownIn_10 : decode cX5_isShownIn 10 = .ok (.if_icmp .ne 7, 3) := by decide +kernel
theorem dX5_isShownIn_13 : decode cX5_isShownIn 13 = .ok (.iconst 1, 1) := by decide +kernel
theorem dX5_isShownIn_14 : decode cX5_isShownIn 14 = .ok (.goto 4, 3) := by decide +kernel
theorem dX5_isShownIn_17 : decode cX5_isShownIn 17 = .ok (.iconst 0, 1) := by decide +kernel
theorem dX5_isShownIn_18 : decode cX5_isShownIn 18 = .ok (.ireturn, 1) := by decide +kernel
theorem dX5_placesShowing_0 : decode cX5_placesShowing 0 = .ok (.iconst 0, 1) := by decide +kernel
theorem dX5_placesShowing_1 : decode cX5_placesShowing 1 = .ok (.istore_n 2, 1) := by decide +kernel
theorem dX5_placesShowing_2 : decode cX5_placesShowing 2 = .ok (.iconst 0, 1) := by decide +kernel
theorem dX5_placesShowing_3 : decode cX5_placesShowing 3 = .ok (.istore_n 3, 1) := by decide +kernel
theorem dX5_placesShowing_4 : decode cX5_placesShowing 4 = .ok (.iload_n 3, 1) := by decide +kernel
theorem dX5_placesShowing_5 : decode cX5_placesShowing 5 = .ok (.bipush 16, 2) := by decide +kernel
theorem dX5_placesShowing_7 : decode cX5_placesShowing 7 = .ok (.if_icmp .ge 32, 3) := by decide +kernel
theorem dX5_placesShowing_10 : decode cX5_placesShowing 10 = .ok (.aload_n 0, 1) := by decide +kernel
theorem dX5_placesShowing_11 : decode cX5_placesShowing 11 = .ok (.getfield 30, 3) := by decide +kernel
theorem dX5_placesShowing_14 : decode cX5_placesShowing 14 = .ok (.iload_n 3, 1) := by decide +kernel
theorem dX5_placesShowing_15 : decode cX5_placesShowing 15 = .ok (.invokevirtual 80, 3) := by decide +kernel
theorem dX5_placesShowing_18 : decode cX5_placesShowing 18 = .ok (.iload_n 1, 1) := by decide +kernel
theorem dX5_placesShowing_19 : decode cX5_placesShowing 19 = .ok (.if_icmp .ne 14, 3) := by decide +kernel
theorem dX5_placesShowing_22 : decode cX5_placesShowing 22 = .ok (.iload_n 2, 1) := by decide +kernel
theorem dX5_placesShowing_23 : decode cX5_placesShowing 23 = .ok (.aload_n 0, 1) := by decide +kernel
theorem dX5_placesShowing_24 : decode cX5_placesShowing 24 = .ok (.getfield 25, 3) := by decide +kernel
theorem dX5_placesShowing_27 : decode cX5_placesShowing 27 = .ok (.iload_n 3, 1) := by decide +kernel
theorem dX5_placesShowing_28 : decode cX5_placesShowing 28 = .ok (.invokevirtual 194, 3) := by decide +kernel
theorem dX5_placesShowing_31 : decode cX5_placesShowing 31 = .ok (.iadd, 1) := by decide +kernel
theorem dX5_placesShowing_32 : decode cX5_placesShowing 32 = .ok (.istore_n 2, 1) := by decide +kernel
theorem dX5_placesShowing_33 : decode cX5_placesShowing 33 = .ok (.iinc 3 1, 3) := by decide +kernel
theorem dX5_placesShowing_36 : decode cX5_placesShowing 36 = .ok (.goto (-32), 3) := by decide +kernel
theorem dX5_placesShowing_39 : decode cX5_placesShowing 39 = .ok (.iload_n 2, 1) := by decide +kernel
theorem dX5_placesShowing_40 : decode cX5_placesShowing 40 = .ok (.ireturn, 1) := by decide +kernel
theorem dX5_turnsShowing_0 : decode cX5_turnsShowing 0 = .ok (.iconst 0, 1) := by decide +kernel
theorem dX5_turnsShowing_1 : decode cX5_turnsShowing 1 = .ok (.istore_n 2, 1) := by decide +kernel
theorem dX5_turnsShowing_2 : decode cX5_turnsShowing 2 = .ok (.iconst 0, 1) := by decide +kernel
theorem dX5_turnsShowing_3 : decode cX5_turnsShowing 3 = .ok (.istore_n 3, 1) := by decide +kernel
theorem dX5_turnsShowing_4 : decode cX5_turnsShowing 4 = .ok (.iload_n 3, 1) := by decide +kernel
theorem dX5_turnsShowing_5 : decode cX5_turnsShowing 5 = .ok (.aload_n 0, 1) := by decide +kernel
theorem dX5_turnsShowing_6 : decode cX5_turnsShowing 6 = .ok (.getfield 25, 3) := by decide +kernel
theorem dX5_turnsShowing_9 : decode cX5_turnsShowing 9 = .ok (.invokevirtual 158, 3) := by decide +kernel
theorem dX5_turnsShowing_12 : decode cX5_turnsShowing 12 = .ok (.if_icmp .ge 24, 3) := by decide +kernel
theorem dX5_turnsShowing_15 : decode cX5_turnsShowing 15 = .ok (.aload_n 0, 1) := by decide +kernel
theorem dX5_turnsShowing_16 : decode cX5_turnsShowing 16 = .ok (.iload_n 3, 1) := by decide +kernel
theorem dX5_turnsShowing_17 : decode cX5_turnsShowing 17 = .ok (.iload_n 1, 1) := by decide +kernel
theorem dX5_turnsShowing_18 : decode cX5_turnsShowing 18 = .ok (.invokevirtual 197, 3) := by decide +kernel
theorem dX5_turnsShowing_21 : decode cX5_turnsShowing 21 = .ok (.ifCond .eq 9, 3) := by decide +kernel
theorem dX5_turnsShowing_24 : decode cX5_turnsShowing 24 = .ok (.iload_n 2, 1) := by decide +kernel
theorem dX5_turnsShowing_25 : decode cX5_turnsShowing 25 = .ok (.iconst 1, 1) := by decide +kernel
theorem dX5_turnsShowing_26 : decode cX5_turnsShowing 26 = .ok (.iload_n 3, 1) := by decide +kernel
theorem dX5_turnsShowing_27 : decode cX5_turnsShowing 27 = .ok (.ishl, 1) := by decide +kernel
theorem dX5_turnsShowing_28 : decode cX5_turnsShowing 28 = .ok (.ior, 1) := by decide +kernel
theorem dX5_turnsShowing_29 : decode cX5_turnsShowing 29 = .ok (.istore_n 2, 1) := by decide +kernel
theorem dX5_turnsShowing_30 : decode cX5_turnsShowing 30 = .ok (.iinc 3 1, 3) := by decide +kernel
theorem dX5_turnsShowing_33 : decode cX5_turnsShowing 33 = .ok (.goto (-29), 3) := by decide +kernel
theorem dX5_turnsShowing_36 : decode cX5_turnsShowing 36 = .ok (.iload_n 2, 1) := by decide +kernel
theorem dX5_turnsShowing_37 : decode cX5_turnsShowing 37 = .ok (.ireturn, 1) := by decide +kernel
theorem dX5_speakersShowing_0 : decode cX5_speakersShowing 0 = .ok (.iconst 0, 1) := by decide +kernel
theorem dX5_speakersShowing_1 : decode cX5_speakersShowing 1 = .ok (.istore_n 2, 1) := by decide +kernel
theorem dX5_speakersShowing_2 : decode cX5_speakersShowing 2 = .ok (.iconst 0, 1) := by decide +kernel
theorem dX5_speakersShowing_3 : decode cX5_speakersShowing 3 = .ok (.istore_n 3, 1) := by decide +kernel
theorem dX5_speakersShowing_4 : decode cX5_speakersShowing 4 = .ok (.iload_n 3, 1) := by decide +kernel
theorem dX5_speakersShowing_5 : decode cX5_speakersShowing 5 = .ok (.aload_n 0, 1) := by decide +kernel
theorem dX5_speakersShowing_6 : decode cX5_speakersShowing 6 = .ok (.getfield 25, 3) := by decide +kernel
theorem dX5_speakersShowing_9 : decode cX5_speakersShowing 9 = .ok (.invokevirtual 158, 3) := by decide +kernel
theorem dX5_speakersShowing_12 : decode cX5_speakersShowing 12 = .ok (.if_icmp .ge 43, 3) := by decide +kernel
theorem dX5_speakersShowing_15 : decode cX5_speakersShowing 15 = .ok (.aload_n 0, 1) := by decide +kernel
theorem dX5_speakersShowing_16 : decode cX5_speakersShowing 16 = .ok (.getfield 25, 3) := by decide +kernel
theorem dX5_speakersShowing_19 : decode cX5_speakersShowing 19 = .ok (.iload_n 3, 1) := by decide +kernel
theorem dX5_speakersShowing_20 : decode cX5_speakersShowing 20 = .ok (.invokevirtual 53, 3) := by decide +kernel
theorem dX5_speakersShowing_23 : decode cX5_speakersShowing 23 = .ok (.iconst (-1), 1) := by decide +kernel
theorem dX5_speakersShowing_24 : decode cX5_speakersShowing 24 = .ok (.if_icmp .eq 25, 3) := by decide +kernel
theorem dX5_speakersShowing_27 : decode cX5_speakersShowing 27 = .ok (.aload_n 0, 1) := by decide +kernel
theorem dX5_speakersShowing_28 : decode cX5_speakersShowing 28 = .ok (.iload_n 3, 1) := by decide +kernel
theorem dX5_speakersShowing_29 : decode cX5_speakersShowing 29 = .ok (.iload_n 1, 1) := by decide +kernel
theorem dX5_speakersShowing_30 : decode cX5_speakersShowing 30 = .ok (.invokevirtual 197, 3) := by decide +kernel
theorem dX5_speakersShowing_33 : decode cX5_speakersShowing 33 = .ok (.ifCond .eq 16, 3) := by decide +kernel
theorem dX5_speakersShowing_36 : decode cX5_speakersShowing 36 = .ok (.iload_n 2, 1) := by decide +kernel
theorem dX5_speakersShowing_37 : decode cX5_speakersShowing 37 = .ok (.iconst 1, 1) := by decide +kernel
theorem dX5_speakersShowing_38 : decode cX5_speakersShowing 38 = .ok (.aload_n 0, 1) := by decide +kernel
theorem dX5_speakersShowing_39 : decode cX5_speakersShowing 39 = .ok (.getfield 25, 3) := by decide +kernel
theorem dX5_speakersShowing_42 : decode cX5_speakersShowing 42 = .ok (.iload_n 3, 1) := by decide +kernel
theorem dX5_speakersShowing_43 : decode cX5_speakersShowing 43 = .ok (.invokevirtual 53, 3) := by decide +kernel
theorem dX5_speakersShowing_46 : decode cX5_speakersShowing 46 = .ok (.ishl, 1) := by decide +kernel
theorem dX5_speakersShowing_47 : decode cX5_speakersShowing 47 = .ok (.ior, 1) := by decide +kernel
theorem dX5_speakersShowing_48 : decode cX5_speakersShowing 48 = .ok (.istore_n 2, 1) := by decide +kernel
theorem dX5_speakersShowing_49 : decode cX5_speakersShowing 49 = .ok (.iinc 3 1, 3) := by decide +kernel
theorem dX5_speakersShowing_52 : decode cX5_speakersShowing 52 = .ok (.goto (-48), 3) := by decide +kernel
theorem dX5_speakersShowing_55 : decode cX5_speakersShowing 55 = .ok (.iload_n 2, 1) := by decide +kernel
theorem dX5_speakersShowing_56 : decode cX5_speakersShowing 56 = .ok (.ireturn, 1) := by decide +kernel
theorem dX5_termsShownBy_0 : decode cX5_termsShownBy 0 = .ok (.iconst 0, 1) := by decide +kernel
theorem dX5_termsShownBy_1 : decode cX5_termsShownBy 1 = .ok (.istore_n 2, 1) := by decide +kernel
theorem dX5_termsShownBy_2 : decode cX5_termsShownBy 2 = .ok (.iconst 0, 1) := by decide +kernel
theorem dX5_termsShownBy_3 : decode cX5_termsShownBy 3 = .ok (.istore_n 3, 1) := by decide +kernel
theorem dX5_termsShownBy_4 : decode cX5_termsShownBy 4 = .ok (.iload_n 3, 1) := by decide +kernel
theorem dX5_termsShownBy_5 : decode cX5_termsShownBy 5 = .ok (.aload_n 0, 1) := by decide +kernel
theorem dX5_termsShownBy_6 : decode cX5_termsShownBy 6 = .ok (.getfield 25, 3) := by decide +kernel
theorem dX5_termsShownBy_9 : decode cX5_termsShownBy 9 = .ok (.invokevirtual 158, 3) := by decide +kernel
theorem dX5_termsShownBy_12 : decode cX5_termsShownBy 12 = .ok (.if_icmp .ge 29, 3) := by decide +kernel
theorem dX5_termsShownBy_15 : decode cX5_termsShownBy 15 = .ok (.aload_n 0, 1) := by decide +kernel
theorem dX5_termsShownBy_16 : decode cX5_termsShownBy 16 = .ok (.getfield 25, 3) := by decide +kernel
theorem dX5_termsShownBy_19 : decode cX5_termsShownBy 19 = .ok (.iload_n 3, 1) := by decide +kernel
theorem dX5_termsShownBy_20 : decode cX5_termsShownBy 20 = .ok (.invokevirtual 53, 3) := by decide +kernel
theorem dX5_termsShownBy_23 : decode cX5_termsShownBy 23 = .ok (.iload_n 1, 1) := by decide +kernel
theorem dX5_termsShownBy_24 : decode cX5_termsShownBy 24 = .ok (.if_icmp .ne 11, 3) := by decide +kernel
theorem dX5_termsShownBy_27 : decode cX5_termsShownBy 27 = .ok (.iload_n 2, 1) := by decide +kernel
theorem dX5_termsShownBy_28 : decode cX5_termsShownBy 28 = .ok (.aload_n 0, 1) := by decide +kernel
theorem dX5_termsShownBy_29 : decode cX5_termsShownBy 29 = .ok (.iload_n 3, 1) := by decide +kernel
theorem dX5_termsShownBy_30 : decode cX5_termsShownBy 30 = .ok (.invokevirtual 191, 3) := by decide +kernel
theorem dX5_termsShownBy_33 : decode cX5_termsShownBy 33 = .ok (.ior, 1) := by decide +kernel
theorem dX5_termsShownBy_34 : decode cX5_termsShownBy 34 = .ok (.istore_n 2, 1) := by decide +kernel
theorem dX5_termsShownBy_35 : decode cX5_termsShownBy 35 = .ok (.iinc 3 1, 3) := by decide +kernel
theorem dX5_termsShownBy_38 : decode cX5_termsShownBy 38 = .ok (.goto (-34), 3) := by decide +kernel
theorem dX5_termsShownBy_41 : decode cX5_termsShownBy 41 = .ok (.iload_n 2, 1) := by decide +kernel
theorem dX5_termsShownBy_42 : decode cX5_termsShownBy 42 = .ok (.ireturn, 1) := by decide +kernel
theorem dX5_interruptionsBy_0 : decode cX5_interruptionsBy 0 = .ok (.iconst 0, 1) := by decide +kernel
theorem dX5_interruptionsBy_1 : decode cX5_interruptionsBy 1 = .ok (.istore_n 2, 1) := by decide +kernel
theorem dX5_interruptionsBy_2 : decode cX5_interruptionsBy 2 = .ok (.iconst 0, 1) := by decide +kernel
theorem dX5_interruptionsBy_3 : decode cX5_interruptionsBy 3 = .ok (.istore_n 3, 1) := by decide +kernel
theorem dX5_interruptionsBy_4 : decode cX5_interruptionsBy 4 = .ok (.iload_n 3, 1) := by decide +kernel
theorem dX5_interruptionsBy_5 : decode cX5_interruptionsBy 5 = .ok (.bipush 6, 2) := by decide +kernel
theorem dX5_interruptionsBy_7 : decode cX5_interruptionsBy 7 = .ok (.if_icmp .ge 21, 3) := by decide +kernel
theorem dX5_interruptionsBy_10 : decode cX5_interruptionsBy 10 = .ok (.iload_n 2, 1) := by decide +kernel
theorem dX5_interruptionsBy_11 : decode cX5_interruptionsBy 11 = .ok (.aload_n 0, 1) := by decide +kernel
theorem dX5_interruptionsBy_12 : decode cX5_interruptionsBy 12 = .ok (.getfield 25, 3) := by decide +kernel
theorem dX5_interruptionsBy_15 : decode cX5_interruptionsBy 15 = .ok (.iload_n 1, 1) := by decide +kernel
theorem dX5_interruptionsBy_16 : decode cX5_interruptionsBy 16 = .ok (.iload_n 3, 1) := by decide +kernel
theorem dX5_interruptionsBy_17 : decode cX5_interruptionsBy 17 = .ok (.invokevirtual 134, 3) := by decide +kernel
theorem dX5_interruptionsBy_20 : decode cX5_interruptionsBy 20 = .ok (.iadd, 1) := by decide +kernel
theorem dX5_interruptionsBy_21 : decode cX5_interruptionsBy 21 = .ok (.istore_n 2, 1) := by decide +kernel
theorem dX5_interruptionsBy_22 : decode cX5_interruptionsBy 22 = .ok (.iinc 3 1, 3) := by decide +kernel
theorem dX5_interruptionsBy_25 : decode cX5_interruptionsBy 25 = .ok (.goto (-21), 3) := by decide +kernel
theorem dX5_interruptionsBy_28 : decode cX5_interruptionsBy 28 = .ok (.iload_n 2, 1) := by decide +kernel
theorem dX5_interruptionsBy_29 : decode cX5_interruptionsBy 29 = .ok (.ireturn, 1) := by decide +kernel
theorem dX5_interruptionsOf_0 : decode cX5_interruptionsOf 0 = .ok (.iconst 0, 1) := by decide +kernel
theorem dX5_interruptionsOf_1 : decode cX5_interruptionsOf 1 = .ok (.istore_n 2, 1) := by decide +kernel
theorem dX5_interruptionsOf_2 : decode cX5_interruptionsOf 2 = .ok (.iconst 0, 1) := by decide +kernel
theorem dX5_interruptionsOf_3 : decode cX5_interruptionsOf 3 = .ok (.istore_n 3, 1) := by decide +kernel
theorem dX5_interruptionsOf_4 : decode cX5_interruptionsOf 4 = .ok (.iload_n 3, 1) := by decide +kernel
theorem dX5_interruptionsOf_5 : decode cX5_interruptionsOf 5 = .ok (.bipush 6, 2) := by decide +kernel
theorem dX5_interruptionsOf_7 : decode cX5_interruptionsOf 7 = .ok (.if_icmp .ge 21, 3) := by decide +kernel
theorem dX5_interruptionsOf_10 : decode cX5_interruptionsOf 10 = .ok (.iload_n 2, 1) := by decide +kernel
theorem dX5_interruptionsOf_11 : decode cX5_interruptionsOf 11 = .ok (.aload_n 0, 1) := by decide +kernel
theorem dX5_interruptionsOf_12 : decode cX5_interruptionsOf 12 = .ok (.getfield 25, 3) := by decide +kernel
theorem dX5_interruptionsOf_15 : decode cX5_interruptionsOf 15 = .ok (.iload_n 3, 1) := by decide +kernel
theorem dX5_interruptionsOf_16 : decode cX5_interruptionsOf 16 = .ok (.iload_n 1, 1) := by decide +kernel
theorem dX5_interruptionsOf_17 : decode cX5_interruptionsOf 17 = .ok (.invokevirtual 134, 3) := by decide +kernel
theorem dX5_interruptionsOf_20 : decode cX5_interruptionsOf 20 = .ok (.iadd, 1) := by decide +kernel
theorem dX5_interruptionsOf_21 : decode cX5_interruptionsOf 21 = .ok (.istore_n 2, 1) := by decide +kernel
theorem dX5_interruptionsOf_22 : decode cX5_interruptionsOf 22 = .ok (.iinc 3 1, 3) := by decide +kernel
theorem dX5_interruptionsOf_25 : decode cX5_interruptionsOf 25 = .ok (.goto (-21), 3) := by decide +kernel
theorem dX5_interruptionsOf_28 : decode cX5_interruptionsOf 28 = .ok (.iload_n 2, 1) := by decide +kernel
theorem dX5_interruptionsOf_29 : decode cX5_interruptionsOf 29 = .ok (.ireturn, 1) := by decide +kernel
theorem dX5_bitsOfTermsByMinute_0 : decode cX5_bitsOfTermsByMinute 0 = .ok (.aload_n 0, 1) := by decide +kernel
theorem dX5_bitsOfTermsByMinute_1 : decode cX5_bitsOfTermsByMinute 1 = .ok (.getfield 25, 3) := by decide +kernel
theorem dX5_bitsOfTermsByMinute_4 : decode cX5_bitsOfTermsByMinute 4 = .ok (.iload_n 1, 1) := by decide +kernel
theorem dX5_bitsOfTermsByMinute_5 : decode cX5_bitsOfTermsByMinute 5 = .ok (.invokevirtual 113, 3) := by decide +kernel
theorem dX5_bitsOfTermsByMinute_8 : decode cX5_bitsOfTermsByMinute 8 = .ok (.istore_n 2, 1) := by decide +kernel
theorem dX5_bitsOfTermsByMinute_9 : decode cX5_bitsOfTermsByMinute 9 = .ok (.iload_n 2, 1) := by decide +kernel
theorem dX5_bitsOfTermsByMinute_10 : decode cX5_bitsOfTermsByMinute 10 = .ok (.ifCond .gt 6, 3) := by decide +kernel
theorem dX5_bitsOfTermsByMinute_13 : decode cX5_bitsOfTermsByMinute 13 = .ok (.ldc 75, 2) := by decide +kernel
theorem dX5_bitsOfTermsByMinute_15 : decode cX5_bitsOfTermsByMinute 15 = .ok (.ireturn, 1) := by decide +kernel
theorem dX5_bitsOfTermsByMinute_16 : decode cX5_bitsOfTermsByMinute 16 = .ok (.aload_n 0, 1) := by decide +kernel
theorem dX5_bitsOfTermsByMinute_17 : decode cX5_bitsOfTermsByMinute 17 = .ok (.getfield 25, 3) := by decide +kernel
theorem dX5_bitsOfTermsByMinute_20 : decode cX5_bitsOfTermsByMinute 20 = .ok (.iload_n 1, 1) := by decide +kernel
theorem dX5_bitsOfTermsByMinute_21 : decode cX5_bitsOfTermsByMinute 21 = .ok (.invokevirtual 201, 3) := by decide +kernel
theorem dX5_bitsOfTermsByMinute_24 : decode cX5_bitsOfTermsByMinute 24 = .ok (.i2f, 1) := by decide +kernel
theorem dX5_bitsOfTermsByMinute_25 : decode cX5_bitsOfTermsByMinute 25 = .ok (.ldc 204, 2) := by decide +kernel
theorem dX5_bitsOfTermsByMinute_27 : decode cX5_bitsOfTermsByMinute 27 = .ok (.fmul, 1) := by decide +kernel
theorem dX5_bitsOfTermsByMinute_28 : decode cX5_bitsOfTermsByMinute 28 = .ok (.iload_n 2, 1) := by decide +kernel
theorem dX5_bitsOfTermsByMinute_29 : decode cX5_bitsOfTermsByMinute 29 = .ok (.i2f, 1) := by decide +kernel
theorem dX5_bitsOfTermsByMinute_30 : decode cX5_bitsOfTermsByMinute 30 = .ok (.fdiv, 1) := by decide +kernel
theorem dX5_bitsOfTermsByMinute_31 : decode cX5_bitsOfTermsByMinute 31 = .ok (.invokestatic 205, 3) := by decide +kernel
theorem dX5_bitsOfTermsByMinute_34 : decode cX5_bitsOfTermsByMinute 34 = .ok (.ireturn, 1) := by decide +kernel
theorem dX5_bitsOf_0 : decode cX5_bitsOf 0 = .ok (.fload_n 0, 1) := by decide +kernel
theorem dX5_bitsOf_1 : decode cX5_bitsOf 1 = .ok (.fconst 0, 1) := by decide +kernel
theorem dX5_bitsOf_2 : decode cX5_bitsOf 2 = .ok (.fcmp .g, 1) := by decide +kernel
theorem dX5_bitsOf_3 : decode cX5_bitsOf 3 = .ok (.ifCond .gt 5, 3) := by decide +kernel
theorem dX5_bitsOf_6 : decode cX5_bitsOf 6 = .ok (.iconst 0, 1) := by decide +kernel
theorem dX5_bitsOf_7 : decode cX5_bitsOf 7 = .ok (.ireturn, 1) := by decide +kernel
theorem dX5_bitsOf_8 : decode cX5_bitsOf 8 = .ok (.fload_n 0, 1) := by decide +kernel
theorem dX5_bitsOf_9 : decode cX5_bitsOf 9 = .ok (.fstore_n 1, 1) := by decide +kernel
theorem dX5_bitsOf_10 : decode cX5_bitsOf 10 = .ok (.bipush 127, 2) := by decide +kernel
theorem dX5_bitsOf_12 : decode cX5_bitsOf 12 = .ok (.istore_n 2, 1) := by decide +kernel
theorem dX5_bitsOf_13 : decode cX5_bitsOf 13 = .ok (.iload_n 2, 1) := by decide +kernel
theorem dX5_bitsOf_14 : decode cX5_bitsOf 14 = .ok (.sipush 254, 3) := by decide +kernel
theorem dX5_bitsOf_17 : decode cX5_bitsOf 17 = .ok (.if_icmp .ge 19, 3) := by decide +kernel
theorem dX5_bitsOf_20 : decode cX5_bitsOf 20 = .ok (.fload_n 1, 1) := by decide +kernel
theorem dX5_bitsOf_21 : decode cX5_bitsOf 21 = .ok (.fconst 2, 1) := by decide +kernel
theorem dX5_bitsOf_22 : decode cX5_bitsOf 22 = .ok (.fcmp .l, 1) := by decide +kernel
theorem dX5_bitsOf_23 : decode cX5_bitsOf 23 = .ok (.ifCond .lt 13, 3) := by decide +kernel
theorem dX5_bitsOf_26 : decode cX5_bitsOf 26 = .ok (.fload_n 1, 1) := by decide +kernel
theorem dX5_bitsOf_27 : decode cX5_bitsOf 27 = .ok (.fconst 2, 1) := by decide +kernel
theorem dX5_bitsOf_28 : decode cX5_bitsOf 28 = .ok (.fdiv, 1) := by decide +kernel
theorem dX5_bitsOf_29 : decode cX5_bitsOf 29 = .ok (.fstore_n 1, 1) := by decide +kernel
theorem dX5_bitsOf_30 : decode cX5_bitsOf 30 = .ok (.iinc 2 1, 3) := by decide +kernel
theorem dX5_bitsOf_33 : decode cX5_bitsOf 33 = .ok (.goto (-20), 3) := by decide +kernel
theorem dX5_bitsOf_36 : decode cX5_bitsOf 36 = .ok (.iload_n 2, 1) := by decide +kernel
theorem dX5_bitsOf_37 : decode cX5_bitsOf 37 = .ok (.iconst 1, 1) := by decide +kernel
theorem dX5_bitsOf_38 : decode cX5_bitsOf 38 = .ok (.if_icmp .le 19, 3) := by decide +kernel
theorem dX5_bitsOf_41 : decode cX5_bitsOf 41 = .ok (.fload_n 1, 1) := by decide +kernel
theorem dX5_bitsOf_42 : decode cX5_bitsOf 42 = .ok (.fconst 1, 1) := by decide +kernel
theorem dX5_bitsOf_43 : decode cX5_bitsOf 43 = .ok (.fcmp .g, 1) := by decide +kernel
theorem dX5_bitsOf_44 : decode cX5_bitsOf 44 = .ok (.ifCond .ge 13, 3) := by decide +kernel
theorem dX5_bitsOf_47 : decode cX5_bitsOf 47 = .ok (.fload_n 1, 1) := by decide +kernel
theorem dX5_bitsOf_48 : decode cX5_bitsOf 48 = .ok (.fconst 2, 1) := by decide +kernel
theorem dX5_bitsOf_49 : decode cX5_bitsOf 49 = .ok (.fmul, 1) := by decide +kernel
theorem dX5_bitsOf_50 : decode cX5_bitsOf 50 = .ok (.fstore_n 1, 1) := by decide +kernel
theorem dX5_bitsOf_51 : decode cX5_bitsOf 51 = .ok (.iinc 2 (-1), 3) := by decide +kernel
theorem dX5_bitsOf_54 : decode cX5_bitsOf 54 = .ok (.goto (-18), 3) := by decide +kernel
theorem dX5_bitsOf_57 : decode cX5_bitsOf 57 = .ok (.iload_n 2, 1) := by decide +kernel
theorem dX5_bitsOf_58 : decode cX5_bitsOf 58 = .ok (.bipush 23, 2) := by decide +kernel
theorem dX5_bitsOf_60 : decode cX5_bitsOf 60 = .ok (.ishl, 1) := by decide +kernel
theorem dX5_bitsOf_61 : decode cX5_bitsOf 61 = .ok (.fload_n 1, 1) := by decide +kernel
theorem dX5_bitsOf_62 : decode cX5_bitsOf 62 = .ok (.fconst 1, 1) := by decide +kernel
theorem dX5_bitsOf_63 : decode cX5_bitsOf 63 = .ok (.fsub, 1) := by decide +kernel
theorem dX5_bitsOf_64 : decode cX5_bitsOf 64 = .ok (.ldc 209, 2) := by decide +kernel
theorem dX5_bitsOf_66 : decode cX5_bitsOf 66 = .ok (.fmul, 1) := by decide +kernel
theorem dX5_bitsOf_67 : decode cX5_bitsOf 67 = .ok (.f2i, 1) := by decide +kernel
theorem dX5_bitsOf_68 : decode cX5_bitsOf 68 = .ok (.iadd, 1) := by decide +kernel
theorem dX5_bitsOf_69 : decode cX5_bitsOf 69 = .ok (.ireturn, 1) := by decide +kernel
theorem dX5_noteShownSets_0 : decode cX5_noteShownSets 0 = .ok (.iconst 0, 1) := by decide +kernel
theorem dX5_noteShownSets_1 : decode cX5_noteShownSets 1 = .ok (.istore_n 1, 1) := by decide +kernel
theorem dX5_noteShownSets_2 : decode cX5_noteShownSets 2 = .ok (.iload_n 1, 1) := by decide +kernel
theorem dX5_noteShownSets_3 : decode cX5_noteShownSets 3 = .ok (.aload_n 0, 1) := by decide +kernel
theorem dX5_noteShownSets_4 : decode cX5_noteShownSets 4 = .ok (.getfield 25, 3) := by decide +kernel
theorem dX5_noteShownSets_7 : decode cX5_noteShownSets 7 = .ok (.invokevirtual 158, 3) := by decide +kernel
theorem dX5_noteShownSets_10 : decode cX5_noteShownSets 10 = .ok (.if_icmp .ge 26, 3) := by decide +kernel
theorem dX5_noteShownSets_13 : decode cX5_noteShownSets 13 = .ok (.iload_n 1, 1) := by decide +kernel
theorem dX5_noteShownSets_14 : decode cX5_noteShownSets 14 = .ok (.bipush 20, 2) := by decide +kernel
theorem dX5_noteShownSets_16 : decode cX5_noteShownSets 16 = .ok (.if_icmp .ge 20, 3) := by decide +kernel
theorem dX5_noteShownSets_19 : decode cX5_noteShownSets 19 = .ok (.aload_n 0, 1) := by decide +kernel
theorem dX5_noteShownSets_20 : decode cX5_noteShownSets 20 = .ok (.getfield 9, 3) := by decide +kernel
theorem dX5_noteShownSets_23 : decode cX5_noteShownSets 23 = .ok (.iload_n 1, 1) := by decide +kernel
theorem dX5_noteShownSets_24 : decode cX5_noteShownSets 24 = .ok (.aload_n 0, 1) := by decide +kernel
theorem dX5_noteShownSets_25 : decode cX5_noteShownSets 25 = .ok (.iload_n 1, 1) := by decide +kernel
theorem dX5_noteShownSets_26 : decode cX5_noteShownSets 26 = .ok (.invokevirtual 191, 3) := by decide +kernel
theorem dX5_noteShownSets_29 : decode cX5_noteShownSets 29 = .ok (.iastore, 1) := by decide +kernel
theorem dX5_noteShownSets_30 : decode cX5_noteShownSets 30 = .ok (.iinc 1 1, 3) := by decide +kernel
theorem dX5_noteShownSets_33 : decode cX5_noteShownSets 33 = .ok (.goto (-31), 3) := by decide +kernel
theorem dX5_noteShownSets_36 : decode cX5_noteShownSets 36 = .ok (.return_, 1) := by decide +kernel
theorem dX5_turnsWithBoth_0 : decode cX5_turnsWithBoth 0 = .ok (.iconst 1, 1) := by decide +kernel
theorem dX5_turnsWithBoth_1 : decode cX5_turnsWithBoth 1 = .ok (.iload_n 1, 1) := by decide +kernel
theorem dX5_turnsWithBoth_2 : decode cX5_turnsWithBoth 2 = .ok (.ishl, 1) := by decide +kernel
theorem dX5_turnsWithBoth_3 : decode cX5_turnsWithBoth 3 = .ok (.iconst 1, 1) := by decide +kernel
theorem dX5_turnsWithBoth_4 : decode cX5_turnsWithBoth 4 = .ok (.iload_n 2, 1) := by decide +kernel
theorem dX5_turnsWithBoth_5 : decode cX5_turnsWithBoth 5 = .ok (.ishl, 1) := by decide +kernel
theorem dX5_turnsWithBoth_6 : decode cX5_turnsWithBoth 6 = .ok (.ior, 1) := by decide +kernel
theorem dX5_turnsWithBoth_7 : decode cX5_turnsWithBoth 7 = .ok (.istore_n 3, 1) := by decide +kernel
theorem dX5_turnsWithBoth_8 : decode cX5_turnsWithBoth 8 = .ok (.iconst 0, 1) := by decide +kernel
theorem dX5_turnsWithBoth_9 : decode cX5_turnsWithBoth 9 = .ok (.istore 4, 2) := by decide +kernel
theorem dX5_turnsWithBoth_11 : decode cX5_turnsWithBoth 11 = .ok (.iconst 0, 1) := by decide +kernel
theorem dX5_turnsWithBoth_12 : decode cX5_turnsWithBoth 12 = .ok (.istore 5, 2) := by decide +kernel
theorem dX5_turnsWithBoth_14 : decode cX5_turnsWithBoth 14 = .ok (.iload 5, 2) := by decide +kernel
theorem dX5_turnsWithBoth_16 : decode cX5_turnsWithBoth 16 = .ok (.aload_n 0, 1) := by decide +kernel
theorem dX5_turnsWithBoth_17 : decode cX5_turnsWithBoth 17 = .ok (.getfield 25, 3) := by decide +kernel
theorem dX5_turnsWithBoth_20 : decode cX5_turnsWithBoth 20 = .ok (.invokevirtual 158, 3) := by decide +kernel
theorem dX5_turnsWithBoth_23 : decode cX5_turnsWithBoth 23 = .ok (.if_icmp .ge 32, 3) := by decide +kernel
theorem dX5_turnsWithBoth_26 : decode cX5_turnsWithBoth 26 = .ok (.iload 5, 2) := by decide +kernel
theorem dX5_turnsWithBoth_28 : decode cX5_turnsWithBoth 28 = .ok (.bipush 20, 2) := by decide +kernel
theorem dX5_turnsWithBoth_30 : decode cX5_turnsWithBoth 30 = .ok (.if_icmp .ge 25, 3) := by decide +kernel
theorem dX5_turnsWithBoth_33 : decode cX5_turnsWithBoth 33 = .ok (.aload_n 0, 1) := by decide +kernel
theorem dX5_turnsWithBoth_34 : decode cX5_turnsWithBoth 34 = .ok (.getfield 9, 3) := by decide +kernel
theorem dX5_turnsWithBoth_37 : decode cX5_turnsWithBoth 37 = .ok (.iload 5, 2) := by decide +kernel
theorem dX5_turnsWithBoth_39 : decode cX5_turnsWithBoth 39 = .ok (.iaload, 1) := by decide +kernel
theorem dX5_turnsWithBoth_40 : decode cX5_turnsWithBoth 40 = .ok (.iload_n 3, 1) := by decide +kernel
theorem dX5_turnsWithBoth_41 : decode cX5_turnsWithBoth 41 = .ok (.iand, 1) := by decide +kernel
theorem dX5_turnsWithBoth_42 : decode cX5_turnsWithBoth 42 = .ok (.iload_n 3, 1) := by decide +kernel
theorem dX5_turnsWithBoth_43 : decode cX5_turnsWithBoth 43 = .ok (.if_icmp .ne 6, 3) := by decide +kernel
theorem dX5_turnsWithBoth_46 : decode cX5_turnsWithBoth 46 = .ok (.iinc 4 1, 3) := by decide +kernel
theorem dX5_turnsWithBoth_49 : decode cX5_turnsWithBoth 49 = .ok (.iinc 5 1, 3) := by decide +kernel
theorem dX5_turnsWithBoth_52 : decode cX5_turnsWithBoth 52 = .ok (.goto (-38), 3) := by decide +kernel
theorem dX5_turnsWithBoth_55 : decode cX5_turnsWithBoth 55 = .ok (.iload 4, 2) := by decide +kernel
theorem dX5_turnsWithBoth_57 : decode cX5_turnsWithBoth 57 = .ok (.ireturn, 1) := by decide +kernel
theorem dX6_init_0 : decode cX6_init 0 = .ok (.aload_n 0, 1) := by decide +kernel
theorem dX6_init_1 : decode cX6_init 1 = .ok (.invokespecial 3, 3) := by decide +kernel
theorem dX6_init_4 : decode cX6_init 4 = .ok (.aload_n 0, 1) := by decide +kernel
theorem dX6_init_5 : decode cX6_init 5 = .ok (.bipush 60, 2) := by decide +kernel
theorem dX6_init_7 : decode cX6_init 7 = .ok (.newarray .int, 2) := by decide +kernel
theorem dX6_init_9 : decode cX6_init 9 = .ok (.putfield 9, 3) := by decide +kernel
theorem dX6_init_12 : decode cX6_init 12 = .ok (.return_, 1) := by decide +kernel
theorem dX6_length_0 : decode cX6_length 0 = .ok (.aload_n 0, 1) := by decide +kernel
theorem dX6_length_1 : decode cX6_length 1 = .ok (.getfield 15, 3) := by decide +kernel
theorem dX6_length_4 : decode cX6_length 4 = .ok (.ireturn, 1) := by decide +kernel
theorem dX6_isFull_0 : decode cX6_isFull 0 = .ok (.aload_n 0, 1) := by decide +kernel
theorem dX6_isFull_1 : decode cX6_isFull 1 = .ok (.getfield 15, 3) := by decide +kernel
theorem dX6_isFull_4 : decode cX6_isFull 4 = .ok (.bipush 60, 2) := by decide +kernel
theorem dX6_isFull_6 : decode cX6_isFull 6 = .ok (.if_icmp .lt 7, 3) := by decide +kernel
theorem dX6_isFull_9 : decode cX6_isFull 9 = .ok (.iconst 1, 1) := by decide +kernel
theorem dX6_isFull_10 : decode cX6_isFull 10 = .ok (.goto 4, 3) := by decide +kernel
theorem dX6_isFull_13 : decode cX6_isFull 13 = .ok (.iconst 0, 1) := by decide +kernel
theorem dX6_isFull_14 : decode cX6_isFull 14 = .ok (.ireturn, 1) := by decide +kernel
theorem dX6_append_0 : decode cX6_append 0 = .ok (.aload_n 0, 1) := by decide +kernel
theorem dX6_append_1 : decode cX6_append 1 = .ok (.getfield 15, 3) := by decide +kernel
theorem dX6_append_4 : decode cX6_append 4 = .ok (.iconst 0, 1) := by decide +kernel
theorem dX6_append_5 : decode cX6_append 5 = .ok (.bipush 59, 2) := by decide +kernel
theorem dX6_append_7 : decode cX6_append 7 = .ok (.invokestatic 19, 3) := by decide +kernel
theorem dX6_append_10 : decode cX6_append 10 = .ok (.ifCond .eq 23, 3) := by decide +kernel
theorem dX6_append_13 : decode cX6_append 13 = .ok (.aload_n 0, 1) := by decide +kernel
theorem dX6_append_14 : decode cX6_append 14 = .ok (.getfield 9, 3) := by decide +kernel
theorem dX6_append_17 : decode cX6_append 17 = .ok (.aload_n 0, 1) := by decide +kernel
theorem dX6_append_18 : decode cX6_append 18 = .ok (.getfield 15, 3) := by decide +kernel
theorem dX6_append_21 : decode cX6_append 21 = .ok (.iload_n 1, 1) := by decide +kernel
theorem dX6_append_22 : decode cX6_append 22 = .ok (.iastore, 1) := by decide +kernel
theorem dX6_append_23 : decode cX6_append 23 = .ok (.aload_n 0, 1) := by decide +kernel
theorem dX6_append_24 : decode cX6_append 24 = .ok (.dup, 1) := by decide +kernel
theorem dX6_append_25 : decode cX6_append 25 = .ok (.getfield 15, 3) := by decide +kernel
theorem dX6_append_28 : decode cX6_append 28 = .ok (.iconst 1, 1) := by decide +kernel
theorem dX6_append_29 : decode cX6_append 29 = .ok (.iadd, 1) := by decide +kernel
theorem dX6_append_30 : decode cX6_append 30 = .ok (.putfield 15, 3) := by decide +kernel
theorem dX6_append_33 : decode cX6_append 33 = .ok (.aload_n 0, 1) := by decide +kernel
theorem dX6_append_34 : decode cX6_append 34 = .ok (.getfield 15, 3) := by decide +kernel
theorem dX6_append_37 : decode cX6_append 37 = .ok (.ireturn, 1) := by decide +kernel
theorem dX6_empty_0 : decode cX6_empty 0 = .ok (.aload_n 0, 1) := by decide +kernel
theorem dX6_empty_1 : decode cX6_empty 1 = .ok (.getfield 15, 3) := by decide +kernel
theorem dX6_empty_4 : decode cX6_empty 4 = .ok (.istore_n 1, 1) := by decide +kernel
theorem dX6_empty_5 : decode cX6_empty 5 = .ok (.aload_n 0, 1) := by decide +kernel
theorem dX6_empty_6 : decode cX6_empty 6 = .ok (.iconst 0, 1) := by decide +kernel
theorem dX6_empty_7 : decode cX6_empty 7 = .ok (.putfield 15, 3) := by decide +kernel
theorem dX6_empty_10 : decode cX6_empty 10 = .ok (.iload_n 1, 1) := by decide +kernel
theorem dX6_empty_11 : decode cX6_empty 11 = .ok (.ireturn, 1) := by decide +kernel
theorem dX6_characterAt_0 : decode cX6_characterAt 0 = .ok (.iload_n 1, 1) := by decide +kernel
theorem dX6_characterAt_1 : decode cX6_characterAt 1 = .ok (.ifCond .lt 26, 3) := by decide +kernel
theorem dX6_characterAt_4 : decode cX6_characterAt 4 = .ok (.iload_n 1, 1) := by decide +kernel
theorem dX6_characterAt_5 : decode cX6_characterAt 5 = .ok (.aload_n 0, 1) := by decide +kernel
theorem dX6_characterAt_6 : decode cX6_characterAt 6 = .ok (.getfield 15, 3) := by decide +kernel
theorem dX6_characterAt_9 : decode cX6_characterAt 9 = .ok (.if_icmp .ge 18, 3) := by decide +kernel
theorem dX6_characterAt_12 : decode cX6_characterAt 12 = .ok (.iload_n 1, 1) := by decide +kernel
theorem dX6_characterAt_13 : decode cX6_characterAt 13 = .ok (.bipush 60, 2) := by decide +kernel
theorem dX6_characterAt_15 : decode cX6_characterAt 15 = .ok (.if_icmp .ge 12, 3) := by decide +kernel
theorem dX6_characterAt_18 : decode cX6_characterAt 18 = .ok (.aload_n 0, 1) := by decide +kernel
theorem dX6_characterAt_19 : decode cX6_characterAt 19 = .ok (.getfield 9, 3) := by decide +kernel
theorem dX6_characterAt_22 : decode cX6_characterAt 22 = .ok (.iload_n 1, 1) := by decide +kernel
theorem dX6_characterAt_23 : decode cX6_characterAt 23 = .ok (.iaload, 1) := by decide +kernel
theorem dX6_characterAt_24 : decode cX6_characterAt 24 = .ok (.goto 4, 3) := by decide +kernel
theorem dX6_characterAt_27 : decode cX6_characterAt 27 = .ok (.iconst (-1), 1) := by decide +kernel
theorem dX6_characterAt_28 : decode cX6_characterAt 28 = .ok (.ireturn, 1) := by decide +kernel
theorem dX7_init_0 : decode cX7_init 0 = .ok (.aload_n 0, 1) := by decide +kernel
theorem dX7_init_1 : decode cX7_init 1 = .ok (.invokespecial 3, 3) := by decide +kernel
theorem dX7_init_4 : decode cX7_init 4 = .ok (.aload_n 0, 1) := by decide +kernel
theorem dX7_init_5 : decode cX7_init 5 = .ok (.new 9, 3) := by decide +kernel
theorem dX7_init_8 : decode cX7_init 8 = .ok (.dup, 1) := by decide +kernel
theorem dX7_init_9 : decode cX7_init 9 = .ok (.invokespecial 11, 3) := by decide +kernel
theorem dX7_init_12 : decode cX7_init 12 = .ok (.putfield 12, 3) := by decide +kernel
theorem dX7_init_15 : decode cX7_init 15 = .ok (.aload_n 0, 1) := by decide +kernel
theorem dX7_init_16 : decode cX7_init 16 = .ok (.new 18, 3) := by decide +kernel
theorem dX7_init_19 : decode cX7_init 19 = .ok (.dup, 1) := by decide +kernel
theorem dX7_init_20 : decode cX7_init 20 = .ok (.invokespecial 20, 3) := by decide +kernel
theorem dX7_init_23 : decode cX7_init 23 = .ok (.putfield 21, 3) := by decide +kernel
theorem dX7_init_26 : decode cX7_init 26 = .ok (.aload_n 0, 1) := by decide +kernel
theorem dX7_init_27 : decode cX7_init 27 = .ok (.new 25, 3) := by decide +kernel
theorem dX7_init_30 : decode cX7_init 30 = .ok (.dup, 1) := by decide +kernel
theorem dX7_init_31 : decode cX7_init 31 = .ok (.invokespecial 27, 3) := by decide +kernel
theorem dX7_init_34 : decode cX7_init 34 = .ok (.putfield 28, 3) := by decide +kernel
theorem dX7_init_37 : decode cX7_init 37 = .ok (.aload_n 0, 1) := by decide +kernel
theorem dX7_init_38 : decode cX7_init 38 = .ok (.bipush 30, 2) := by decide +kernel
theorem dX7_init_40 : decode cX7_init 40 = .ok (.putfield 32, 3) := by decide +kernel
theorem dX7_init_43 : decode cX7_init 43 = .ok (.return_, 1) := by decide +kernel
theorem dX7_takeFrom_0 : decode cX7_takeFrom 0 = .ok (.aload_n 0, 1) := by decide +kernel
theorem dX7_takeFrom_1 : decode cX7_takeFrom 1 = .ok (.getfield 12, 3) := by decide +kernel
theorem dX7_takeFrom_4 : decode cX7_takeFrom 4 = .ok (.aload_n 1, 1) := by decide +kernel
theorem dX7_takeFrom_5 : decode cX7_takeFrom 5 = .ok (.getfield 12, 3) := by decide +kernel
theorem dX7_takeFrom_8 : decode cX7_takeFrom 8 = .ok (.invokevirtual 36, 3) := by decide +kernel
theorem dX7_takeFrom_11 : decode cX7_takeFrom 11 = .ok (.aload_n 0, 1) := by decide +kernel
theorem dX7_takeFrom_12 : decode cX7_takeFrom 12 = .ok (.getfield 21, 3) := by decide +kernel
theorem dX7_takeFrom_15 : decode cX7_takeFrom 15 = .ok (.aload_n 1, 1) := by decide +kernel
theorem dX7_takeFrom_16 : decode cX7_takeFrom 16 = .ok (.getfield 21, 3) := by decide +kernel
theorem dX7_takeFrom_19 : decode cX7_takeFrom 19 = .ok (.invokevirtual 40, 3) := by decide +kernel
theorem dX7_takeFrom_22 : decode cX7_takeFrom 22 = .ok (.aload_n 0, 1) := by decide +kernel
theorem dX7_takeFrom_23 : decode cX7_takeFrom 23 = .ok (.getfield 28, 3) := by decide +kernel
theorem dX7_takeFrom_26 : decode cX7_takeFrom 26 = .ok (.aload_n 1, 1) := by decide +kernel
theorem dX7_takeFrom_27 : decode cX7_takeFrom 27 = .ok (.getfield 28, 3) := by decide +kernel
theorem dX7_takeFrom_30 : decode cX7_takeFrom 30 = .ok (.invokevirtual 43, 3) := by decide +kernel
theorem dX7_takeFrom_33 : decode cX7_takeFrom 33 = .ok (.aload_n 0, 1) := by decide +kernel
theorem dX7_takeFrom_34 : decode cX7_takeFrom 34 = .ok (.aload_n 1, 1) := by decide +kernel
theorem dX7_takeFrom_35 : decode cX7_takeFrom 35 = .ok (.getfield 32, 3) := by decide +kernel
theorem dX7_takeFrom_38 : decode cX7_takeFrom 38 = .ok (.putfield 32, 3) := by decide +kernel
theorem dX7_takeFrom_41 : decode cX7_takeFrom 41 = .ok (.return_, 1) := by decide +kernel
theorem dX7_addTurn_0 : decode cX7_addTurn 0 = .ok (.iload_n 1, 1) := by decide +kernel
theorem dX7_addTurn_1 : decode cX7_addTurn 1 = .ok (.ifCond .lt 22, 3) := by decide +kernel
theorem dX7_addTurn_4 : decode cX7_addTurn 4 = .ok (.iload_n 2, 1) := by decide +kernel
theorem dX7_addTurn_5 : decode cX7_addTurn 5 = .ok (.iload_n 1, 1) := by decide +kernel
theorem dX7_addTurn_6 : decode cX7_addTurn 6 = .ok (.if_icmp .le 17, 3) := by decide +kernel
theorem dX7_addTurn_9 : decode cX7_addTurn 9 = .ok (.iload_n 2, 1) := by decide +kernel
theorem dX7_addTurn_10 : decode cX7_addTurn 10 = .ok (.sipush 1999, 3) := by decide +kernel
theorem dX7_addTurn_13 : decode cX7_addTurn 13 = .ok (.if_icmp .gt 10, 3) := by decide +kernel
theorem dX7_addTurn_16 : decode cX7_addTurn 16 = .ok (.iload_n 3, 1) := by decide +kernel
theorem dX7_addTurn_17 : decode cX7_addTurn 17 = .ok (.invokestatic 46, 3) := by decide +kernel
theorem dX7_addTurn_20 : decode cX7_addTurn 20 = .ok (.ifCond .ne 6, 3) := by decide +kernel
theorem dX7_addTurn_23 : decode cX7_addTurn 23 = .ok (.ldc 50, 2) := by decide +kernel
theorem dX7_addTurn_25 : decode cX7_addTurn 25 = .ok (.ireturn, 1) := by decide +kernel
theorem dX7_addTurn_26 : decode cX7_addTurn 26 = .ok (.aload_n 0, 1) := by decide +kernel
theorem dX7_addTurn_27 : decode cX7_addTurn 27 = .ok (.getfield 12, 3) := by decide +kernel
theorem dX7_addTurn_30 : decode cX7_addTurn 30 = .ok (.invokevirtual 51, 3) := by decide +kernel
theorem dX7_addTurn_33 : decode cX7_addTurn 33 = .ok (.ifCond .eq 6, 3) := by decide +kernel
theorem dX7_addTurn_36 : decode cX7_addTurn 36 = .ok (.ldc 55, 2) := by decide +kernel
theorem dX7_addTurn_38 : decode cX7_addTurn 38 = .ok (.ireturn, 1) := by decide +kernel
theorem dX7_addTurn_39 : decode cX7_addTurn 39 = .ok (.aload_n 0, 1) := by decide +kernel
theorem dX7_addTurn_40 : decode cX7_addTurn 40 = .ok (.getfield 12, 3) := by decide +kernel
theorem dX7_addTurn_43 : decode cX7_addTurn 43 = .ok (.iload_n 1, 1) := by decide +kernel
theorem dX7_addTurn_44 : decode cX7_addTurn 44 = .ok (.iload_n 2, 1) := by decide +kernel
theorem dX7_addTurn_45 : decode cX7_addTurn 45 = .ok (.iload_n 3, 1) := by decide +kernel
theorem dX7_addTurn_46 : decode cX7_addTurn 46 = .ok (.aload_n 0, 1) := by decide +kernel
theorem dX7_addTurn_47 : decode cX7_addTurn 47 = .ok (.iload_n 3, 1) := by decide +kernel
theorem dX7_addTurn_48 : decode cX7_addTurn 48 = .ok (.invokevirtual 56, 3) := by decide +kernel
theorem dX7_addTurn_51 : decode cX7_addTurn 51 = .ok (.invokevirtual 60, 3) := by decide +kernel
theorem dX7_addTurn_54 : decode cX7_addTurn 54 = .ok (.ireturn, 1) := by decide +kernel
theorem dX7_addTerm_0 : decode cX7_addTerm 0 = .ok (.aload_n 0, 1) := by decide +kernel
theorem dX7_addTerm_1 : decode cX7_addTerm 1 = .ok (.getfield 12, 3) := by decide +kernel
theorem dX7_addTerm_4 : decode cX7_addTerm 4 = .ok (.iload_n 1, 1) := by decide +kernel
theorem dX7_addTerm_5 : decode cX7_addTerm 5 = .ok (.invokevirtual 64, 3) := by decide +kernel
theorem dX7_addTerm_8 : decode cX7_addTerm 8 = .ok (.ifCond .eq 10, 3) := by decide +kernel
theorem dX7_addTerm_11 : decode cX7_addTerm 11 = .ok (.iload_n 2, 1) := by decide +kernel
theorem dX7_addTerm_12 : decode cX7_addTerm 12 = .ok (.invokestatic 67, 3) := by decide +kernel
theorem dX7_addTerm_15 : decode cX7_addTerm 15 = .ok (.ifCond .ne 6, 3) := by decide +kernel
theorem dX7_addTerm_18 : decode cX7_addTerm 18 = .ok (.ldc 50, 2) := by decide +kernel
theorem dX7_addTerm_20 : decode cX7_addTerm 20 = .ok (.ireturn, 1) := by decide +kernel
theorem dX7_addTerm_21 : decode cX7_addTerm 21 = .ok (.aload_n 0, 1) := by decide +kernel
theorem dX7_addTerm_22 : decode cX7_addTerm 22 = .ok (.getfield 12, 3) := by decide +kernel
theorem dX7_addTerm_25 : decode cX7_addTerm 25 = .ok (.iload_n 1, 1) := by decide +kernel
theorem dX7_addTerm_26 : decode cX7_addTerm 26 = .ok (.invokevirtual 70, 3) := by decide +kernel
theorem dX7_addTerm_29 : decode cX7_addTerm 29 = .ok (.ifCond .eq 6, 3) := by decide +kernel
theorem dX7_addTerm_32 : decode cX7_addTerm 32 = .ok (.ldc 55, 2) := by decide +kernel
theorem dX7_addTerm_34 : decode cX7_addTerm 34 = .ok (.ireturn, 1) := by decide +kernel
theorem dX7_addTerm_35 : decode cX7_addTerm 35 = .ok (.aload_n 0, 1) := by decide +kernel
theorem dX7_addTerm_36 : decode cX7_addTerm 36 = .ok (.getfield 12, 3) := by decide +kernel
theorem dX7_addTerm_39 : decode cX7_addTerm 39 = .ok (.iload_n 1, 1) := by decide +kernel
theorem dX7_addTerm_40 : decode cX7_addTerm 40 = .ok (.iload_n 2, 1) := by decide +kernel
theorem dX7_addTerm_41 : decode cX7_addTerm 41 = .ok (.invokevirtual 73, 3) := by decide +kernel
theorem dX7_addTerm_44 : decode cX7_addTerm 44 = .ok (.aload_n 0, 1) := by decide +kernel
theorem dX7_addTerm_45 : decode cX7_addTerm 45 = .ok (.getfield 12, 3) := by decide +kernel
theorem dX7_addTerm_48 : decode cX7_addTerm 48 = .ok (.iload_n 1, 1) := by decide +kernel
theorem dX7_addTerm_49 : decode cX7_addTerm 49 = .ok (.invokevirtual 77, 3) := by decide +kernel
theorem dX7_addTerm_52 : decode cX7_addTerm 52 = .ok (.ireturn, 1) := by decide +kernel
theorem dX7_partTurn_0 : decode cX7_partTurn 0 = .ok (.aload_n 0, 1) := by decide +kernel
theorem dX7_partTurn_1 : decode cX7_partTurn 1 = .ok (.getfield 12, 3) := by decide +kernel
theorem dX7_partTurn_4 : decode cX7_partTurn 4 = .ok (.iload_n 1, 1) := by decide +kernel
theorem dX7_partTurn_5 : decode cX7_partTurn 5 = .ok (.invokevirtual 64, 3) := by decide +kernel
theorem dX7_partTurn_8 : decode cX7_partTurn 8 = .ok (.ifCond .eq 43, 3) := by decide +kernel
theorem dX7_partTurn_11 : decode cX7_partTurn 11 = .ok (.iload_n 2, 1) := by decide +kernel
theorem dX7_partTurn_12 : decode cX7_partTurn 12 = .ok (.aload_n 0, 1) := by decide +kernel
theorem dX7_partTurn_13 : decode cX7_partTurn 13 = .ok (.getfield 12, 3) := by decide +kernel
theorem dX7_partTurn_16 : decode cX7_partTurn 16 = .ok (.iload_n 1, 1) := by decide +kernel
theorem dX7_partTurn_17 : decode cX7_partTurn 17 = .ok (.invokevirtual 80, 3) := by decide +kernel
theorem dX7_partTurn_20 : decode cX7_partTurn 20 = .ok (.if_icmp .le 31, 3) := by decide +kernel
theorem dX7_partTurn_23 : decode cX7_partTurn 23 = .ok (.iload_n 2, 1) := by decide +kernel
theorem dX7_partTurn_24 : decode cX7_partTurn 24 = .ok (.aload_n 0, 1) := by decide +kernel
theorem dX7_partTurn_25 : decode cX7_partTurn 25 = .ok (.getfield 12, 3) := by decide +kernel
theorem dX7_partTurn_28 : decode cX7_partTurn 28 = .ok (.iload_n 1, 1) := by decide +kernel
theorem dX7_partTurn_29 : decode cX7_partTurn 29 = .ok (.invokevirtual 83, 3) := by decide +kernel
theorem dX7_partTurn_32 : decode cX7_partTurn 32 = .ok (.if_icmp .ge 19, 3) := by decide +kernel
theorem dX7_partTurn_35 : decode cX7_partTurn 35 = .ok (.iload_n 3, 1) := by decide +kernel
theorem dX7_partTurn_36 : decode cX7_partTurn 36 = .ok (.iconst 0, 1) := by decide +kernel
theorem dX7_partTurn_37 : decode cX7_partTurn 37 = .ok (.aload_n 0, 1) := by decide +kernel
theorem dX7_partTurn_38 : decode cX7_partTurn 38 = .ok (.getfield 12, 3) := by decide +kernel
theorem dX7_partTurn_41 : decode cX7_partTurn 41 = .ok (.iload_n 1, 1) := by decide +kernel
theorem dX7_partTurn_42 : decode cX7_partTurn 42 = .ok (.invokevirtual 77, 3) := by decide +kernel
theorem dX7_partTurn_45 : decode cX7_partTurn 45 = .ok (.invokestatic 86, 3) := by decide +kernel
theorem dX7_partTurn_48 : decode cX7_partTurn 48 = .ok (.ifCond .ne 6, 3) := by decide +kernel
theorem dX7_partTurn_51 : decode cX7_partTurn 51 = .ok (.ldc 50, 2) := by decide +kernel
theorem dX7_partTurn_53 : decode cX7_partTurn 53 = .ok (.ireturn, 1) := by decide +kernel
theorem dX7_partTurn_54 : decode cX7_partTurn 54 = .ok (.aload_n 0, 1) := by decide +kernel
theorem dX7_partTurn_55 : decode cX7_partTurn 55 = .ok (.getfield 12, 3) := by decide +kernel
theorem dX7_partTurn_58 : decode cX7_partTurn 58 = .ok (.invokevirtual 51, 3) := by decide +kernel
theorem dX7_partTurn_61 : decode cX7_partTurn 61 = .ok (.ifCond .eq 6, 3) := by decide +kernel
theorem dX7_partTurn_64 : decode cX7_partTurn 64 = .ok (.ldc 55, 2) := by decide +kernel
theorem dX7_partTurn_66 : decode cX7_partTurn 66 = .ok (.ireturn, 1) := by decide +kernel
theorem dX7_partTurn_67 : decode cX7_partTurn 67 = .ok (.aload_n 0, 1) := by decide +kernel
theorem dX7_partTurn_68 : decode cX7_partTurn 68 = .ok (.getfield 12, 3) := by decide +kernel
theorem dX7_partTurn_71 : decode cX7_partTurn 71 = .ok (.iload_n 2, 1) := by decide +kernel
theorem dX7_partTurn_72 : decode cX7_partTurn 72 = .ok (.aload_n 0, 1) := by decide +kernel
theorem dX7_partTurn_73 : decode cX7_partTurn 73 = .ok (.getfield 12, 3) := by decide +kernel
theorem dX7_partTurn_76 : decode cX7_partTurn 76 = .ok (.iload_n 1, 1) := by decide +kernel
theorem dX7_partTurn_77 : decode cX7_partTurn 77 = .ok (.invokevirtual 83, 3) := by decide +kernel
theorem dX7_partTurn_80 : decode cX7_partTurn 80 = .ok (.aload_n 0, 1) := by decide +kernel
theorem dX7_partTurn_81 : decode cX7_partTurn 81 = .ok (.getfield 12, 3) := by decide +kernel
theorem dX7_partTurn_84 : decode cX7_partTurn 84 = .ok (.iload_n 1, 1) := by decide +kernel
theorem dX7_partTurn_85 : decode cX7_partTurn 85 = .ok (.invokevirtual 90, 3) := by decide +kernel
theorem dX7_partTurn_88 : decode cX7_partTurn 88 = .ok (.aload_n 0, 1) := by decide +kernel
theorem dX7_partTurn_89 : decode cX7_partTurn 89 = .ok (.getfield 12, 3) := by decide +kernel
theorem dX7_partTurn_92 : decode cX7_partTurn 92 = .ok (.iload_n 1, 1) := by decide +kernel
theorem dX7_partTurn_93 : decode cX7_partTurn 93 = .ok (.invokevirtual 93, 3) := by decide +kernel
