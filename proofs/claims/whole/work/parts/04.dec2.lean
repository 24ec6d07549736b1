theorem dX8_settleDays_34 : decode cX8_settleDays 34 = .ok (.aload_n 0, 1) := by decide +kernel
theorem dX8_settleDays_35 : decode cX8_settleDays 35 = .ok (.getfield 30, 3) := by decide +kernel
theorem dX8_settleDays_38 : decode cX8_settleDays 38 = .ok (.getfield 130, 3) := by decide +kernel
theorem dX8_settleDays_41 : decode cX8_settleDays 41 = .ok (.iload_n 1, 1) := by decide +kernel
theorem dX8_settleDays_42 : decode cX8_settleDays 42 = .ok (.invokevirtual 185, 3) := by decide +kernel
theorem dX8_settleDays_45 : decode cX8_settleDays 45 = .ok (.ifCond .eq 21, 3) := by decide +kernel
theorem dX8_settleDays_48 : decode cX8_settleDays 48 = .ok (.aload_n 0, 1) := by decide +kernel
theorem dX8_settleDays_49 : decode cX8_settleDays 49 = .ok (.getfield 30, 3) := by decide +kernel
theorem dX8_settleDays_52 : decode cX8_settleDays 52 = .ok (.getfield 75, 3) := by decide +kernel
theorem dX8_settleDays_55 : decode cX8_settleDays 55 = .ok (.aload_n 0, 1) := by decide +kernel
theorem dX8_settleDays_56 : decode cX8_settleDays 56 = .ok (.invokevirtual 72, 3) := by decide +kernel
theorem dX8_settleDays_59 : decode cX8_settleDays 59 = .ok (.getfield 75, 3) := by decide +kernel
theorem dX8_settleDays_62 : decode cX8_settleDays 62 = .ok (.isub, 1) := by decide +kernel
theorem dX8_settleDays_63 : decode cX8_settleDays 63 = .ok (.goto 4, 3) := by decide +kernel
theorem dX8_settleDays_66 : decode cX8_settleDays 66 = .ok (.iconst (-1), 1) := by decide +kernel
theorem dX8_settleDays_67 : decode cX8_settleDays 67 = .ok (.ireturn, 1) := by decide +kernel
theorem dX8_variationCount_0 : decode cX8_variationCount 0 = .ok (.aload_n 0, 1) := by decide +kernel
theorem dX8_variationCount_1 : decode cX8_variationCount 1 = .ok (.invokevirtual 72, 3) := by decide +kernel
theorem dX8_variationCount_4 : decode cX8_variationCount 4 = .ok (.getfield 188, 3) := by decide +kernel
theorem dX8_variationCount_7 : decode cX8_variationCount 7 = .ok (.getfield 192, 3) := by decide +kernel
theorem dX8_variationCount_10 : decode cX8_variationCount 10 = .ok (.ireturn, 1) := by decide +kernel
theorem dX8_isApproved_0 : decode cX8_isApproved 0 = .ok (.aload_n 0, 1) := by decide +kernel
theorem dX8_isApproved_1 : decode cX8_isApproved 1 = .ok (.iload_n 1, 1) := by decide +kernel
theorem dX8_isApproved_2 : decode cX8_isApproved 2 = .ok (.invokevirtual 195, 3) := by decide +kernel
theorem dX8_isApproved_5 : decode cX8_isApproved 5 = .ok (.aload_n 0, 1) := by decide +kernel
theorem dX8_isApproved_6 : decode cX8_isApproved 6 = .ok (.invokevirtual 72, 3) := by decide +kernel
theorem dX8_isApproved_9 : decode cX8_isApproved 9 = .ok (.getfield 188, 3) := by decide +kernel
theorem dX8_isApproved_12 : decode cX8_isApproved 12 = .ok (.getfield 198, 3) := by decide +kernel
theorem dX8_isApproved_15 : decode cX8_isApproved 15 = .ok (.iload_n 1, 1) := by decide +kernel
theorem dX8_isApproved_16 : decode cX8_isApproved 16 = .ok (.baload, 1) := by decide +kernel
theorem dX8_isApproved_17 : decode cX8_isApproved 17 = .ok (.ireturn, 1) := by decide +kernel
theorem dX8_variationWorth_0 : decode cX8_variationWorth 0 = .ok (.aload_n 0, 1) := by decide +kernel
theorem dX8_variationWorth_1 : decode cX8_variationWorth 1 = .ok (.iload_n 1, 1) := by decide +kernel
theorem dX8_variationWorth_2 : decode cX8_variationWorth 2 = .ok (.invokevirtual 195, 3) := by decide +kernel
theorem dX8_variationWorth_5 : decode cX8_variationWorth 5 = .ok (.aload_n 0, 1) := by decide +kernel
theorem dX8_variationWorth_6 : decode cX8_variationWorth 6 = .ok (.invokevirtual 72, 3) := by decide +kernel
theorem dX8_variationWorth_9 : decode cX8_variationWorth 9 = .ok (.iload_n 1, 1) := by decide +kernel
theorem dX8_variationWorth_10 : decode cX8_variationWorth 10 = .ok (.invokevirtual 202, 3) := by decide +kernel
theorem dX8_variationWorth_13 : decode cX8_variationWorth 13 = .ok (.lreturn, 1) := by decide +kernel
theorem dX8_lienCount_0 : decode cX8_lienCount 0 = .ok (.aload_n 0, 1) := by decide +kernel
theorem dX8_lienCount_1 : decode cX8_lienCount 1 = .ok (.invokevirtual 72, 3) := by decide +kernel
theorem dX8_lienCount_4 : decode cX8_lienCount 4 = .ok (.getfield 205, 3) := by decide +kernel
theorem dX8_lienCount_7 : decode cX8_lienCount 7 = .ok (.getfield 209, 3) := by decide +kernel
theorem dX8_lienCount_10 : decode cX8_lienCount 10 = .ok (.ireturn, 1) := by decide +kernel
theorem dX8_claim_0 : decode cX8_claim 0 = .ok (.aload_n 0, 1) := by decide +kernel
theorem dX8_claim_1 : decode cX8_claim 1 = .ok (.iload_n 1, 1) := by decide +kernel
theorem dX8_claim_2 : decode cX8_claim 2 = .ok (.invokevirtual 212, 3) := by decide +kernel
theorem dX8_claim_5 : decode cX8_claim 5 = .ok (.aload_n 0, 1) := by decide +kernel
theorem dX8_claim_6 : decode cX8_claim 6 = .ok (.invokevirtual 72, 3) := by decide +kernel
theorem dX8_claim_9 : decode cX8_claim 9 = .ok (.iload_n 1, 1) := by decide +kernel
theorem dX8_claim_10 : decode cX8_claim 10 = .ok (.invokevirtual 215, 3) := by decide +kernel
theorem dX8_claim_13 : decode cX8_claim 13 = .ok (.lreturn, 1) := by decide +kernel
theorem dX8_priority_0 : decode cX8_priority 0 = .ok (.aload_n 0, 1) := by decide +kernel
theorem dX8_priority_1 : decode cX8_priority 1 = .ok (.iload_n 1, 1) := by decide +kernel
theorem dX8_priority_2 : decode cX8_priority 2 = .ok (.invokevirtual 212, 3) := by decide +kernel
theorem dX8_priority_5 : decode cX8_priority 5 = .ok (.aload_n 0, 1) := by decide +kernel
theorem dX8_priority_6 : decode cX8_priority 6 = .ok (.invokevirtual 72, 3) := by decide +kernel
theorem dX8_priority_9 : decode cX8_priority 9 = .ok (.iload_n 1, 1) := by decide +kernel
theorem dX8_priority_10 : decode cX8_priority 10 = .ok (.invokevirtual 218, 3) := by decide +kernel
theorem dX8_priority_13 : decode cX8_priority 13 = .ok (.ireturn, 1) := by decide +kernel
theorem dX8_share_0 : decode cX8_share 0 = .ok (.aload_n 0, 1) := by decide +kernel
theorem dX8_share_1 : decode cX8_share 1 = .ok (.iload_n 1, 1) := by decide +kernel
theorem dX8_share_2 : decode cX8_share 2 = .ok (.invokevirtual 212, 3) := by decide +kernel
theorem dX8_share_5 : decode cX8_share 5 = .ok (.iload_n 2, 1) := by decide +kernel
theorem dX8_share_6 : decode cX8_share 6 = .ok (.iconst 0, 1) := by decide +kernel
theorem dX8_share_7 : decode cX8_share 7 = .ok (.ldc 221, 2) := by decide +kernel
theorem dX8_share_9 : decode cX8_share 9 = .ok (.invokestatic 41, 3) := by decide +kernel
theorem dX8_share_12 : decode cX8_share 12 = .ok (.aload_n 0, 1) := by decide +kernel
theorem dX8_share_13 : decode cX8_share 13 = .ok (.invokevirtual 72, 3) := by decide +kernel
theorem dX8_share_16 : decode cX8_share 16 = .ok (.iload_n 1, 1) := by decide +kernel
theorem dX8_share_17 : decode cX8_share 17 = .ok (.iload_n 2, 1) := by decide +kernel
theorem dX8_share_18 : decode cX8_share 18 = .ok (.i2l, 1) := by decide +kernel
theorem dX8_share_19 : decode cX8_share 19 = .ok (.invokevirtual 222, 3) := by decide +kernel
theorem dX8_share_22 : decode cX8_share 22 = .ok (.lreturn, 1) := by decide +kernel
theorem dX8_measure_0 : decode cX8_measure 0 = .ok (.aload_n 0, 1) := by decide +kernel
theorem dX8_measure_1 : decode cX8_measure 1 = .ok (.iload_n 1, 1) := by decide +kernel
theorem dX8_measure_2 : decode cX8_measure 2 = .ok (.iload_n 2, 1) := by decide +kernel
theorem dX8_measure_3 : decode cX8_measure 3 = .ok (.invokevirtual 93, 3) := by decide +kernel
theorem dX8_measure_6 : decode cX8_measure 6 = .ok (.iload_n 3, 1) := by decide +kernel
theorem dX8_measure_7 : decode cX8_measure 7 = .ok (.iconst 0, 1) := by decide +kernel
theorem dX8_measure_8 : decode cX8_measure 8 = .ok (.bipush 100, 2) := by decide +kernel
theorem dX8_measure_10 : decode cX8_measure 10 = .ok (.invokestatic 41, 3) := by decide +kernel
theorem dX8_measure_13 : decode cX8_measure 13 = .ok (.iload_n 1, 1) := by decide +kernel
theorem dX8_measure_14 : decode cX8_measure 14 = .ok (.iload_n 2, 1) := by decide +kernel
theorem dX8_measure_15 : decode cX8_measure 15 = .ok (.invokestatic 100, 3) := by decide +kernel
theorem dX8_measure_18 : decode cX8_measure 18 = .ok (.istore 4, 2) := by decide +kernel
theorem dX8_measure_20 : decode cX8_measure 20 = .ok (.aload_n 0, 1) := by decide +kernel
theorem dX8_measure_21 : decode cX8_measure 21 = .ok (.invokevirtual 49, 3) := by decide +kernel
theorem dX8_measure_24 : decode cX8_measure 24 = .ok (.getfield 85, 3) := by decide +kernel
theorem dX8_measure_27 : decode cX8_measure 27 = .ok (.astore 5, 2) := by decide +kernel
theorem dX8_measure_29 : decode cX8_measure 29 = .ok (.aload 5, 2) := by decide +kernel
theorem dX8_measure_31 : decode cX8_measure 31 = .ok (.getfield 225, 3) := by decide +kernel
theorem dX8_measure_34 : decode cX8_measure 34 = .ok (.iload 4, 2) := by decide +kernel
theorem dX8_measure_36 : decode cX8_measure 36 = .ok (.iaload, 1) := by decide +kernel
theorem dX8_measure_37 : decode cX8_measure 37 = .ok (.istore 6, 2) := by decide +kernel
theorem dX8_measure_39 : decode cX8_measure 39 = .ok (.aload 5, 2) := by decide +kernel
theorem dX8_measure_41 : decode cX8_measure 41 = .ok (.getfield 225, 3) := by decide +kernel
theorem dX8_measure_44 : decode cX8_measure 44 = .ok (.iload 4, 2) := by decide +kernel
theorem dX8_measure_46 : decode cX8_measure 46 = .ok (.iload_n 3, 1) := by decide +kernel
theorem dX8_measure_47 : decode cX8_measure 47 = .ok (.iastore, 1) := by decide +kernel
theorem dX8_measure_48 : decode cX8_measure 48 = .ok (.iload 6, 2) := by decide +kernel
theorem dX8_measure_50 : decode cX8_measure 50 = .ok (.ireturn, 1) := by decide +kernel
theorem dX8_propose_0 : decode cX8_propose 0 = .ok (.aload_n 0, 1) := by decide +kernel
theorem dX8_propose_1 : decode cX8_propose 1 = .ok (.iload_n 1, 1) := by decide +kernel
theorem dX8_propose_2 : decode cX8_propose 2 = .ok (.iload_n 2, 1) := by decide +kernel
theorem dX8_propose_3 : decode cX8_propose 3 = .ok (.invokevirtual 93, 3) := by decide +kernel
theorem dX8_propose_6 : decode cX8_propose 6 = .ok (.iload_n 3, 1) := by decide +kernel
theorem dX8_propose_7 : decode cX8_propose 7 = .ok (.sipush (-999), 3) := by decide +kernel
theorem dX8_propose_10 : decode cX8_propose 10 = .ok (.sipush 999, 3) := by decide +kernel
theorem dX8_propose_13 : decode cX8_propose 13 = .ok (.invokestatic 41, 3) := by decide +kernel
theorem dX8_propose_16 : decode cX8_propose 16 = .ok (.iload_n 3, 1) := by decide +kernel
theorem dX8_propose_17 : decode cX8_propose 17 = .ok (.ifCond .ne 13, 3) := by decide +kernel
theorem dX8_propose_20 : decode cX8_propose 20 = .ok (.new 228, 3) := by decide +kernel
theorem dX8_propose_23 : decode cX8_propose 23 = .ok (.dup, 1) := by decide +kernel
theorem dX8_propose_24 : decode cX8_propose 24 = .ok (.ldc 230, 2) := by decide +kernel
theorem dX8_propose_26 : decode cX8_propose 26 = .ok (.invokespecial 232, 3) := by decide +kernel
theorem dX8_propose_29 : decode cX8_propose 29 = .ok (.athrow, 1) := by decide +kernel
theorem dX8_propose_30 : decode cX8_propose 30 = .ok (.aload_n 0, 1) := by decide +kernel
theorem dX8_propose_31 : decode cX8_propose 31 = .ok (.invokevirtual 72, 3) := by decide +kernel
theorem dX8_propose_34 : decode cX8_propose 34 = .ok (.getfield 188, 3) := by decide +kernel
theorem dX8_propose_37 : decode cX8_propose 37 = .ok (.getfield 192, 3) := by decide +kernel
theorem dX8_propose_40 : decode cX8_propose 40 = .ok (.bipush 20, 2) := by decide +kernel
theorem dX8_propose_42 : decode cX8_propose 42 = .ok (.if_icmp .ge 7, 3) := by decide +kernel
theorem dX8_propose_45 : decode cX8_propose 45 = .ok (.iconst 1, 1) := by decide +kernel
theorem dX8_propose_46 : decode cX8_propose 46 = .ok (.goto 4, 3) := by decide +kernel
theorem dX8_propose_49 : decode cX8_propose 49 = .ok (.iconst 0, 1) := by decide +kernel
theorem dX8_propose_50 : decode cX8_propose 50 = .ok (.invokestatic 235, 3) := by decide +kernel
theorem dX8_propose_53 : decode cX8_propose 53 = .ok (.aload_n 0, 1) := by decide +kernel
theorem dX8_propose_54 : decode cX8_propose 54 = .ok (.invokevirtual 49, 3) := by decide +kernel
theorem dX8_propose_57 : decode cX8_propose 57 = .ok (.getfield 188, 3) := by decide +kernel
theorem dX8_propose_60 : decode cX8_propose 60 = .ok (.iload_n 1, 1) := by decide +kernel
theorem dX8_propose_61 : decode cX8_propose 61 = .ok (.iload_n 2, 1) := by decide +kernel
theorem dX8_propose_62 : decode cX8_propose 62 = .ok (.invokestatic 100, 3) := by decide +kernel
theorem dX8_propose_65 : decode cX8_propose 65 = .ok (.iload_n 3, 1) := by decide +kernel
theorem dX8_propose_66 : decode cX8_propose 66 = .ok (.invokevirtual 239, 3) := by decide +kernel
theorem dX8_propose_69 : decode cX8_propose 69 = .ok (.ireturn, 1) := by decide +kernel
theorem dX8_approve_0 : decode cX8_approve 0 = .ok (.aload_n 0, 1) := by decide +kernel
theorem dX8_approve_1 : decode cX8_approve 1 = .ok (.iload_n 1, 1) := by decide +kernel
theorem dX8_approve_2 : decode cX8_approve 2 = .ok (.invokevirtual 195, 3) := by decide +kernel
theorem dX8_approve_5 : decode cX8_approve 5 = .ok (.aload_n 0, 1) := by decide +kernel
theorem dX8_approve_6 : decode cX8_approve 6 = .ok (.invokevirtual 72, 3) := by decide +kernel
theorem dX8_approve_9 : decode cX8_approve 9 = .ok (.getfield 188, 3) := by decide +kernel
theorem dX8_approve_12 : decode cX8_approve 12 = .ok (.getfield 198, 3) := by decide +kernel
theorem dX8_approve_15 : decode cX8_approve 15 = .ok (.iload_n 1, 1) := by decide +kernel
theorem dX8_approve_16 : decode cX8_approve 16 = .ok (.baload, 1) := by decide +kernel
theorem dX8_approve_17 : decode cX8_approve 17 = .ok (.ifCond .ne 7, 3) := by decide +kernel
theorem dX8_approve_20 : decode cX8_approve 20 = .ok (.iconst 1, 1) := by decide +kernel
theorem dX8_approve_21 : decode cX8_approve 21 = .ok (.goto 4, 3) := by decide +kernel
theorem dX8_approve_24 : decode cX8_approve 24 = .ok (.iconst 0, 1) := by decide +kernel
theorem dX8_approve_25 : decode cX8_approve 25 = .ok (.invokestatic 235, 3) := by decide +kernel
theorem dX8_approve_28 : decode cX8_approve 28 = .ok (.aload_n 0, 1) := by decide +kernel
theorem dX8_approve_29 : decode cX8_approve 29 = .ok (.invokevirtual 72, 3) := by decide +kernel
theorem dX8_approve_32 : decode cX8_approve 32 = .ok (.iload_n 1, 1) := by decide +kernel
theorem dX8_approve_33 : decode cX8_approve 33 = .ok (.invokevirtual 242, 3) := by decide +kernel
theorem dX8_approve_36 : decode cX8_approve 36 = .ok (.istore_n 2, 1) := by decide +kernel
theorem dX8_approve_37 : decode cX8_approve 37 = .ok (.iload_n 2, 1) := by decide +kernel
theorem dX8_approve_38 : decode cX8_approve 38 = .ok (.ifCond .lt 7, 3) := by decide +kernel
theorem dX8_approve_41 : decode cX8_approve 41 = .ok (.iconst 1, 1) := by decide +kernel
theorem dX8_approve_42 : decode cX8_approve 42 = .ok (.goto 4, 3) := by decide +kernel
theorem dX8_approve_45 : decode cX8_approve 45 = .ok (.iconst 0, 1) := by decide +kernel
theorem dX8_approve_46 : decode cX8_approve 46 = .ok (.invokestatic 235, 3) := by decide +kernel
theorem dX8_approve_49 : decode cX8_approve 49 = .ok (.aload_n 0, 1) := by decide +kernel
theorem dX8_approve_50 : decode cX8_approve 50 = .ok (.invokevirtual 49, 3) := by decide +kernel
theorem dX8_approve_53 : decode cX8_approve 53 = .ok (.astore_n 3, 1) := by decide +kernel
theorem dX8_approve_54 : decode cX8_approve 54 = .ok (.aload_n 3, 1) := by decide +kernel
theorem dX8_approve_55 : decode cX8_approve 55 = .ok (.getfield 188, 3) := by decide +kernel
theorem dX8_approve_58 : decode cX8_approve 58 = .ok (.getfield 198, 3) := by decide +kernel
theorem dX8_approve_61 : decode cX8_approve 61 = .ok (.iload_n 1, 1) := by decide +kernel
theorem dX8_approve_62 : decode cX8_approve 62 = .ok (.iconst 1, 1) := by decide +kernel
theorem dX8_approve_63 : decode cX8_approve 63 = .ok (.bastore, 1) := by decide +kernel
theorem dX8_approve_64 : decode cX8_approve 64 = .ok (.aload_n 3, 1) := by decide +kernel
theorem dX8_approve_65 : decode cX8_approve 65 = .ok (.getfield 85, 3) := by decide +kernel
theorem dX8_approve_68 : decode cX8_approve 68 = .ok (.getfield 97, 3) := by decide +kernel
theorem dX8_approve_71 : decode cX8_approve 71 = .ok (.aload_n 3, 1) := by decide +kernel
theorem dX8_approve_72 : decode cX8_approve 72 = .ok (.getfield 188, 3) := by decide +kernel
theorem dX8_approve_75 : decode cX8_approve 75 = .ok (.getfield 245, 3) := by decide +kernel
theorem dX8_approve_78 : decode cX8_approve 78 = .ok (.iload_n 1, 1) := by decide +kernel
theorem dX8_approve_79 : decode cX8_approve 79 = .ok (.iaload, 1) := by decide +kernel
theorem dX8_approve_80 : decode cX8_approve 80 = .ok (.iload_n 2, 1) := by decide +kernel
theorem dX8_approve_81 : decode cX8_approve 81 = .ok (.iastore, 1) := by decide +kernel
theorem dX8_approve_82 : decode cX8_approve 82 = .ok (.iload_n 2, 1) := by decide +kernel
theorem dX8_approve_83 : decode cX8_approve 83 = .ok (.ireturn, 1) := by decide +kernel
theorem dX8_certify_0 : decode cX8_certify 0 = .ok (.aload_n 0, 1) := by decide +kernel
theorem dX8_certify_1 : decode cX8_certify 1 = .ok (.iload_n 1, 1) := by decide +kernel
theorem dX8_certify_2 : decode cX8_certify 2 = .ok (.invokevirtual 78, 3) := by decide +kernel
theorem dX8_certify_5 : decode cX8_certify 5 = .ok (.aload_n 0, 1) := by decide +kernel
theorem dX8_certify_6 : decode cX8_certify 6 = .ok (.invokevirtual 72, 3) := by decide +kernel
theorem dX8_certify_9 : decode cX8_certify 9 = .ok (.iload_n 1, 1) := by decide +kernel
theorem dX8_certify_10 : decode cX8_certify 10 = .ok (.invokevirtual 248, 3) := by decide +kernel
theorem dX8_certify_13 : decode cX8_certify 13 = .ok (.lstore_n 2, 1) := by decide +kernel
theorem dX8_certify_14 : decode cX8_certify 14 = .ok (.lload_n 2, 1) := by decide +kernel
theorem dX8_certify_15 : decode cX8_certify 15 = .ok (.lconst 0, 1) := by decide +kernel
theorem dX8_certify_16 : decode cX8_certify 16 = .ok (.lcmp, 1) := by decide +kernel
theorem dX8_certify_17 : decode cX8_certify 17 = .ok (.ifCond .le 22, 3) := by decide +kernel
theorem dX8_certify_20 : decode cX8_certify 20 = .ok (.aload_n 0, 1) := by decide +kernel
theorem dX8_certify_21 : decode cX8_certify 21 = .ok (.invokevirtual 72, 3) := by decide +kernel
theorem dX8_certify_24 : decode cX8_certify 24 = .ok (.getfield 130, 3) := by decide +kernel
theorem dX8_certify_27 : decode cX8_certify 27 = .ok (.getfield 158, 3) := by decide +kernel
theorem dX8_certify_30 : decode cX8_certify 30 = .ok (.bipush 40, 2) := by decide +kernel
theorem dX8_certify_32 : decode cX8_certify 32 = .ok (.if_icmp .ge 7, 3) := by decide +kernel
theorem dX8_certify_35 : decode cX8_certify 35 = .ok (.iconst 1, 1) := by decide +kernel
theorem dX8_certify_36 : decode cX8_certify 36 = .ok (.goto 4, 3) := by decide +kernel
theorem dX8_certify_39 : decode cX8_certify 39 = .ok (.iconst 0, 1) := by decide +kernel
theorem dX8_certify_40 : decode cX8_certify 40 = .ok (.invokestatic 235, 3) := by decide +kernel
theorem dX8_certify_43 : decode cX8_certify 43 = .ok (.aload_n 0, 1) := by decide +kernel
theorem dX8_certify_44 : decode cX8_certify 44 = .ok (.invokevirtual 49, 3) := by decide +kernel
theorem dX8_certify_47 : decode cX8_certify 47 = .ok (.astore 4, 2) := by decide +kernel
theorem dX8_certify_49 : decode cX8_certify 49 = .ok (.aload 4, 2) := by decide +kernel
theorem dX8_certify_51 : decode cX8_certify 51 = .ok (.getfield 75, 3) := by decide +kernel
theorem dX8_certify_54 : decode cX8_certify 54 = .ok (.aload 4, 2) := by decide +kernel
theorem dX8_certify_56 : decode cX8_certify 56 = .ok (.getfield 60, 3) := by decide +kernel
theorem dX8_certify_59 : decode cX8_certify 59 = .ok (.getfield 251, 3) := by decide +kernel
theorem dX8_certify_62 : decode cX8_certify 62 = .ok (.iload_n 1, 1) := by decide +kernel
theorem dX8_certify_63 : decode cX8_certify 63 = .ok (.iaload, 1) := by decide +kernel
theorem dX8_certify_64 : decode cX8_certify 64 = .ok (.iadd, 1) := by decide +kernel
theorem dX8_certify_65 : decode cX8_certify 65 = .ok (.istore 5, 2) := by decide +kernel
theorem dX8_certify_67 : decode cX8_certify 67 = .ok (.aload 4, 2) := by decide +kernel
theorem dX8_certify_69 : decode cX8_certify 69 = .ok (.getfield 130, 3) := by decide +kernel
theorem dX8_certify_72 : decode cX8_certify 72 = .ok (.iload_n 1, 1) := by decide +kernel
theorem dX8_certify_73 : decode cX8_certify 73 = .ok (.lload_n 2, 1) := by decide +kernel
theorem dX8_certify_74 : decode cX8_certify 74 = .ok (.aload 4, 2) := by decide +kernel
theorem dX8_certify_76 : decode cX8_certify 76 = .ok (.getfield 75, 3) := by decide +kernel
theorem dX8_certify_79 : decode cX8_certify 79 = .ok (.iload 5, 2) := by decide +kernel
theorem dX8_certify_81 : decode cX8_certify 81 = .ok (.invokevirtual 254, 3) := by decide +kernel
theorem dX8_certify_84 : decode cX8_certify 84 = .ok (.ireturn, 1) := by decide +kernel
theorem dX8_nextStage_0 : decode cX8_nextStage 0 = .ok (.aload_n 0, 1) := by decide +kernel
theorem dX8_nextStage_1 : decode cX8_nextStage 1 = .ok (.iload_n 1, 1) := by decide +kernel
theorem dX8_nextStage_2 : decode cX8_nextStage 2 = .ok (.invokevirtual 78, 3) := by decide +kernel
theorem dX8_nextStage_5 : decode cX8_nextStage 5 = .ok (.aload_n 0, 1) := by decide +kernel
theorem dX8_nextStage_6 : decode cX8_nextStage 6 = .ok (.invokevirtual 72, 3) := by decide +kernel
theorem dX8_nextStage_9 : decode cX8_nextStage 9 = .ok (.getfield 60, 3) := by decide +kernel
theorem dX8_nextStage_12 : decode cX8_nextStage 12 = .ok (.getfield 145, 3) := by decide +kernel
theorem dX8_nextStage_15 : decode cX8_nextStage 15 = .ok (.iload_n 1, 1) := by decide +kernel
theorem dX8_nextStage_16 : decode cX8_nextStage 16 = .ok (.iaload, 1) := by decide +kernel
theorem dX8_nextStage_17 : decode cX8_nextStage 17 = .ok (.istore_n 2, 1) := by decide +kernel
theorem dX8_nextStage_18 : decode cX8_nextStage 18 = .ok (.iload_n 2, 1) := by decide +kernel
theorem dX8_nextStage_19 : decode cX8_nextStage 19 = .ok (.iconst 2, 1) := by decide +kernel
theorem dX8_nextStage_20 : decode cX8_nextStage 20 = .ok (.if_icmp .ge 7, 3) := by decide +kernel
theorem dX8_nextStage_23 : decode cX8_nextStage 23 = .ok (.iconst 1, 1) := by decide +kernel
theorem dX8_nextStage_24 : decode cX8_nextStage 24 = .ok (.goto 4, 3) := by decide +kernel
theorem dX8_nextStage_27 : decode cX8_nextStage 27 = .ok (.iconst 0, 1) := by decide +kernel
theorem dX8_nextStage_28 : decode cX8_nextStage 28 = .ok (.invokestatic 235, 3) := by decide +kernel
theorem dX8_nextStage_31 : decode cX8_nextStage 31 = .ok (.iload_n 2, 1) := by decide +kernel
theorem dX8_nextStage_32 : decode cX8_nextStage 32 = .ok (.ifCond .gt 17, 3) := by decide +kernel
theorem dX8_nextStage_35 : decode cX8_nextStage 35 = .ok (.aload_n 0, 1) := by decide +kernel
theorem dX8_nextStage_36 : decode cX8_nextStage 36 = .ok (.invokevirtual 72, 3) := by decide +kernel
theorem dX8_nextStage_39 : decode cX8_nextStage 39 = .ok (.getfield 85, 3) := by decide +kernel
theorem dX8_nextStage_42 : decode cX8_nextStage 42 = .ok (.iload_n 1, 1) := by decide +kernel
theorem dX8_nextStage_43 : decode cX8_nextStage 43 = .ok (.invokevirtual 257, 3) := by decide +kernel
theorem dX8_nextStage_46 : decode cX8_nextStage 46 = .ok (.ifCond .eq 7, 3) := by decide +kernel
theorem dX8_nextStage_49 : decode cX8_nextStage 49 = .ok (.iconst 1, 1) := by decide +kernel
theorem dX8_nextStage_50 : decode cX8_nextStage 50 = .ok (.goto 4, 3) := by decide +kernel
theorem dX8_nextStage_53 : decode cX8_nextStage 53 = .ok (.iconst 0, 1) := by decide +kernel
theorem dX8_nextStage_54 : decode cX8_nextStage 54 = .ok (.invokestatic 235, 3) := by decide +kernel
theorem dX8_nextStage_57 : decode cX8_nextStage 57 = .ok (.aload_n 0, 1) := by decide +kernel
theorem dX8_nextStage_58 : decode cX8_nextStage 58 = .ok (.invokevirtual 49, 3) := by decide +kernel
theorem dX8_nextStage_61 : decode cX8_nextStage 61 = .ok (.getfield 60, 3) := by decide +kernel
theorem dX8_nextStage_64 : decode cX8_nextStage 64 = .ok (.getfield 145, 3) := by decide +kernel
theorem dX8_nextStage_67 : decode cX8_nextStage 67 = .ok (.iload_n 1, 1) := by decide +kernel
theorem dX8_nextStage_68 : decode cX8_nextStage 68 = .ok (.iload_n 2, 1) := by decide +kernel
theorem dX8_nextStage_69 : decode cX8_nextStage 69 = .ok (.iconst 1, 1) := by decide +kernel
theorem dX8_nextStage_70 : decode cX8_nextStage 70 = .ok (.iadd, 1) := by decide +kernel
theorem dX8_nextStage_71 : decode cX8_nextStage 71 = .ok (.iastore, 1) := by decide +kernel
theorem dX8_nextStage_72 : decode cX8_nextStage 72 = .ok (.iload_n 2, 1) := by decide +kernel
theorem dX8_nextStage_73 : decode cX8_nextStage 73 = .ok (.iconst 1, 1) := by decide +kernel
theorem dX8_nextStage_74 : decode cX8_nextStage 74 = .ok (.iadd, 1) := by decide +kernel
theorem dX8_nextStage_75 : decode cX8_nextStage 75 = .ok (.ireturn, 1) := by decide +kernel
theorem dX8_pay_0 : decode cX8_pay 0 = .ok (.aload_n 0, 1) := by decide +kernel
theorem dX8_pay_1 : decode cX8_pay 1 = .ok (.iload_n 1, 1) := by decide +kernel
theorem dX8_pay_2 : decode cX8_pay 2 = .ok (.invokevirtual 159, 3) := by decide +kernel
theorem dX8_pay_5 : decode cX8_pay 5 = .ok (.iload_n 2, 1) := by decide +kernel
theorem dX8_pay_6 : decode cX8_pay 6 = .ok (.iconst 1, 1) := by decide +kernel
theorem dX8_pay_7 : decode cX8_pay 7 = .ok (.if_icmp .lt 21, 3) := by decide +kernel
theorem dX8_pay_10 : decode cX8_pay 10 = .ok (.iload_n 2, 1) := by decide +kernel
theorem dX8_pay_11 : decode cX8_pay 11 = .ok (.i2l, 1) := by decide +kernel
theorem dX8_pay_12 : decode cX8_pay 12 = .ok (.aload_n 0, 1) := by decide +kernel
theorem dX8_pay_13 : decode cX8_pay 13 = .ok (.invokevirtual 72, 3) := by decide +kernel
theorem dX8_pay_16 : decode cX8_pay 16 = .ok (.getfield 130, 3) := by decide +kernel
theorem dX8_pay_19 : decode cX8_pay 19 = .ok (.getfield 168, 3) := by decide +kernel
theorem dX8_pay_22 : decode cX8_pay 22 = .ok (.iload_n 1, 1) := by decide +kernel
theorem dX8_pay_23 : decode cX8_pay 23 = .ok (.laload, 1) := by decide +kernel
theorem dX8_pay_24 : decode cX8_pay 24 = .ok (.lcmp, 1) := by decide +kernel
theorem dX8_pay_25 : decode cX8_pay 25 = .ok (.ifCond .le 14, 3) := by decide +kernel
theorem dX8_pay_28 : decode cX8_pay 28 = .ok (.new 228, 3) := by decide +kernel
theorem dX8_pay_31 : decode cX8_pay 31 = .ok (.dup, 1) := by decide +kernel
theorem dX8_pay_32 : decode cX8_pay 32 = .ok (.ldc_w 260, 3) := by decide +kernel
theorem dX8_pay_35 : decode cX8_pay 35 = .ok (.invokespecial 232, 3) := by decide +kernel
theorem dX8_pay_38 : decode cX8_pay 38 = .ok (.athrow, 1) := by decide +kernel
theorem dX8_pay_39 : decode cX8_pay 39 = .ok (.aload_n 0, 1) := by decide +kernel
theorem dX8_pay_40 : decode cX8_pay 40 = .ok (.invokevirtual 72, 3) := by decide +kernel
theorem dX8_pay_43 : decode cX8_pay 43 = .ok (.iload_n 1, 1) := by decide +kernel
theorem dX8_pay_44 : decode cX8_pay 44 = .ok (.invokevirtual 174, 3) := by decide +kernel
theorem dX8_pay_47 : decode cX8_pay 47 = .ok (.ifCond .ne 7, 3) := by decide +kernel
theorem dX8_pay_50 : decode cX8_pay 50 = .ok (.iconst 1, 1) := by decide +kernel
theorem dX8_pay_51 : decode cX8_pay 51 = .ok (.goto 4, 3) := by decide +kernel
theorem dX8_pay_54 : decode cX8_pay 54 = .ok (.iconst 0, 1) := by decide +kernel
theorem dX8_pay_55 : decode cX8_pay 55 = .ok (.invokestatic 235, 3) := by decide +kernel
theorem dX8_pay_58 : decode cX8_pay 58 = .ok (.aload_n 0, 1) := by decide +kernel
theorem dX8_pay_59 : decode cX8_pay 59 = .ok (.invokevirtual 72, 3) := by decide +kernel
theorem dX8_pay_62 : decode cX8_pay 62 = .ok (.iload_n 1, 1) := by decide +kernel
theorem dX8_pay_63 : decode cX8_pay 63 = .ok (.invokevirtual 262, 3) := by decide +kernel
theorem dX8_pay_66 : decode cX8_pay 66 = .ok (.iload_n 2, 1) := by decide +kernel
theorem dX8_pay_67 : decode cX8_pay 67 = .ok (.i2l, 1) := by decide +kernel
theorem dX8_pay_68 : decode cX8_pay 68 = .ok (.lcmp, 1) := by decide +kernel
theorem dX8_pay_69 : decode cX8_pay 69 = .ok (.ifCond .lt 7, 3) := by decide +kernel
theorem dX8_pay_72 : decode cX8_pay 72 = .ok (.iconst 1, 1) := by decide +kernel
theorem dX8_pay_73 : decode cX8_pay 73 = .ok (.goto 4, 3) := by decide +kernel
theorem dX8_pay_76 : decode cX8_pay 76 = .ok (.iconst 0, 1) := by decide +kernel
theorem dX8_pay_77 : decode cX8_pay 77 = .ok (.invokestatic 235, 3) := by decide +kernel
theorem dX8_pay_80 : decode cX8_pay 80 = .ok (.aload_n 0, 1) := by decide +kernel
theorem dX8_pay_81 : decode cX8_pay 81 = .ok (.invokevirtual 49, 3) := by decide +kernel
theorem dX8_pay_84 : decode cX8_pay 84 = .ok (.astore_n 3, 1) := by decide +kernel
theorem dX8_pay_85 : decode cX8_pay 85 = .ok (.aload_n 3, 1) := by decide +kernel
theorem dX8_pay_86 : decode cX8_pay 86 = .ok (.iload_n 1, 1) := by decide +kernel
theorem dX8_pay_87 : decode cX8_pay 87 = .ok (.iload_n 2, 1) := by decide +kernel
theorem dX8_pay_88 : decode cX8_pay 88 = .ok (.i2l, 1) := by decide +kernel
theorem dX8_pay_89 : decode cX8_pay 89 = .ok (.invokevirtual 265, 3) := by decide +kernel
theorem dX8_pay_92 : decode cX8_pay 92 = .ok (.aload_n 3, 1) := by decide +kernel
theorem dX8_pay_93 : decode cX8_pay 93 = .ok (.getfield 130, 3) := by decide +kernel
theorem dX8_pay_96 : decode cX8_pay 96 = .ok (.getfield 168, 3) := by decide +kernel
theorem dX8_pay_99 : decode cX8_pay 99 = .ok (.iload_n 1, 1) := by decide +kernel
theorem dX8_pay_100 : decode cX8_pay 100 = .ok (.laload, 1) := by decide +kernel
theorem dX8_pay_101 : decode cX8_pay 101 = .ok (.lreturn, 1) := by decide +kernel
theorem dX8_deposit_0 : decode cX8_deposit 0 = .ok (.iload_n 1, 1) := by decide +kernel
theorem dX8_deposit_1 : decode cX8_deposit 1 = .ok (.iconst 1, 1) := by decide +kernel
theorem dX8_deposit_2 : decode cX8_deposit 2 = .ok (.ldc_w 269, 3) := by decide +kernel
theorem dX8_deposit_5 : decode cX8_deposit 5 = .ok (.invokestatic 41, 3) := by decide +kernel
theorem dX8_deposit_8 : decode cX8_deposit 8 = .ok (.aload_n 0, 1) := by decide +kernel
theorem dX8_deposit_9 : decode cX8_deposit 9 = .ok (.invokevirtual 270, 3) := by decide +kernel
theorem dX8_deposit_12 : decode cX8_deposit 12 = .ok (.aload_n 0, 1) := by decide +kernel
theorem dX8_deposit_13 : decode cX8_deposit 13 = .ok (.invokevirtual 72, 3) := by decide +kernel
theorem dX8_deposit_16 : decode cX8_deposit 16 = .ok (.getfield 154, 3) := by decide +kernel
theorem dX8_deposit_19 : decode cX8_deposit 19 = .ok (.iconst 0, 1) := by decide +kernel
theorem dX8_deposit_20 : decode cX8_deposit 20 = .ok (.laload, 1) := by decide +kernel
theorem dX8_deposit_21 : decode cX8_deposit 21 = .ok (.iload_n 1, 1) := by decide +kernel
theorem dX8_deposit_22 : decode cX8_deposit 22 = .ok (.i2l, 1) := by decide +kernel
theorem dX8_deposit_23 : decode cX8_deposit 23 = .ok (.ladd, 1) := by decide +kernel
theorem dX8_deposit_24 : decode cX8_deposit 24 = .ok (.lstore_n 2, 1) := by decide +kernel
theorem dX8_deposit_25 : decode cX8_deposit 25 = .ok (.lload_n 2, 1) := by decide +kernel
theorem dX8_deposit_26 : decode cX8_deposit 26 = .ok (.ldc2_w 273, 3) := by decide +kernel
theorem dX8_deposit_29 : decode cX8_deposit 29 = .ok (.lcmp, 1) := by decide +kernel
theorem dX8_deposit_30 : decode cX8_deposit 30 = .ok (.ifCond .gt 7, 3) := by decide +kernel
theorem dX8_deposit_33 : decode cX8_deposit 33 = .ok (.iconst 1, 1) := by decide +kernel
theorem dX8_deposit_34 : decode cX8_deposit 34 = .ok (.goto 4, 3) := by decide +kernel
theorem dX8_deposit_37 : decode cX8_deposit 37 = .ok (.iconst 0, 1) := by decide +kernel
theorem dX8_deposit_38 : decode cX8_deposit 38 = .ok (.invokestatic 235, 3) := by decide +kernel
theorem dX8_deposit_41 : decode cX8_deposit 41 = .ok (.aload_n 0, 1) := by decide +kernel
theorem dX8_deposit_42 : decode cX8_deposit 42 = .ok (.invokevirtual 49, 3) := by decide +kernel
theorem dX8_deposit_45 : decode cX8_deposit 45 = .ok (.getfield 154, 3) := by decide +kernel
theorem dX8_deposit_48 : decode cX8_deposit 48 = .ok (.iconst 0, 1) := by decide +kernel
theorem dX8_deposit_49 : decode cX8_deposit 49 = .ok (.lload_n 2, 1) := by decide +kernel
theorem dX8_deposit_50 : decode cX8_deposit 50 = .ok (.lastore, 1) := by decide +kernel
theorem dX8_deposit_51 : decode cX8_deposit 51 = .ok (.lload_n 2, 1) := by decide +kernel
theorem dX8_deposit_52 : decode cX8_deposit 52 = .ok (.lreturn, 1) := by decide +kernel
theorem dX8_pass_0 : decode cX8_pass 0 = .ok (.iload_n 1, 1) := by decide +kernel
theorem dX8_pass_1 : decode cX8_pass 1 = .ok (.iconst 1, 1) := by decide +kernel
theorem dX8_pass_2 : decode cX8_pass 2 = .ok (.sipush 365, 3) := by decide +kernel
theorem dX8_pass_5 : decode cX8_pass 5 = .ok (.invokestatic 41, 3) := by decide +kernel
theorem dX8_pass_8 : decode cX8_pass 8 = .ok (.aload_n 0, 1) := by decide +kernel
theorem dX8_pass_9 : decode cX8_pass 9 = .ok (.invokevirtual 270, 3) := by decide +kernel
theorem dX8_pass_12 : decode cX8_pass 12 = .ok (.aload_n 0, 1) := by decide +kernel
theorem dX8_pass_13 : decode cX8_pass 13 = .ok (.invokevirtual 72, 3) := by decide +kernel
theorem dX8_pass_16 : decode cX8_pass 16 = .ok (.getfield 75, 3) := by decide +kernel
theorem dX8_pass_19 : decode cX8_pass 19 = .ok (.iload_n 1, 1) := by decide +kernel
theorem dX8_pass_20 : decode cX8_pass 20 = .ok (.iadd, 1) := by decide +kernel
theorem dX8_pass_21 : decode cX8_pass 21 = .ok (.istore_n 2, 1) := by decide +kernel
theorem dX8_pass_22 : decode cX8_pass 22 = .ok (.iload_n 2, 1) := by decide +kernel
theorem dX8_pass_23 : decode cX8_pass 23 = .ok (.ldc_w 275, 3) := by decide +kernel
theorem dX8_pass_26 : decode cX8_pass 26 = .ok (.if_icmp .gt 7, 3) := by decide +kernel
theorem dX8_pass_29 : decode cX8_pass 29 = .ok (.iconst 1, 1) := by decide +kernel
theorem dX8_pass_30 : decode cX8_pass 30 = .ok (.goto 4, 3) := by decide +kernel
theorem dX8_pass_33 : decode cX8_pass 33 = .ok (.iconst 0, 1) := by decide +kernel
theorem dX8_pass_34 : decode cX8_pass 34 = .ok (.invokestatic 235, 3) := by decide +kernel
theorem dX8_pass_37 : decode cX8_pass 37 = .ok (.aload_n 0, 1) := by decide +kernel
theorem dX8_pass_38 : decode cX8_pass 38 = .ok (.invokevirtual 49, 3) := by decide +kernel
theorem dX8_pass_41 : decode cX8_pass 41 = .ok (.iload_n 2, 1) := by decide +kernel
theorem dX8_pass_42 : decode cX8_pass 42 = .ok (.putfield 75, 3) := by decide +kernel
theorem dX8_pass_45 : decode cX8_pass 45 = .ok (.iload_n 2, 1) := by decide +kernel
theorem dX8_pass_46 : decode cX8_pass 46 = .ok (.ireturn, 1) := by decide +kernel
theorem dX8_settle_0 : decode cX8_settle 0 = .ok (.iload_n 1, 1) := by decide +kernel
theorem dX8_settle_1 : decode cX8_settle 1 = .ok (.iconst 1, 1) := by decide +kernel
theorem dX8_settle_2 : decode cX8_settle 2 = .ok (.bipush 100, 2) := by decide +kernel
theorem dX8_settle_4 : decode cX8_settle 4 = .ok (.invokestatic 41, 3) := by decide +kernel
theorem dX8_settle_7 : decode cX8_settle 7 = .ok (.aload_n 0, 1) := by decide +kernel
theorem dX8_settle_8 : decode cX8_settle 8 = .ok (.invokevirtual 270, 3) := by decide +kernel
theorem dX8_settle_11 : decode cX8_settle 11 = .ok (.aload_n 0, 1) := by decide +kernel
theorem dX8_settle_12 : decode cX8_settle 12 = .ok (.invokevirtual 72, 3) := by decide +kernel
theorem dX8_settle_15 : decode cX8_settle 15 = .ok (.getfield 75, 3) := by decide +kernel
theorem dX8_settle_18 : decode cX8_settle 18 = .ok (.iload_n 1, 1) := by decide +kernel
theorem dX8_settle_19 : decode cX8_settle 19 = .ok (.iadd, 1) := by decide +kernel
theorem dX8_settle_20 : decode cX8_settle 20 = .ok (.ldc_w 275, 3) := by decide +kernel
theorem dX8_settle_23 : decode cX8_settle 23 = .ok (.if_icmp .gt 7, 3) := by decide +kernel
theorem dX8_settle_26 : decode cX8_settle 26 = .ok (.iconst 1, 1) := by decide +kernel
theorem dX8_settle_27 : decode cX8_settle 27 = .ok (.goto 4, 3) := by decide +kernel
theorem dX8_settle_30 : decode cX8_settle 30 = .ok (.iconst 0, 1) := by decide +kernel
theorem dX8_settle_31 : decode cX8_settle 31 = .ok (.invokestatic 235, 3) := by decide +kernel
theorem dX8_settle_34 : decode cX8_settle 34 = .ok (.aload_n 0, 1) := by decide +kernel
theorem dX8_settle_35 : decode cX8_settle 35 = .ok (.invokevirtual 49, 3) := by decide +kernel
theorem dX8_settle_38 : decode cX8_settle 38 = .ok (.iload_n 1, 1) := by decide +kernel
theorem dX8_settle_39 : decode cX8_settle 39 = .ok (.iconst (-1), 1) := by decide +kernel
theorem dX8_settle_40 : decode cX8_settle 40 = .ok (.invokevirtual 182, 3) := by decide +kernel
theorem dX8_settle_43 : decode cX8_settle 43 = .ok (.lreturn, 1) := by decide +kernel
theorem dX8_fileLien_0 : decode cX8_fileLien 0 = .ok (.aload_n 0, 1) := by decide +kernel
theorem dX8_fileLien_1 : decode cX8_fileLien 1 = .ok (.iload_n 1, 1) := by decide +kernel
theorem dX8_fileLien_2 : decode cX8_fileLien 2 = .ok (.invokevirtual 78, 3) := by decide +kernel
theorem dX8_fileLien_5 : decode cX8_fileLien 5 = .ok (.aload_n 0, 1) := by decide +kernel
theorem dX8_fileLien_6 : decode cX8_fileLien 6 = .ok (.invokevirtual 72, 3) := by decide +kernel
theorem dX8_fileLien_9 : decode cX8_fileLien 9 = .ok (.iload_n 1, 1) := by decide +kernel
theorem dX8_fileLien_10 : decode cX8_fileLien 10 = .ok (.invokevirtual 142, 3) := by decide +kernel
theorem dX8_fileLien_13 : decode cX8_fileLien 13 = .ok (.lstore_n 2, 1) := by decide +kernel
theorem dX8_fileLien_14 : decode cX8_fileLien 14 = .ok (.lload_n 2, 1) := by decide +kernel
theorem dX8_fileLien_15 : decode cX8_fileLien 15 = .ok (.lconst 0, 1) := by decide +kernel
theorem dX8_fileLien_16 : decode cX8_fileLien 16 = .ok (.lcmp, 1) := by decide +kernel
theorem dX8_fileLien_17 : decode cX8_fileLien 17 = .ok (.ifCond .le 18, 3) := by decide +kernel
theorem dX8_fileLien_20 : decode cX8_fileLien 20 = .ok (.aload_n 0, 1) := by decide +kernel
theorem dX8_fileLien_21 : decode cX8_fileLien 21 = .ok (.invokevirtual 72, 3) := by decide +kernel
theorem dX8_fileLien_24 : decode cX8_fileLien 24 = .ok (.iload_n 1, 1) := by decide +kernel
theorem dX8_fileLien_25 : decode cX8_fileLien 25 = .ok (.invokevirtual 276, 3) := by decide +kernel
theorem dX8_fileLien_28 : decode cX8_fileLien 28 = .ok (.ifCond .ne 7, 3) := by decide +kernel
theorem dX8_fileLien_31 : decode cX8_fileLien 31 = .ok (.iconst 1, 1) := by decide +kernel
theorem dX8_fileLien_32 : decode cX8_fileLien 32 = .ok (.goto 4, 3) := by decide +kernel
theorem dX8_fileLien_35 : decode cX8_fileLien 35 = .ok (.iconst 0, 1) := by decide +kernel
theorem dX8_fileLien_36 : decode cX8_fileLien 36 = .ok (.invokestatic 235, 3) := by decide +kernel
theorem dX8_fileLien_39 : decode cX8_fileLien 39 = .ok (.aload_n 0, 1) := by decide +kernel
theorem dX8_fileLien_40 : decode cX8_fileLien 40 = .ok (.invokevirtual 72, 3) := by decide +kernel
theorem dX8_fileLien_43 : decode cX8_fileLien 43 = .ok (.getfield 205, 3) := by decide +kernel
theorem dX8_fileLien_46 : decode cX8_fileLien 46 = .ok (.getfield 209, 3) := by decide +kernel
theorem dX8_fileLien_49 : decode cX8_fileLien 49 = .ok (.bipush 12, 2) := by decide +kernel
theorem dX8_fileLien_51 : decode cX8_fileLien 51 = .ok (.if_icmp .ge 7, 3) := by decide +kernel
theorem dX8_fileLien_54 : decode cX8_fileLien 54 = .ok (.iconst 1, 1) := by decide +kernel
theorem dX8_fileLien_55 : decode cX8_fileLien 55 = .ok (.goto 4, 3) := by decide +kernel
theorem dX8_fileLien_58 : decode cX8_fileLien 58 = .ok (.iconst 0, 1) := by decide +kernel
theorem dX8_fileLien_59 : decode cX8_fileLien 59 = .ok (.invokestatic 235, 3) := by decide +kernel
theorem dX8_fileLien_62 : decode cX8_fileLien 62 = .ok (.aload_n 0, 1) := by decide +kernel
theorem dX8_fileLien_63 : decode cX8_fileLien 63 = .ok (.invokevirtual 49, 3) := by decide +kernel
theorem dX8_fileLien_66 : decode cX8_fileLien 66 = .ok (.astore 4, 2) := by decide +kernel
theorem dX8_fileLien_68 : decode cX8_fileLien 68 = .ok (.aload 4, 2) := by decide +kernel
theorem dX8_fileLien_70 : decode cX8_fileLien 70 = .ok (.getfield 205, 3) := by decide +kernel
theorem dX8_fileLien_73 : decode cX8_fileLien 73 = .ok (.iload_n 1, 1) := by decide +kernel
theorem dX8_fileLien_74 : decode cX8_fileLien 74 = .ok (.lload_n 2, 1) := by decide +kernel
theorem dX8_fileLien_75 : decode cX8_fileLien 75 = .ok (.aload 4, 2) := by decide +kernel
theorem dX8_fileLien_77 : decode cX8_fileLien 77 = .ok (.getfield 75, 3) := by decide +kernel
theorem dX8_fileLien_80 : decode cX8_fileLien 80 = .ok (.invokevirtual 279, 3) := by decide +kernel
theorem dX8_fileLien_83 : decode cX8_fileLien 83 = .ok (.ireturn, 1) := by decide +kernel
theorem dX8_withdrawLien_0 : decode cX8_withdrawLien 0 = .ok (.aload_n 0, 1) := by decide +kernel
theorem dX8_withdrawLien_1 : decode cX8_withdrawLien 1 = .ok (.iload_n 1, 1) := by decide +kernel
theorem dX8_withdrawLien_2 : decode cX8_withdrawLien 2 = .ok (.invokevirtual 212, 3) := by decide +kernel
theorem dX8_withdrawLien_5 : decode cX8_withdrawLien 5 = .ok (.aload_n 0, 1) := by decide +kernel
theorem dX8_withdrawLien_6 : decode cX8_withdrawLien 6 = .ok (.invokevirtual 72, 3) := by decide +kernel
theorem dX8_withdrawLien_9 : decode cX8_withdrawLien 9 = .ok (.getfield 205, 3) := by decide +kernel
theorem dX8_withdrawLien_12 : decode cX8_withdrawLien 12 = .ok (.getfield 282, 3) := by decide +kernel
theorem dX8_withdrawLien_15 : decode cX8_withdrawLien 15 = .ok (.iload_n 1, 1) := by decide +kernel
theorem dX8_withdrawLien_16 : decode cX8_withdrawLien 16 = .ok (.baload, 1) := by decide +kernel
theorem dX8_withdrawLien_17 : decode cX8_withdrawLien 17 = .ok (.ifCond .ne 7, 3) := by decide +kernel
theorem dX8_withdrawLien_20 : decode cX8_withdrawLien 20 = .ok (.iconst 1, 1) := by decide +kernel
theorem dX8_withdrawLien_21 : decode cX8_withdrawLien 21 = .ok (.goto 4, 3) := by decide +kernel
theorem dX8_withdrawLien_24 : decode cX8_withdrawLien 24 = .ok (.iconst 0, 1) := by decide +kernel
theorem dX8_withdrawLien_25 : decode cX8_withdrawLien 25 = .ok (.invokestatic 235, 3) := by decide +kernel
theorem dX8_withdrawLien_28 : decode cX8_withdrawLien 28 = .ok (.aload_n 0, 1) := by decide +kernel
theorem dX8_withdrawLien_29 : decode cX8_withdrawLien 29 = .ok (.invokevirtual 72, 3) := by decide +kernel
theorem dX8_withdrawLien_32 : decode cX8_withdrawLien 32 = .ok (.iload_n 1, 1) := by decide +kernel
theorem dX8_withdrawLien_33 : decode cX8_withdrawLien 33 = .ok (.invokevirtual 215, 3) := by decide +kernel
theorem dX8_withdrawLien_36 : decode cX8_withdrawLien 36 = .ok (.lstore_n 2, 1) := by decide +kernel
theorem dX8_withdrawLien_37 : decode cX8_withdrawLien 37 = .ok (.aload_n 0, 1) := by decide +kernel
theorem dX8_withdrawLien_38 : decode cX8_withdrawLien 38 = .ok (.invokevirtual 49, 3) := by decide +kernel
theorem dX8_withdrawLien_41 : decode cX8_withdrawLien 41 = .ok (.getfield 205, 3) := by decide +kernel
theorem dX8_withdrawLien_44 : decode cX8_withdrawLien 44 = .ok (.getfield 282, 3) := by decide +kernel
theorem dX8_withdrawLien_47 : decode cX8_withdrawLien 47 = .ok (.iload_n 1, 1) := by decide +kernel
theorem dX8_withdrawLien_48 : decode cX8_withdrawLien 48 = .ok (.iconst 1, 1) := by decide +kernel
theorem dX8_withdrawLien_49 : decode cX8_withdrawLien 49 = .ok (.bastore, 1) := by decide +kernel
theorem dX8_withdrawLien_50 : decode cX8_withdrawLien 50 = .ok (.lload_n 2, 1) := by decide +kernel
theorem dX8_withdrawLien_51 : decode cX8_withdrawLien 51 = .ok (.lreturn, 1) := by decide +kernel
theorem dX8_undo_0 : decode cX8_undo 0 = .ok (.aload_n 0, 1) := by decide +kernel
theorem dX8_undo_1 : decode cX8_undo 1 = .ok (.getfield 26, 3) := by decide +kernel
theorem dX8_undo_4 : decode cX8_undo 4 = .ok (.ifCond .ne 5, 3) := by decide +kernel
theorem dX8_undo_7 : decode cX8_undo 7 = .ok (.iconst (-1), 1) := by decide +kernel
theorem dX8_undo_8 : decode cX8_undo 8 = .ok (.ireturn, 1) := by decide +kernel
theorem dX8_undo_9 : decode cX8_undo 9 = .ok (.aload_n 0, 1) := by decide +kernel
theorem dX8_undo_10 : decode cX8_undo 10 = .ok (.aload_n 0, 1) := by decide +kernel
theorem dX8_undo_11 : decode cX8_undo 11 = .ok (.getfield 22, 3) := by decide +kernel
theorem dX8_undo_14 : decode cX8_undo 14 = .ok (.ifCond .ne 8, 3) := by decide +kernel
theorem dX8_undo_17 : decode cX8_undo 17 = .ok (.bipush 8, 2) := by decide +kernel
theorem dX8_undo_19 : decode cX8_undo 19 = .ok (.goto 9, 3) := by decide +kernel
theorem dX8_undo_22 : decode cX8_undo 22 = .ok (.aload_n 0, 1) := by decide +kernel
theorem dX8_undo_23 : decode cX8_undo 23 = .ok (.getfield 22, 3) := by decide +kernel
theorem dX8_undo_26 : decode cX8_undo 26 = .ok (.iconst 1, 1) := by decide +kernel
theorem dX8_undo_27 : decode cX8_undo 27 = .ok (.isub, 1) := by decide +kernel
theorem dX8_undo_28 : decode cX8_undo 28 = .ok (.putfield 22, 3) := by decide +kernel
theorem dX8_undo_31 : decode cX8_undo 31 = .ok (.aload_n 0, 1) := by decide +kernel
theorem dX8_undo_32 : decode cX8_undo 32 = .ok (.dup, 1) := by decide +kernel
theorem dX8_undo_33 : decode cX8_undo 33 = .ok (.getfield 26, 3) := by decide +kernel
theorem dX8_undo_36 : decode cX8_undo 36 = .ok (.iconst 1, 1) := by decide +kernel
theorem dX8_undo_37 : decode cX8_undo 37 = .ok (.isub, 1) := by decide +kernel
theorem dX8_undo_38 : decode cX8_undo 38 = .ok (.putfield 26, 3) := by decide +kernel
theorem dX8_undo_41 : decode cX8_undo 41 = .ok (.aload_n 0, 1) := by decide +kernel
theorem dX8_undo_42 : decode cX8_undo 42 = .ok (.getfield 26, 3) := by decide +kernel
theorem dX8_undo_45 : decode cX8_undo 45 = .ok (.ireturn, 1) := by decide +kernel
theorem dX8_checksum_0 : decode cX8_checksum 0 = .ok (.aload_n 0, 1) := by decide +kernel
theorem dX8_checksum_1 : decode cX8_checksum 1 = .ok (.invokevirtual 72, 3) := by decide +kernel
theorem dX8_checksum_4 : decode cX8_checksum 4 = .ok (.invokevirtual 285, 3) := by decide +kernel
theorem dX8_checksum_7 : decode cX8_checksum 7 = .ok (.lreturn, 1) := by decide +kernel
theorem dX8_project_0 : decode cX8_project 0 = .ok (.aload_n 0, 1) := by decide +kernel
theorem dX8_project_1 : decode cX8_project 1 = .ok (.getfield 18, 3) := by decide +kernel
theorem dX8_project_4 : decode cX8_project 4 = .ok (.aload_n 0, 1) := by decide +kernel
theorem dX8_project_5 : decode cX8_project 5 = .ok (.getfield 22, 3) := by decide +kernel
theorem dX8_project_8 : decode cX8_project 8 = .ok (.aaload, 1) := by decide +kernel
theorem dX8_project_9 : decode cX8_project 9 = .ok (.areturn, 1) := by decide +kernel
theorem dX8_beginChange_0 : decode cX8_beginChange 0 = .ok (.aload_n 0, 1) := by decide +kernel
theorem dX8_beginChange_1 : decode cX8_beginChange 1 = .ok (.invokevirtual 72, 3) := by decide +kernel
theorem dX8_beginChange_4 : decode cX8_beginChange 4 = .ok (.astore_n 1, 1) := by decide +kernel
theorem dX8_beginChange_5 : decode cX8_beginChange 5 = .ok (.aload_n 0, 1) := by decide +kernel
theorem dX8_beginChange_6 : decode cX8_beginChange 6 = .ok (.aload_n 0, 1) := by decide +kernel
theorem dX8_beginChange_7 : decode cX8_beginChange 7 = .ok (.getfield 22, 3) := by decide +kernel
theorem dX8_beginChange_10 : decode cX8_beginChange 10 = .ok (.iconst 1, 1) := by decide +kernel
theorem dX8_beginChange_11 : decode cX8_beginChange 11 = .ok (.iadd, 1) := by decide +kernel
theorem dX8_beginChange_12 : decode cX8_beginChange 12 = .ok (.bipush 9, 2) := by decide +kernel
theorem dX8_beginChange_14 : decode cX8_beginChange 14 = .ok (.if_icmp .ge 12, 3) := by decide +kernel
theorem dX8_beginChange_17 : decode cX8_beginChange 17 = .ok (.aload_n 0, 1) := by decide +kernel
theorem dX8_beginChange_18 : decode cX8_beginChange 18 = .ok (.getfield 22, 3) := by decide +kernel
theorem dX8_beginChange_21 : decode cX8_beginChange 21 = .ok (.iconst 1, 1) := by decide +kernel
theorem dX8_beginChange_22 : decode cX8_beginChange 22 = .ok (.iadd, 1) := by decide +kernel
theorem dX8_beginChange_23 : decode cX8_beginChange 23 = .ok (.goto 4, 3) := by decide +kernel
theorem dX8_beginChange_26 : decode cX8_beginChange 26 = .ok (.iconst 0, 1) := by decide +kernel
theorem dX8_beginChange_27 : decode cX8_beginChange 27 = .ok (.putfield 22, 3) := by decide +kernel
theorem dX8_beginChange_30 : decode cX8_beginChange 30 = .ok (.aload_n 0, 1) := by decide +kernel
theorem dX8_beginChange_31 : decode cX8_beginChange 31 = .ok (.aload_n 0, 1) := by decide +kernel
theorem dX8_beginChange_32 : decode cX8_beginChange 32 = .ok (.getfield 26, 3) := by decide +kernel
theorem dX8_beginChange_35 : decode cX8_beginChange 35 = .ok (.iconst 1, 1) := by decide +kernel
theorem dX8_beginChange_36 : decode cX8_beginChange 36 = .ok (.iadd, 1) := by decide +kernel
theorem dX8_beginChange_37 : decode cX8_beginChange 37 = .ok (.bipush 8, 2) := by decide +kernel
theorem dX8_beginChange_39 : decode cX8_beginChange 39 = .ok (.invokestatic 289, 3) := by decide +kernel
theorem dX8_beginChange_42 : decode cX8_beginChange 42 = .ok (.putfield 26, 3) := by decide +kernel
theorem dX8_beginChange_45 : decode cX8_beginChange 45 = .ok (.aload_n 0, 1) := by decide +kernel
theorem dX8_beginChange_46 : decode cX8_beginChange 46 = .ok (.invokevirtual 72, 3) := by decide +kernel
theorem dX8_beginChange_49 : decode cX8_beginChange 49 = .ok (.aload_n 1, 1) := by decide +kernel
theorem dX8_beginChange_50 : decode cX8_beginChange 50 = .ok (.invokevirtual 56, 3) := by decide +kernel
theorem dX8_beginChange_53 : decode cX8_beginChange 53 = .ok (.aload_n 0, 1) := by decide +kernel
theorem dX8_beginChange_54 : decode cX8_beginChange 54 = .ok (.invokevirtual 72, 3) := by decide +kernel
theorem dX8_beginChange_57 : decode cX8_beginChange 57 = .ok (.areturn, 1) := by decide +kernel
theorem dX8_checkContract_0 : decode cX8_checkContract 0 = .ok (.iload_n 1, 1) := by decide +kernel
theorem dX8_checkContract_1 : decode cX8_checkContract 1 = .ok (.aload_n 0, 1) := by decide +kernel
theorem dX8_checkContract_2 : decode cX8_checkContract 2 = .ok (.invokevirtual 72, 3) := by decide +kernel
theorem dX8_checkContract_5 : decode cX8_checkContract 5 = .ok (.getfield 60, 3) := by decide +kernel
theorem dX8_checkContract_8 : decode cX8_checkContract 8 = .ok (.getfield 64, 3) := by decide +kernel
theorem dX8_checkContract_11 : decode cX8_checkContract 11 = .ok (.invokestatic 151, 3) := by decide +kernel
theorem dX8_checkContract_14 : decode cX8_checkContract 14 = .ok (.return_, 1) := by decide +kernel
theorem dX8_checkItem_0 : decode cX8_checkItem 0 = .ok (.aload_n 0, 1) := by decide +kernel
theorem dX8_checkItem_1 : decode cX8_checkItem 1 = .ok (.iload_n 1, 1) := by decide +kernel
theorem dX8_checkItem_2 : decode cX8_checkItem 2 = .ok (.invokevirtual 78, 3) := by decide +kernel
theorem dX8_checkItem_5 : decode cX8_checkItem 5 = .ok (.iload_n 2, 1) := by decide +kernel
theorem dX8_checkItem_6 : decode cX8_checkItem 6 = .ok (.aload_n 0, 1) := by decide +kernel
theorem dX8_checkItem_7 : decode cX8_checkItem 7 = .ok (.invokevirtual 72, 3) := by decide +kernel
theorem dX8_checkItem_10 : decode cX8_checkItem 10 = .ok (.getfield 85, 3) := by decide +kernel
theorem dX8_checkItem_13 : decode cX8_checkItem 13 = .ok (.getfield 89, 3) := by decide +kernel
theorem dX8_checkItem_16 : decode cX8_checkItem 16 = .ok (.iload_n 1, 1) := by decide +kernel
theorem dX8_checkItem_17 : decode cX8_checkItem 17 = .ok (.iaload, 1) := by decide +kernel
theorem dX8_checkItem_18 : decode cX8_checkItem 18 = .ok (.invokestatic 151, 3) := by decide +kernel
theorem dX8_checkItem_21 : decode cX8_checkItem 21 = .ok (.return_, 1) := by decide +kernel
theorem dX8_checkCertificate_0 : decode cX8_checkCertificate 0 = .ok (.iload_n 1, 1) := by decide +kernel
theorem dX8_checkCertificate_1 : decode cX8_checkCertificate 1 = .ok (.aload_n 0, 1) := by decide +kernel
theorem dX8_checkCertificate_2 : decode cX8_checkCertificate 2 = .ok (.invokevirtual 72, 3) := by decide +kernel
theorem dX8_checkCertificate_5 : decode cX8_checkCertificate 5 = .ok (.getfield 130, 3) := by decide +kernel
theorem dX8_checkCertificate_8 : decode cX8_checkCertificate 8 = .ok (.getfield 158, 3) := by decide +kernel
theorem dX8_checkCertificate_11 : decode cX8_checkCertificate 11 = .ok (.invokestatic 151, 3) := by decide +kernel
theorem dX8_checkCertificate_14 : decode cX8_checkCertificate 14 = .ok (.return_, 1) := by decide +kernel
theorem dX8_checkVariation_0 : decode cX8_checkVariation 0 = .ok (.iload_n 1, 1) := by decide +kernel
theorem dX8_checkVariation_1 : decode cX8_checkVariation 1 = .ok (.aload_n 0, 1) := by decide +kernel
theorem dX8_checkVariation_2 : decode cX8_checkVariation 2 = .ok (.invokevirtual 72, 3) := by decide +kernel
theorem dX8_checkVariation_5 : decode cX8_checkVariation 5 = .ok (.getfield 188, 3) := by decide +kernel
theorem dX8_checkVariation_8 : decode cX8_checkVariation 8 = .ok (.getfield 192, 3) := by decide +kernel
theorem dX8_checkVariation_11 : decode cX8_checkVariation 11 = .ok (.invokestatic 151, 3) := by decide +kernel
theorem dX8_checkVariation_14 : decode cX8_checkVariation 14 = .ok (.return_, 1) := by decide +kernel
theorem dX8_checkLien_0 : decode cX8_checkLien 0 = .ok (.iload_n 1, 1) := by decide +kernel
theorem dX8_checkLien_1 : decode cX8_checkLien 1 = .ok (.aload_n 0, 1) := by decide +kernel
theorem dX8_checkLien_2 : decode cX8_checkLien 2 = .ok (.invokevirtual 72, 3) := by decide +kernel
theorem dX8_checkLien_5 : decode cX8_checkLien 5 = .ok (.getfield 205, 3) := by decide +kernel
theorem dX8_checkLien_8 : decode cX8_checkLien 8 = .ok (.getfield 209, 3) := by decide +kernel
theorem dX8_checkLien_11 : decode cX8_checkLien 11 = .ok (.invokestatic 151, 3) := by decide +kernel
theorem dX8_checkLien_14 : decode cX8_checkLien 14 = .ok (.return_, 1) := by decide +kernel
theorem dX8_checkProject_0 : decode cX8_checkProject 0 = .ok (.aload_n 0, 1) := by decide +kernel
theorem dX8_checkProject_1 : decode cX8_checkProject 1 = .ok (.invokevirtual 72, 3) := by decide +kernel
theorem dX8_checkProject_4 : decode cX8_checkProject 4 = .ok (.getfield 60, 3) := by decide +kernel
theorem dX8_checkProject_7 : decode cX8_checkProject 7 = .ok (.getfield 64, 3) := by decide +kernel
theorem dX8_checkProject_10 : decode cX8_checkProject 10 = .ok (.ifCond .le 7, 3) := by decide +kernel
theorem dX8_checkProject_13 : decode cX8_checkProject 13 = .ok (.iconst 1, 1) := by decide +kernel
theorem dX8_checkProject_14 : decode cX8_checkProject 14 = .ok (.goto 4, 3) := by decide +kernel
theorem dX8_checkProject_17 : decode cX8_checkProject 17 = .ok (.iconst 0, 1) := by decide +kernel
theorem dX8_checkProject_18 : decode cX8_checkProject 18 = .ok (.invokestatic 235, 3) := by decide +kernel
theorem dX8_checkProject_21 : decode cX8_checkProject 21 = .ok (.return_, 1) := by decide +kernel
theorem dX8_checkIndex_0 : decode cX8_checkIndex 0 = .ok (.iload_n 0, 1) := by decide +kernel
theorem dX8_checkIndex_1 : decode cX8_checkIndex 1 = .ok (.ifCond .lt 8, 3) := by decide +kernel
theorem dX8_checkIndex_4 : decode cX8_checkIndex 4 = .ok (.iload_n 0, 1) := by decide +kernel
theorem dX8_checkIndex_5 : decode cX8_checkIndex 5 = .ok (.iload_n 1, 1) := by decide +kernel
theorem dX8_checkIndex_6 : decode cX8_checkIndex 6 = .ok (.if_icmp .lt 14, 3) := by decide +kernel
theorem dX8_checkIndex_9 : decode cX8_checkIndex 9 = .ok (.new 294, 3) := by decide +kernel
theorem dX8_checkIndex_12 : decode cX8_checkIndex 12 = .ok (.dup, 1) := by decide +kernel
theorem dX8_checkIndex_13 : decode cX8_checkIndex 13 = .ok (.ldc_w 296, 3) := by decide +kernel
theorem dX8_checkIndex_16 : decode cX8_checkIndex 16 = .ok (.invokespecial 298, 3) := by decide +kernel
theorem dX8_checkIndex_19 : decode cX8_checkIndex 19 = .ok (.athrow, 1) := by decide +kernel
theorem dX8_checkIndex_20 : decode cX8_checkIndex 20 = .ok (.return_, 1) := by decide +kernel
theorem dX8_checkRange_0 : decode cX8_checkRange 0 = .ok (.iload_n 0, 1) := by decide +kernel
theorem dX8_checkRange_1 : decode cX8_checkRange 1 = .ok (.iload_n 1, 1) := by decide +kernel
theorem dX8_checkRange_2 : decode cX8_checkRange 2 = .ok (.if_icmp .lt 8, 3) := by decide +kernel
theorem dX8_checkRange_5 : decode cX8_checkRange 5 = .ok (.iload_n 0, 1) := by decide +kernel
theorem dX8_checkRange_6 : decode cX8_checkRange 6 = .ok (.iload_n 2, 1) := by decide +kernel
theorem dX8_checkRange_7 : decode cX8_checkRange 7 = .ok (.if_icmp .le 14, 3) := by decide +kernel
theorem dX8_checkRange_10 : decode cX8_checkRange 10 = .ok (.new 228, 3) := by decide +kernel
theorem dX8_checkRange_13 : decode cX8_checkRange 13 = .ok (.dup, 1) := by decide +kernel
theorem dX8_checkRange_14 : decode cX8_checkRange 14 = .ok (.ldc_w 299, 3) := by decide +kernel
theorem dX8_checkRange_17 : decode cX8_checkRange 17 = .ok (.invokespecial 232, 3) := by decide +kernel
theorem dX8_checkRange_20 : decode cX8_checkRange 20 = .ok (.athrow, 1) := by decide +kernel
theorem dX8_checkRange_21 : decode cX8_checkRange 21 = .ok (.return_, 1) := by decide +kernel
theorem dX8_checkState_0 : decode cX8_checkState 0 = .ok (.iload_n 0, 1) := by decide +kernel
theorem dX8_checkState_1 : decode cX8_checkState 1 = .ok (.ifCond .ne 14, 3) := by decide +kernel
theorem dX8_checkState_4 : decode cX8_checkState 4 = .ok (.new 301, 3) := by decide +kernel
theorem dX8_checkState_7 : decode cX8_checkState 7 = .ok (.dup, 1) := by decide +kernel
theorem dX8_checkState_8 : decode cX8_checkState 8 = .ok (.ldc_w 303, 3) := by decide +kernel
theorem dX8_checkState_11 : decode cX8_checkState 11 = .ok (.invokespecial 305, 3) := by decide +kernel
theorem dX8_checkState_14 : decode cX8_checkState 14 = .ok (.athrow, 1) := by decide +kernel
theorem dX8_checkState_15 : decode cX8_checkState 15 = .ok (.return_, 1) := by decide +kernel
theorem dX9_init_0 : decode cX9_init 0 = .ok (.aload_n 0, 1) := by decide +kernel
theorem dX9_init_1 : decode cX9_init 1 = .ok (.invokespecial 1, 3) := by decide +kernel
theorem dX9_init_4 : decode cX9_init 4 = .ok (.aload_n 0, 1) := by decide +kernel
theorem dX9_init_5 : decode cX9_init 5 = .ok (.sipush 22500, 3) := by decide +kernel
theorem dX9_init_8 : decode cX9_init 8 = .ok (.newarray .long, 2) := by decide +kernel
theorem dX9_init_10 : decode cX9_init 10 = .ok (.putfield 9, 3) := by decide +kernel
theorem dX9_init_13 : decode cX9_init 13 = .ok (.aload_n 0, 1) := by decide +kernel
theorem dX9_init_14 : decode cX9_init 14 = .ok (.sipush 2500, 3) := by decide +kernel
theorem dX9_init_17 : decode cX9_init 17 = .ok (.newarray .long, 2) := by decide +kernel
theorem dX9_init_19 : decode cX9_init 19 = .ok (.putfield 13, 3) := by decide +kernel
theorem dX9_init_22 : decode cX9_init 22 = .ok (.aload_n 0, 1) := by decide +kernel
theorem dX9_init_23 : decode cX9_init 23 = .ok (.sipush 2500, 3) := by decide +kernel
theorem dX9_init_26 : decode cX9_init 26 = .ok (.newarray .long, 2) := by decide +kernel
theorem dX9_init_28 : decode cX9_init 28 = .ok (.putfield 16, 3) := by decide +kernel
theorem dX9_init_31 : decode cX9_init 31 = .ok (.aload_n 0, 1) := by decide +kernel
theorem dX9_init_32 : decode cX9_init 32 = .ok (.sipush 900, 3) := by decide +kernel
theorem dX9_init_35 : decode cX9_init 35 = .ok (.newarray .int, 2) := by decide +kernel
theorem dX9_init_37 : decode cX9_init 37 = .ok (.putfield 19, 3) := by decide +kernel
theorem dX9_init_40 : decode cX9_init 40 = .ok (.aload_n 0, 1) := by decide +kernel
theorem dX9_init_41 : decode cX9_init 41 = .ok (.iconst (-1), 1) := by decide +kernel
theorem dX9_init_42 : decode cX9_init 42 = .ok (.putfield 23, 3) := by decide +kernel
theorem dX9_init_45 : decode cX9_init 45 = .ok (.aload_n 0, 1) := by decide +kernel
theorem dX9_init_46 : decode cX9_init 46 = .ok (.sipush 128, 3) := by decide +kernel
theorem dX9_init_49 : decode cX9_init 49 = .ok (.newarray .long, 2) := by decide +kernel
theorem dX9_init_51 : decode cX9_init 51 = .ok (.putfield 27, 3) := by decide +kernel
theorem dX9_init_54 : decode cX9_init 54 = .ok (.aload_n 0, 1) := by decide +kernel
theorem dX9_init_55 : decode cX9_init 55 = .ok (.getfield 9, 3) := by decide +kernel
theorem dX9_init_58 : decode cX9_init 58 = .ok (.iconst 2, 1) := by decide +kernel
theorem dX9_init_59 : decode cX9_init 59 = .ok (.ldc2_w 30, 3) := by decide +kernel
theorem dX9_init_62 : decode cX9_init 62 = .ok (.lastore, 1) := by decide +kernel
theorem dX9_init_63 : decode cX9_init 63 = .ok (.return_, 1) := by decide +kernel
theorem dX9_thrown_0 : decode cX9_thrown 0 = .ok (.aload_n 0, 1) := by decide +kernel
theorem dX9_thrown_1 : decode cX9_thrown 1 = .ok (.getfield 32, 3) := by decide +kernel
theorem dX9_thrown_4 : decode cX9_thrown 4 = .ok (.ireturn, 1) := by decide +kernel
theorem dX9_isIn_0 : decode cX9_isIn 0 = .ok (.lload_n 0, 1) := by decide +kernel
theorem dX9_isIn_1 : decode cX9_isIn 1 = .ok (.lload_n 2, 1) := by decide +kernel
theorem dX9_isIn_2 : decode cX9_isIn 2 = .ok (.lcmp, 1) := by decide +kernel
theorem dX9_isIn_3 : decode cX9_isIn 3 = .ok (.ifCond .lt 14, 3) := by decide +kernel
theorem dX9_isIn_6 : decode cX9_isIn 6 = .ok (.lload_n 0, 1) := by decide +kernel
theorem dX9_isIn_7 : decode cX9_isIn 7 = .ok (.lload 4, 2) := by decide +kernel
theorem dX9_isIn_9 : decode cX9_isIn 9 = .ok (.lcmp, 1) := by decide +kernel
theorem dX9_isIn_10 : decode cX9_isIn 10 = .ok (.ifCond .gt 7, 3) := by decide +kernel
theorem dX9_isIn_13 : decode cX9_isIn 13 = .ok (.iconst 1, 1) := by decide +kernel
theorem dX9_isIn_14 : decode cX9_isIn 14 = .ok (.goto 4, 3) := by decide +kernel
theorem dX9_isIn_17 : decode cX9_isIn 17 = .ok (.iconst 0, 1) := by decide +kernel
theorem dX9_isIn_18 : decode cX9_isIn 18 = .ok (.ireturn, 1) := by decide +kernel
theorem dX9_clamped_0 : decode cX9_clamped 0 = .ok (.lload_n 0, 1) := by decide +kernel
theorem dX9_clamped_1 : decode cX9_clamped 1 = .ok (.lload_n 2, 1) := by decide +kernel
theorem dX9_clamped_2 : decode cX9_clamped 2 = .ok (.lcmp, 1) := by decide +kernel
theorem dX9_clamped_3 : decode cX9_clamped 3 = .ok (.ifCond .ge 7, 3) := by decide +kernel
theorem dX9_clamped_6 : decode cX9_clamped 6 = .ok (.lload_n 2, 1) := by decide +kernel
theorem dX9_clamped_7 : decode cX9_clamped 7 = .ok (.goto 16, 3) := by decide +kernel
theorem dX9_clamped_10 : decode cX9_clamped 10 = .ok (.lload_n 0, 1) := by decide +kernel
theorem dX9_clamped_11 : decode cX9_clamped 11 = .ok (.lload 4, 2) := by decide +kernel
theorem dX9_clamped_13 : decode cX9_clamped 13 = .ok (.lcmp, 1) := by decide +kernel
theorem dX9_clamped_14 : decode cX9_clamped 14 = .ok (.ifCond .le 8, 3) := by decide +kernel
theorem dX9_clamped_17 : decode cX9_clamped 17 = .ok (.lload 4, 2) := by decide +kernel
theorem dX9_clamped_19 : decode cX9_clamped 19 = .ok (.goto 4, 3) := by decide +kernel
theorem dX9_clamped_22 : decode cX9_clamped 22 = .ok (.lload_n 0, 1) := by decide +kernel
theorem dX9_clamped_23 : decode cX9_clamped 23 = .ok (.lreturn, 1) := by decide +kernel
theorem dX9_get_0 : decode cX9_get 0 = .ok (.aload_n 0, 1) := by decide +kernel
theorem dX9_get_1 : decode cX9_get 1 = .ok (.getfield 9, 3) := by decide +kernel
theorem dX9_get_4 : decode cX9_get 4 = .ok (.sipush 2500, 3) := by decide +kernel
theorem dX9_get_7 : decode cX9_get 7 = .ok (.aload_n 0, 1) := by decide +kernel
theorem dX9_get_8 : decode cX9_get 8 = .ok (.getfield 35, 3) := by decide +kernel
theorem dX9_get_11 : decode cX9_get 11 = .ok (.imul, 1) := by decide +kernel
theorem dX9_get_12 : decode cX9_get 12 = .ok (.iload_n 1, 1) := by decide +kernel
theorem dX9_get_13 : decode cX9_get 13 = .ok (.iadd, 1) := by decide +kernel
theorem dX9_get_14 : decode cX9_get 14 = .ok (.laload, 1) := by decide +kernel
theorem dX9_get_15 : decode cX9_get 15 = .ok (.lreturn, 1) := by decide +kernel
theorem dX9_small_0 : decode cX9_small 0 = .ok (.aload_n 0, 1) := by decide +kernel
theorem dX9_small_1 : decode cX9_small 1 = .ok (.iload_n 1, 1) := by decide +kernel
theorem dX9_small_2 : decode cX9_small 2 = .ok (.invokevirtual 38, 3) := by decide +kernel
theorem dX9_small_5 : decode cX9_small 5 = .ok (.l2i, 1) := by decide +kernel
theorem dX9_small_6 : decode cX9_small 6 = .ok (.ireturn, 1) := by decide +kernel
theorem dX9_put_0 : decode cX9_put 0 = .ok (.aload_n 0, 1) := by decide +kernel
theorem dX9_put_1 : decode cX9_put 1 = .ok (.getfield 9, 3) := by decide +kernel
theorem dX9_put_4 : decode cX9_put 4 = .ok (.sipush 2500, 3) := by decide +kernel
theorem dX9_put_7 : decode cX9_put 7 = .ok (.aload_n 0, 1) := by decide +kernel
theorem dX9_put_8 : decode cX9_put 8 = .ok (.getfield 35, 3) := by decide +kernel
theorem dX9_put_11 : decode cX9_put 11 = .ok (.imul, 1) := by decide +kernel
theorem dX9_put_12 : decode cX9_put 12 = .ok (.iload_n 1, 1) := by decide +kernel
theorem dX9_put_13 : decode cX9_put 13 = .ok (.iadd, 1) := by decide +kernel
theorem dX9_put_14 : decode cX9_put 14 = .ok (.lload_n 2, 1) := by decide +kernel
theorem dX9_put_15 : decode cX9_put 15 = .ok (.lastore, 1) := by decide +kernel
theorem dX9_put_16 : decode cX9_put 16 = .ok (.return_, 1) := by decide +kernel
theorem dX9_change_0 : decode cX9_change 0 = .ok (.aload_n 0, 1) := by decide +kernel
theorem dX9_change_1 : decode cX9_change 1 = .ok (.getfield 35, 3) := by decide +kernel
theorem dX9_change_4 : decode cX9_change 4 = .ok (.iconst 1, 1) := by decide +kernel
theorem dX9_change_5 : decode cX9_change 5 = .ok (.iadd, 1) := by decide +kernel
theorem dX9_change_6 : decode cX9_change 6 = .ok (.bipush 9, 2) := by decide +kernel
theorem dX9_change_8 : decode cX9_change 8 = .ok (.irem, 1) := by decide +kernel
theorem dX9_change_9 : decode cX9_change 9 = .ok (.istore_n 1, 1) := by decide +kernel
theorem dX9_change_10 : decode cX9_change 10 = .ok (.iconst 0, 1) := by decide +kernel
theorem dX9_change_11 : decode cX9_change 11 = .ok (.istore_n 2, 1) := by decide +kernel
theorem dX9_change_12 : decode cX9_change 12 = .ok (.iload_n 2, 1) := by decide +kernel
theorem dX9_change_13 : decode cX9_change 13 = .ok (.sipush 2500, 3) := by decide +kernel
theorem dX9_change_16 : decode cX9_change 16 = .ok (.if_icmp .ge 26, 3) := by decide +kernel
theorem dX9_change_19 : decode cX9_change 19 = .ok (.aload_n 0, 1) := by decide +kernel
theorem dX9_change_20 : decode cX9_change 20 = .ok (.getfield 9, 3) := by decide +kernel
theorem dX9_change_23 : decode cX9_change 23 = .ok (.sipush 2500, 3) := by decide +kernel
theorem dX9_change_26 : decode cX9_change 26 = .ok (.iload_n 1, 1) := by decide +kernel
theorem dX9_change_27 : decode cX9_change 27 = .ok (.imul, 1) := by decide +kernel
theorem dX9_change_28 : decode cX9_change 28 = .ok (.iload_n 2, 1) := by decide +kernel
theorem dX9_change_29 : decode cX9_change 29 = .ok (.iadd, 1) := by decide +kernel
theorem dX9_change_30 : decode cX9_change 30 = .ok (.aload_n 0, 1) := by decide +kernel
theorem dX9_change_31 : decode cX9_change 31 = .ok (.iload_n 2, 1) := by decide +kernel
theorem dX9_change_32 : decode cX9_change 32 = .ok (.invokevirtual 38, 3) := by decide +kernel
theorem dX9_change_35 : decode cX9_change 35 = .ok (.lastore, 1) := by decide +kernel
theorem dX9_change_36 : decode cX9_change 36 = .ok (.iinc 2 1, 3) := by decide +kernel
theorem dX9_change_39 : decode cX9_change 39 = .ok (.goto (-27), 3) := by decide +kernel
theorem dX9_change_42 : decode cX9_change 42 = .ok (.aload_n 0, 1) := by decide +kernel
theorem dX9_change_43 : decode cX9_change 43 = .ok (.iload_n 1, 1) := by decide +kernel
theorem dX9_change_44 : decode cX9_change 44 = .ok (.putfield 35, 3) := by decide +kernel
theorem dX9_change_47 : decode cX9_change 47 = .ok (.aload_n 0, 1) := by decide +kernel
theorem dX9_change_48 : decode cX9_change 48 = .ok (.aload_n 0, 1) := by decide +kernel
theorem dX9_change_49 : decode cX9_change 49 = .ok (.getfield 42, 3) := by decide +kernel
theorem dX9_change_52 : decode cX9_change 52 = .ok (.bipush 8, 2) := by decide +kernel
theorem dX9_change_54 : decode cX9_change 54 = .ok (.if_icmp .ge 12, 3) := by decide +kernel
theorem dX9_change_57 : decode cX9_change 57 = .ok (.aload_n 0, 1) := by decide +kernel
theorem dX9_change_58 : decode cX9_change 58 = .ok (.getfield 42, 3) := by decide +kernel
theorem dX9_change_61 : decode cX9_change 61 = .ok (.iconst 1, 1) := by decide +kernel
theorem dX9_change_62 : decode cX9_change 62 = .ok (.iadd, 1) := by decide +kernel
theorem dX9_change_63 : decode cX9_change 63 = .ok (.goto 7, 3) := by decide +kernel
theorem dX9_change_66 : decode cX9_change 66 = .ok (.aload_n 0, 1) := by decide +kernel
theorem dX9_change_67 : decode cX9_change 67 = .ok (.getfield 42, 3) := by decide +kernel
theorem dX9_change_70 : decode cX9_change 70 = .ok (.putfield 42, 3) := by decide +kernel
theorem dX9_change_73 : decode cX9_change 73 = .ok (.return_, 1) := by decide +kernel
theorem dX9_right_0 : decode cX9_right 0 = .ok (.aload_n 0, 1) := by decide +kernel
theorem dX9_right_1 : decode cX9_right 1 = .ok (.getfield 32, 3) := by decide +kernel
theorem dX9_right_4 : decode cX9_right 4 = .ok (.ifCond .ne 12, 3) := by decide +kernel
theorem dX9_right_7 : decode cX9_right 7 = .ok (.iload_n 1, 1) := by decide +kernel
theorem dX9_right_8 : decode cX9_right 8 = .ok (.ifCond .ne 8, 3) := by decide +kernel
theorem dX9_right_11 : decode cX9_right 11 = .ok (.aload_n 0, 1) := by decide +kernel
theorem dX9_right_12 : decode cX9_right 12 = .ok (.iload_n 2, 1) := by decide +kernel
theorem dX9_right_13 : decode cX9_right 13 = .ok (.putfield 32, 3) := by decide +kernel
theorem dX9_right_16 : decode cX9_right 16 = .ok (.aload_n 0, 1) := by decide +kernel
theorem dX9_right_17 : decode cX9_right 17 = .ok (.getfield 32, 3) := by decide +kernel
theorem dX9_right_20 : decode cX9_right 20 = .ok (.ifCond .ne 7, 3) := by decide +kernel
theorem dX9_right_23 : decode cX9_right 23 = .ok (.iconst 1, 1) := by decide +kernel
theorem dX9_right_24 : decode cX9_right 24 = .ok (.goto 4, 3) := by decide +kernel
theorem dX9_right_27 : decode cX9_right 27 = .ok (.iconst 0, 1) := by decide +kernel
theorem dX9_right_28 : decode cX9_right 28 = .ok (.ireturn, 1) := by decide +kernel
theorem dX9_append_0 : decode cX9_append 0 = .ok (.aload_n 0, 1) := by decide +kernel
theorem dX9_append_1 : decode cX9_append 1 = .ok (.iconst 0, 1) := by decide +kernel
theorem dX9_append_2 : decode cX9_append 2 = .ok (.putfield 32, 3) := by decide +kernel
theorem dX9_append_5 : decode cX9_append 5 = .ok (.aload_n 0, 1) := by decide +kernel
theorem dX9_append_6 : decode cX9_append 6 = .ok (.getfield 45, 3) := by decide +kernel
theorem dX9_append_9 : decode cX9_append 9 = .ok (.bipush 20, 2) := by decide +kernel
theorem dX9_append_11 : decode cX9_append 11 = .ok (.iadd, 1) := by decide +kernel
theorem dX9_append_12 : decode cX9_append 12 = .ok (.sipush 900, 3) := by decide +kernel
theorem dX9_append_15 : decode cX9_append 15 = .ok (.if_icmp .le 5, 3) := by decide +kernel
theorem dX9_append_18 : decode cX9_append 18 = .ok (.iconst (-1), 1) := by decide +kernel
theorem dX9_append_19 : decode cX9_append 19 = .ok (.ireturn, 1) := by decide +kernel
theorem dX9_append_20 : decode cX9_append 20 = .ok (.iconst 0, 1) := by decide +kernel
theorem dX9_append_21 : decode cX9_append 21 = .ok (.istore 6, 2) := by decide +kernel
theorem dX9_append_23 : decode cX9_append 23 = .ok (.iload 6, 2) := by decide +kernel
theorem dX9_append_25 : decode cX9_append 25 = .ok (.bipush 20, 2) := by decide +kernel
theorem dX9_append_27 : decode cX9_append 27 = .ok (.if_icmp .ge 86, 3) := by decide +kernel
theorem dX9_append_30 : decode cX9_append 30 = .ok (.iload 6, 2) := by decide +kernel
theorem dX9_append_32 : decode cX9_append 32 = .ok (.iconst 4, 1) := by decide +kernel
theorem dX9_append_33 : decode cX9_append 33 = .ok (.if_icmp .ge 7, 3) := by decide +kernel
theorem dX9_append_36 : decode cX9_append 36 = .ok (.iload_n 1, 1) := by decide +kernel
theorem dX9_append_37 : decode cX9_append 37 = .ok (.goto 39, 3) := by decide +kernel
theorem dX9_append_40 : decode cX9_append 40 = .ok (.iload 6, 2) := by decide +kernel
theorem dX9_append_42 : decode cX9_append 42 = .ok (.bipush 8, 2) := by decide +kernel
theorem dX9_append_44 : decode cX9_append 44 = .ok (.if_icmp .ge 7, 3) := by decide +kernel
theorem dX9_append_47 : decode cX9_append 47 = .ok (.iload_n 2, 1) := by decide +kernel
theorem dX9_append_48 : decode cX9_append 48 = .ok (.goto 28, 3) := by decide +kernel
theorem dX9_append_51 : decode cX9_append 51 = .ok (.iload 6, 2) := by decide +kernel
theorem dX9_append_53 : decode cX9_append 53 = .ok (.bipush 12, 2) := by decide +kernel
theorem dX9_append_55 : decode cX9_append 55 = .ok (.if_icmp .ge 7, 3) := by decide +kernel
theorem dX9_append_58 : decode cX9_append 58 = .ok (.iload_n 3, 1) := by decide +kernel
theorem dX9_append_59 : decode cX9_append 59 = .ok (.goto 17, 3) := by decide +kernel
theorem dX9_append_62 : decode cX9_append 62 = .ok (.iload 6, 2) := by decide +kernel
theorem dX9_append_64 : decode cX9_append 64 = .ok (.bipush 16, 2) := by decide +kernel
theorem dX9_append_66 : decode cX9_append 66 = .ok (.if_icmp .ge 8, 3) := by decide +kernel
theorem dX9_append_69 : decode cX9_append 69 = .ok (.iload 4, 2) := by decide +kernel
theorem dX9_append_71 : decode cX9_append 71 = .ok (.goto 5, 3) := by decide +kernel
theorem dX9_append_74 : decode cX9_append 74 = .ok (.iload 5, 2) := by decide +kernel
theorem dX9_append_76 : decode cX9_append 76 = .ok (.istore 7, 2) := by decide +kernel
theorem dX9_append_78 : decode cX9_append 78 = .ok (.aload_n 0, 1) := by decide +kernel
theorem dX9_append_79 : decode cX9_append 79 = .ok (.getfield 19, 3) := by decide +kernel
theorem dX9_append_82 : decode cX9_append 82 = .ok (.aload_n 0, 1) := by decide +kernel
theorem dX9_append_83 : decode cX9_append 83 = .ok (.getfield 45, 3) := by decide +kernel
theorem dX9_append_86 : decode cX9_append 86 = .ok (.iload 6, 2) := by decide +kernel
theorem dX9_append_88 : decode cX9_append 88 = .ok (.iadd, 1) := by decide +kernel
theorem dX9_append_89 : decode cX9_append 89 = .ok (.iload 7, 2) := by decide +kernel
theorem dX9_append_91 : decode cX9_append 91 = .ok (.bipush 24, 2) := by decide +kernel
theorem dX9_append_93 : decode cX9_append 93 = .ok (.bipush 8, 2) := by decide +kernel
theorem dX9_append_95 : decode cX9_append 95 = .ok (.iload 6, 2) := by decide +kernel
theorem dX9_append_97 : decode cX9_append 97 = .ok (.iconst 4, 1) := by decide +kernel
theorem dX9_append_98 : decode cX9_append 98 = .ok (.irem, 1) := by decide +kernel
theorem dX9_append_99 : decode cX9_append 99 = .ok (.imul, 1) := by decide +kernel
theorem dX9_append_100 : decode cX9_append 100 = .ok (.isub, 1) := by decide +kernel
theorem dX9_append_101 : decode cX9_append 101 = .ok (.ishr, 1) := by decide +kernel
theorem dX9_append_102 : decode cX9_append 102 = .ok (.sipush 255, 3) := by decide +kernel
theorem dX9_append_105 : decode cX9_append 105 = .ok (.iand, 1) := by decide +kernel
theorem dX9_append_106 : decode cX9_append 106 = .ok (.iastore, 1) := by decide +kernel
theorem dX9_append_107 : decode cX9_append 107 = .ok (.iinc 6 1, 3) := by decide +kernel
theorem dX9_append_110 : decode cX9_append 110 = .ok (.goto (-87), 3) := by decide +kernel
theorem dX9_append_113 : decode cX9_append 113 = .ok (.aload_n 0, 1) := by decide +kernel
theorem dX9_append_114 : decode cX9_append 114 = .ok (.dup, 1) := by decide +kernel
theorem dX9_append_115 : decode cX9_append 115 = .ok (.getfield 45, 3) := by decide +kernel
theorem dX9_append_118 : decode cX9_append 118 = .ok (.bipush 20, 2) := by decide +kernel
theorem dX9_append_120 : decode cX9_append 120 = .ok (.iadd, 1) := by decide +kernel
theorem dX9_append_121 : decode cX9_append 121 = .ok (.putfield 45, 3) := by decide +kernel
theorem dX9_append_124 : decode cX9_append 124 = .ok (.aload_n 0, 1) := by decide +kernel
theorem dX9_append_125 : decode cX9_append 125 = .ok (.getfield 45, 3) := by decide +kernel
theorem dX9_append_128 : decode cX9_append 128 = .ok (.ireturn, 1) := by decide +kernel
theorem dX9_fails_0 : decode cX9_fails 0 = .ok (.aload_n 0, 1) := by decide +kernel
theorem dX9_fails_1 : decode cX9_fails 1 = .ok (.getfield 48, 3) := by decide +kernel
theorem dX9_fails_4 : decode cX9_fails 4 = .ok (.ifCond .eq 4, 3) := by decide +kernel
theorem dX9_fails_7 : decode cX9_fails 7 = .ok (.return_, 1) := by decide +kernel
theorem dX9_fails_8 : decode cX9_fails 8 = .ok (.aload_n 0, 1) := by decide +kernel
theorem dX9_fails_9 : decode cX9_fails 9 = .ok (.iload_n 1, 1) := by decide +kernel
theorem dX9_fails_10 : decode cX9_fails 10 = .ok (.putfield 48, 3) := by decide +kernel
theorem dX9_fails_13 : decode cX9_fails 13 = .ok (.aload_n 0, 1) := by decide +kernel
theorem dX9_fails_14 : decode cX9_fails 14 = .ok (.iload_n 2, 1) := by decide +kernel
theorem dX9_fails_15 : decode cX9_fails 15 = .ok (.putfield 51, 3) := by decide +kernel
theorem dX9_fails_18 : decode cX9_fails 18 = .ok (.return_, 1) := by decide +kernel
theorem dX9_sees_0 : decode cX9_sees 0 = .ok (.aload_n 0, 1) := by decide +kernel
theorem dX9_sees_1 : decode cX9_sees 1 = .ok (.getfield 54, 3) := by decide +kernel
theorem dX9_sees_4 : decode cX9_sees 4 = .ok (.aload_n 0, 1) := by decide +kernel
theorem dX9_sees_5 : decode cX9_sees 5 = .ok (.getfield 57, 3) := by decide +kernel
theorem dX9_sees_8 : decode cX9_sees 8 = .ok (.if_icmp .ge 30, 3) := by decide +kernel
theorem dX9_sees_11 : decode cX9_sees 11 = .ok (.aload_n 0, 1) := by decide +kernel
theorem dX9_sees_12 : decode cX9_sees 12 = .ok (.getfield 19, 3) := by decide +kernel
theorem dX9_sees_15 : decode cX9_sees 15 = .ok (.aload_n 0, 1) := by decide +kernel
theorem dX9_sees_16 : decode cX9_sees 16 = .ok (.getfield 54, 3) := by decide +kernel
theorem dX9_sees_19 : decode cX9_sees 19 = .ok (.iaload, 1) := by decide +kernel
theorem dX9_sees_20 : decode cX9_sees 20 = .ok (.bipush 32, 2) := by decide +kernel
theorem dX9_sees_22 : decode cX9_sees 22 = .ok (.if_icmp .ne 16, 3) := by decide +kernel
theorem dX9_sees_25 : decode cX9_sees 25 = .ok (.aload_n 0, 1) := by decide +kernel
theorem dX9_sees_26 : decode cX9_sees 26 = .ok (.dup, 1) := by decide +kernel
theorem dX9_sees_27 : decode cX9_sees 27 = .ok (.getfield 54, 3) := by decide +kernel
theorem dX9_sees_30 : decode cX9_sees 30 = .ok (.iconst 1, 1) := by decide +kernel
theorem dX9_sees_31 : decode cX9_sees 31 = .ok (.iadd, 1) := by decide +kernel
theorem dX9_sees_32 : decode cX9_sees 32 = .ok (.putfield 54, 3) := by decide +kernel
theorem dX9_sees_35 : decode cX9_sees 35 = .ok (.goto (-35), 3) := by decide +kernel
theorem dX9_sees_38 : decode cX9_sees 38 = .ok (.aload_n 0, 1) := by decide +kernel
theorem dX9_sees_39 : decode cX9_sees 39 = .ok (.getfield 54, 3) := by decide +kernel
theorem dX9_sees_42 : decode cX9_sees 42 = .ok (.aload_n 0, 1) := by decide +kernel
theorem dX9_sees_43 : decode cX9_sees 43 = .ok (.getfield 57, 3) := by decide +kernel
theorem dX9_sees_46 : decode cX9_sees 46 = .ok (.if_icmp .ge 15, 3) := by decide +kernel
theorem dX9_sees_49 : decode cX9_sees 49 = .ok (.aload_n 0, 1) := by decide +kernel
theorem dX9_sees_50 : decode cX9_sees 50 = .ok (.getfield 19, 3) := by decide +kernel
theorem dX9_sees_53 : decode cX9_sees 53 = .ok (.aload_n 0, 1) := by decide +kernel
theorem dX9_sees_54 : decode cX9_sees 54 = .ok (.getfield 54, 3) := by decide +kernel
theorem dX9_sees_57 : decode cX9_sees 57 = .ok (.iaload, 1) := by decide +kernel
theorem dX9_sees_58 : decode cX9_sees 58 = .ok (.goto 4, 3) := by decide +kernel
theorem dX9_sees_61 : decode cX9_sees 61 = .ok (.iconst (-1), 1) := by decide +kernel
theorem dX9_sees_62 : decode cX9_sees 62 = .ok (.ireturn, 1) := by decide +kernel
theorem dX9_isWord_0 : decode cX9_isWord 0 = .ok (.aload_n 0, 1) := by decide +kernel
theorem dX9_isWord_1 : decode cX9_isWord 1 = .ok (.invokevirtual 60, 3) := by decide +kernel
theorem dX9_isWord_4 : decode cX9_isWord 4 = .ok (.pop, 1) := by decide +kernel
theorem dX9_isWord_5 : decode cX9_isWord 5 = .ok (.aload_n 0, 1) := by decide +kernel
theorem dX9_isWord_6 : decode cX9_isWord 6 = .ok (.getfield 54, 3) := by decide +kernel
theorem dX9_isWord_9 : decode cX9_isWord 9 = .ok (.istore_n 2, 1) := by decide +kernel
theorem dX9_isWord_10 : decode cX9_isWord 10 = .ok (.iload_n 2, 1) := by decide +kernel
theorem dX9_isWord_11 : decode cX9_isWord 11 = .ok (.aload_n 0, 1) := by decide +kernel
theorem dX9_isWord_12 : decode cX9_isWord 12 = .ok (.getfield 57, 3) := by decide +kernel
theorem dX9_isWord_15 : decode cX9_isWord 15 = .ok (.if_icmp .ge 31, 3) := by decide +kernel
theorem dX9_isWord_18 : decode cX9_isWord 18 = .ok (.aload_n 0, 1) := by decide +kernel
theorem dX9_isWord_19 : decode cX9_isWord 19 = .ok (.getfield 19, 3) := by decide +kernel
theorem dX9_isWord_22 : decode cX9_isWord 22 = .ok (.iload_n 2, 1) := by decide +kernel
theorem dX9_isWord_23 : decode cX9_isWord 23 = .ok (.iaload, 1) := by decide +kernel
theorem dX9_isWord_24 : decode cX9_isWord 24 = .ok (.bipush 97, 2) := by decide +kernel
theorem dX9_isWord_26 : decode cX9_isWord 26 = .ok (.if_icmp .lt 20, 3) := by decide +kernel
theorem dX9_isWord_29 : decode cX9_isWord 29 = .ok (.aload_n 0, 1) := by decide +kernel
theorem dX9_isWord_30 : decode cX9_isWord 30 = .ok (.getfield 19, 3) := by decide +kernel
theorem dX9_isWord_33 : decode cX9_isWord 33 = .ok (.iload_n 2, 1) := by decide +kernel
theorem dX9_isWord_34 : decode cX9_isWord 34 = .ok (.iaload, 1) := by decide +kernel
theorem dX9_isWord_35 : decode cX9_isWord 35 = .ok (.bipush 122, 2) := by decide +kernel
theorem dX9_isWord_37 : decode cX9_isWord 37 = .ok (.if_icmp .gt 9, 3) := by decide +kernel
theorem dX9_isWord_40 : decode cX9_isWord 40 = .ok (.iinc 2 1, 3) := by decide +kernel
theorem dX9_isWord_43 : decode cX9_isWord 43 = .ok (.goto (-33), 3) := by decide +kernel
theorem dX9_isWord_46 : decode cX9_isWord 46 = .ok (.iload_n 2, 1) := by decide +kernel
theorem dX9_isWord_47 : decode cX9_isWord 47 = .ok (.aload_n 0, 1) := by decide +kernel
theorem dX9_isWord_48 : decode cX9_isWord 48 = .ok (.getfield 54, 3) := by decide +kernel
theorem dX9_isWord_51 : decode cX9_isWord 51 = .ok (.isub, 1) := by decide +kernel
theorem dX9_isWord_52 : decode cX9_isWord 52 = .ok (.aload_n 1, 1) := by decide +kernel
theorem dX9_isWord_53 : decode cX9_isWord 53 = .ok (.invokevirtual 64, 3) := by decide +kernel
theorem dX9_isWord_56 : decode cX9_isWord 56 = .ok (.if_icmp .ne 7, 3) := by decide +kernel
theorem dX9_isWord_59 : decode cX9_isWord 59 = .ok (.iconst 1, 1) := by decide +kernel
theorem dX9_isWord_60 : decode cX9_isWord 60 = .ok (.goto 4, 3) := by decide +kernel
theorem dX9_isWord_63 : decode cX9_isWord 63 = .ok (.iconst 0, 1) := by decide +kernel
theorem dX9_isWord_64 : decode cX9_isWord 64 = .ok (.istore_n 3, 1) := by decide +kernel
theorem dX9_isWord_65 : decode cX9_isWord 65 = .ok (.iconst 0, 1) := by decide +kernel
theorem dX9_isWord_66 : decode cX9_isWord 66 = .ok (.istore 4, 2) := by decide +kernel
theorem dX9_isWord_68 : decode cX9_isWord 68 = .ok (.iload_n 3, 1) := by decide +kernel
theorem dX9_isWord_69 : decode cX9_isWord 69 = .ok (.ifCond .eq 45, 3) := by decide +kernel
theorem dX9_isWord_72 : decode cX9_isWord 72 = .ok (.iload 4, 2) := by decide +kernel
theorem dX9_isWord_74 : decode cX9_isWord 74 = .ok (.aload_n 1, 1) := by decide +kernel
theorem dX9_isWord_75 : decode cX9_isWord 75 = .ok (.invokevirtual 64, 3) := by decide +kernel
theorem dX9_isWord_78 : decode cX9_isWord 78 = .ok (.if_icmp .ge 36, 3) := by decide +kernel
theorem dX9_isWord_81 : decode cX9_isWord 81 = .ok (.aload_n 0, 1) := by decide +kernel
theorem dX9_isWord_82 : decode cX9_isWord 82 = .ok (.getfield 19, 3) := by decide +kernel
theorem dX9_isWord_85 : decode cX9_isWord 85 = .ok (.aload_n 0, 1) := by decide +kernel
theorem dX9_isWord_86 : decode cX9_isWord 86 = .ok (.getfield 54, 3) := by decide +kernel
theorem dX9_isWord_89 : decode cX9_isWord 89 = .ok (.iload 4, 2) := by decide +kernel
theorem dX9_isWord_91 : decode cX9_isWord 91 = .ok (.iadd, 1) := by decide +kernel
theorem dX9_isWord_92 : decode cX9_isWord 92 = .ok (.iaload, 1) := by decide +kernel
theorem dX9_isWord_93 : decode cX9_isWord 93 = .ok (.aload_n 1, 1) := by decide +kernel
theorem dX9_isWord_94 : decode cX9_isWord 94 = .ok (.iload 4, 2) := by decide +kernel
theorem dX9_isWord_96 : decode cX9_isWord 96 = .ok (.invokevirtual 69, 3) := by decide +kernel
theorem dX9_isWord_99 : decode cX9_isWord 99 = .ok (.if_icmp .ne 7, 3) := by decide +kernel
theorem dX9_isWord_102 : decode cX9_isWord 102 = .ok (.iconst 1, 1) := by decide +kernel
theorem dX9_isWord_103 : decode cX9_isWord 103 = .ok (.goto 4, 3) := by decide +kernel
theorem dX9_isWord_106 : decode cX9_isWord 106 = .ok (.iconst 0, 1) := by decide +kernel
theorem dX9_isWord_107 : decode cX9_isWord 107 = .ok (.istore_n 3, 1) := by decide +kernel
theorem dX9_isWord_108 : decode cX9_isWord 108 = .ok (.iinc 4 1, 3) := by decide +kernel
theorem dX9_isWord_111 : decode cX9_isWord 111 = .ok (.goto (-43), 3) := by decide +kernel
theorem dX9_isWord_114 : decode cX9_isWord 114 = .ok (.iload_n 3, 1) := by decide +kernel
theorem dX9_isWord_115 : decode cX9_isWord 115 = .ok (.ireturn, 1) := by decide +kernel
theorem dX9_takes_0 : decode cX9_takes 0 = .ok (.aload_n 0, 1) := by decide +kernel
theorem dX9_takes_1 : decode cX9_takes 1 = .ok (.getfield 48, 3) := by decide +kernel
theorem dX9_takes_4 : decode cX9_takes 4 = .ok (.ifCond .ne 11, 3) := by decide +kernel
theorem dX9_takes_7 : decode cX9_takes 7 = .ok (.aload_n 0, 1) := by decide +kernel
theorem dX9_takes_8 : decode cX9_takes 8 = .ok (.aload_n 1, 1) := by decide +kernel
theorem dX9_takes_9 : decode cX9_takes 9 = .ok (.invokevirtual 73, 3) := by decide +kernel
theorem dX9_takes_12 : decode cX9_takes 12 = .ok (.ifCond .ne 5, 3) := by decide +kernel
theorem dX9_takes_15 : decode cX9_takes 15 = .ok (.iconst 0, 1) := by decide +kernel
theorem dX9_takes_16 : decode cX9_takes 16 = .ok (.ireturn, 1) := by decide +kernel
theorem dX9_takes_17 : decode cX9_takes 17 = .ok (.aload_n 0, 1) := by decide +kernel
theorem dX9_takes_18 : decode cX9_takes 18 = .ok (.dup, 1) := by decide +kernel
theorem dX9_takes_19 : decode cX9_takes 19 = .ok (.getfield 54, 3) := by decide +kernel
theorem dX9_takes_22 : decode cX9_takes 22 = .ok (.aload_n 1, 1) := by decide +kernel
theorem dX9_takes_23 : decode cX9_takes 23 = .ok (.invokevirtual 64, 3) := by decide +kernel
theorem dX9_takes_26 : decode cX9_takes 26 = .ok (.iadd, 1) := by decide +kernel
theorem dX9_takes_27 : decode cX9_takes 27 = .ok (.putfield 54, 3) := by decide +kernel
theorem dX9_takes_30 : decode cX9_takes 30 = .ok (.iconst 1, 1) := by decide +kernel
theorem dX9_takes_31 : decode cX9_takes 31 = .ok (.ireturn, 1) := by decide +kernel
theorem dX9_needs_0 : decode cX9_needs 0 = .ok (.aload_n 0, 1) := by decide +kernel
theorem dX9_needs_1 : decode cX9_needs 1 = .ok (.getfield 48, 3) := by decide +kernel
theorem dX9_needs_4 : decode cX9_needs 4 = .ok (.ifCond .eq 4, 3) := by decide +kernel
theorem dX9_needs_7 : decode cX9_needs 7 = .ok (.return_, 1) := by decide +kernel
theorem dX9_needs_8 : decode cX9_needs 8 = .ok (.aload_n 0, 1) := by decide +kernel
theorem dX9_needs_9 : decode cX9_needs 9 = .ok (.aload_n 1, 1) := by decide +kernel
theorem dX9_needs_10 : decode cX9_needs 10 = .ok (.invokevirtual 77, 3) := by decide +kernel
theorem dX9_needs_13 : decode cX9_needs 13 = .ok (.ifCond .ne 13, 3) := by decide +kernel
theorem dX9_needs_16 : decode cX9_needs 16 = .ok (.aload_n 0, 1) := by decide +kernel
theorem dX9_needs_17 : decode cX9_needs 17 = .ok (.bipush (-2), 2) := by decide +kernel
theorem dX9_needs_19 : decode cX9_needs 19 = .ok (.aload_n 0, 1) := by decide +kernel
theorem dX9_needs_20 : decode cX9_needs 20 = .ok (.getfield 54, 3) := by decide +kernel
theorem dX9_needs_23 : decode cX9_needs 23 = .ok (.invokevirtual 80, 3) := by decide +kernel
theorem dX9_needs_26 : decode cX9_needs 26 = .ok (.return_, 1) := by decide +kernel
theorem dX9_wants_0 : decode cX9_wants 0 = .ok (.aload_n 0, 1) := by decide +kernel
theorem dX9_wants_1 : decode cX9_wants 1 = .ok (.getfield 48, 3) := by decide +kernel
theorem dX9_wants_4 : decode cX9_wants 4 = .ok (.ifCond .eq 4, 3) := by decide +kernel
theorem dX9_wants_7 : decode cX9_wants 7 = .ok (.return_, 1) := by decide +kernel
theorem dX9_wants_8 : decode cX9_wants 8 = .ok (.aload_n 0, 1) := by decide +kernel
theorem dX9_wants_9 : decode cX9_wants 9 = .ok (.invokevirtual 60, 3) := by decide +kernel
theorem dX9_wants_12 : decode cX9_wants 12 = .ok (.iload_n 1, 1) := by decide +kernel
theorem dX9_wants_13 : decode cX9_wants 13 = .ok (.if_icmp .eq 16, 3) := by decide +kernel
theorem dX9_wants_16 : decode cX9_wants 16 = .ok (.aload_n 0, 1) := by decide +kernel
theorem dX9_wants_17 : decode cX9_wants 17 = .ok (.bipush (-2), 2) := by decide +kernel
theorem dX9_wants_19 : decode cX9_wants 19 = .ok (.aload_n 0, 1) := by decide +kernel
theorem dX9_wants_20 : decode cX9_wants 20 = .ok (.getfield 54, 3) := by decide +kernel
theorem dX9_wants_23 : decode cX9_wants 23 = .ok (.invokevirtual 80, 3) := by decide +kernel
theorem dX9_wants_26 : decode cX9_wants 26 = .ok (.goto 13, 3) := by decide +kernel
theorem dX9_wants_29 : decode cX9_wants 29 = .ok (.aload_n 0, 1) := by decide +kernel
theorem dX9_wants_30 : decode cX9_wants 30 = .ok (.dup, 1) := by decide +kernel
theorem dX9_wants_31 : decode cX9_wants 31 = .ok (.getfield 54, 3) := by decide +kernel
theorem dX9_wants_34 : decode cX9_wants 34 = .ok (.iconst 1, 1) := by decide +kernel
theorem dX9_wants_35 : decode cX9_wants 35 = .ok (.iadd, 1) := by decide +kernel
theorem dX9_wants_36 : decode cX9_wants 36 = .ok (.putfield 54, 3) := by decide +kernel
theorem dX9_wants_39 : decode cX9_wants 39 = .ok (.return_, 1) := by decide +kernel
theorem dX9_isDigit_0 : decode cX9_isDigit 0 = .ok (.aload_n 0, 1) := by decide +kernel
theorem dX9_isDigit_1 : decode cX9_isDigit 1 = .ok (.invokevirtual 60, 3) := by decide +kernel
theorem dX9_isDigit_4 : decode cX9_isDigit 4 = .ok (.bipush 48, 2) := by decide +kernel
theorem dX9_isDigit_6 : decode cX9_isDigit 6 = .ok (.if_icmp .lt 16, 3) := by decide +kernel
theorem dX9_isDigit_9 : decode cX9_isDigit 9 = .ok (.aload_n 0, 1) := by decide +kernel
theorem dX9_isDigit_10 : decode cX9_isDigit 10 = .ok (.invokevirtual 60, 3) := by decide +kernel
theorem dX9_isDigit_13 : decode cX9_isDigit 13 = .ok (.bipush 57, 2) := by decide +kernel
theorem dX9_isDigit_15 : decode cX9_isDigit 15 = .ok (.if_icmp .gt 7, 3) := by decide +kernel
theorem dX9_isDigit_18 : decode cX9_isDigit 18 = .ok (.iconst 1, 1) := by decide +kernel
theorem dX9_isDigit_19 : decode cX9_isDigit 19 = .ok (.goto 4, 3) := by decide +kernel
theorem dX9_isDigit_22 : decode cX9_isDigit 22 = .ok (.iconst 0, 1) := by decide +kernel
theorem dX9_isDigit_23 : decode cX9_isDigit 23 = .ok (.ireturn, 1) := by decide +kernel
theorem dX9_reads_0 : decode cX9_reads 0 = .ok (.aload_n 0, 1) := by decide +kernel
theorem dX9_reads_1 : decode cX9_reads 1 = .ok (.getfield 48, 3) := by decide +kernel
theorem dX9_reads_4 : decode cX9_reads 4 = .ok (.ifCond .eq 5, 3) := by decide +kernel
theorem dX9_reads_7 : decode cX9_reads 7 = .ok (.iconst 0, 1) := by decide +kernel
theorem dX9_reads_8 : decode cX9_reads 8 = .ok (.ireturn, 1) := by decide +kernel
theorem dX9_reads_9 : decode cX9_reads 9 = .ok (.aload_n 0, 1) := by decide +kernel
theorem dX9_reads_10 : decode cX9_reads 10 = .ok (.invokevirtual 84, 3) := by decide +kernel
theorem dX9_reads_13 : decode cX9_reads 13 = .ok (.ifCond .ne 15, 3) := by decide +kernel
theorem dX9_reads_16 : decode cX9_reads 16 = .ok (.aload_n 0, 1) := by decide +kernel
theorem dX9_reads_17 : decode cX9_reads 17 = .ok (.bipush (-2), 2) := by decide +kernel
theorem dX9_reads_19 : decode cX9_reads 19 = .ok (.aload_n 0, 1) := by decide +kernel
theorem dX9_reads_20 : decode cX9_reads 20 = .ok (.getfield 54, 3) := by decide +kernel
theorem dX9_reads_23 : decode cX9_reads 23 = .ok (.invokevirtual 80, 3) := by decide +kernel
theorem dX9_reads_26 : decode cX9_reads 26 = .ok (.iconst 0, 1) := by decide +kernel
theorem dX9_reads_27 : decode cX9_reads 27 = .ok (.ireturn, 1) := by decide +kernel
theorem dX9_reads_28 : decode cX9_reads 28 = .ok (.aload_n 0, 1) := by decide +kernel
theorem dX9_reads_29 : decode cX9_reads 29 = .ok (.aload_n 0, 1) := by decide +kernel
theorem dX9_reads_30 : decode cX9_reads 30 = .ok (.getfield 54, 3) := by decide +kernel
theorem dX9_reads_33 : decode cX9_reads 33 = .ok (.putfield 88, 3) := by decide +kernel
theorem dX9_reads_36 : decode cX9_reads 36 = .ok (.iconst 0, 1) := by decide +kernel
theorem dX9_reads_37 : decode cX9_reads 37 = .ok (.istore_n 3, 1) := by decide +kernel
theorem dX9_reads_38 : decode cX9_reads 38 = .ok (.aload_n 0, 1) := by decide +kernel
theorem dX9_reads_39 : decode cX9_reads 39 = .ok (.getfield 54, 3) := by decide +kernel
theorem dX9_reads_42 : decode cX9_reads 42 = .ok (.aload_n 0, 1) := by decide +kernel
theorem dX9_reads_43 : decode cX9_reads 43 = .ok (.getfield 57, 3) := by decide +kernel
theorem dX9_reads_46 : decode cX9_reads 46 = .ok (.if_icmp .ge 67, 3) := by decide +kernel
theorem dX9_reads_49 : decode cX9_reads 49 = .ok (.aload_n 0, 1) := by decide +kernel
theorem dX9_reads_50 : decode cX9_reads 50 = .ok (.getfield 19, 3) := by decide +kernel
theorem dX9_reads_53 : decode cX9_reads 53 = .ok (.aload_n 0, 1) := by decide +kernel
theorem dX9_reads_54 : decode cX9_reads 54 = .ok (.getfield 54, 3) := by decide +kernel
theorem dX9_reads_57 : decode cX9_reads 57 = .ok (.iaload, 1) := by decide +kernel
theorem dX9_reads_58 : decode cX9_reads 58 = .ok (.bipush 48, 2) := by decide +kernel
theorem dX9_reads_60 : decode cX9_reads 60 = .ok (.if_icmp .lt 53, 3) := by decide +kernel
theorem dX9_reads_63 : decode cX9_reads 63 = .ok (.aload_n 0, 1) := by decide +kernel
theorem dX9_reads_64 : decode cX9_reads 64 = .ok (.getfield 19, 3) := by decide +kernel
theorem dX9_reads_67 : decode cX9_reads 67 = .ok (.aload_n 0, 1) := by decide +kernel
theorem dX9_reads_68 : decode cX9_reads 68 = .ok (.getfield 54, 3) := by decide +kernel
theorem dX9_reads_71 : decode cX9_reads 71 = .ok (.iaload, 1) := by decide +kernel
theorem dX9_reads_72 : decode cX9_reads 72 = .ok (.bipush 57, 2) := by decide +kernel
theorem dX9_reads_74 : decode cX9_reads 74 = .ok (.if_icmp .gt 39, 3) := by decide +kernel
theorem dX9_reads_77 : decode cX9_reads 77 = .ok (.ldc 91, 2) := by decide +kernel
theorem dX9_reads_79 : decode cX9_reads 79 = .ok (.bipush 10, 2) := by decide +kernel
theorem dX9_reads_81 : decode cX9_reads 81 = .ok (.iload_n 3, 1) := by decide +kernel
theorem dX9_reads_82 : decode cX9_reads 82 = .ok (.imul, 1) := by decide +kernel
theorem dX9_reads_83 : decode cX9_reads 83 = .ok (.aload_n 0, 1) := by decide +kernel
theorem dX9_reads_84 : decode cX9_reads 84 = .ok (.getfield 19, 3) := by decide +kernel
theorem dX9_reads_87 : decode cX9_reads 87 = .ok (.aload_n 0, 1) := by decide +kernel
theorem dX9_reads_88 : decode cX9_reads 88 = .ok (.getfield 54, 3) := by decide +kernel
theorem dX9_reads_91 : decode cX9_reads 91 = .ok (.iaload, 1) := by decide +kernel
theorem dX9_reads_92 : decode cX9_reads 92 = .ok (.iadd, 1) := by decide +kernel
theorem dX9_reads_93 : decode cX9_reads 93 = .ok (.bipush 48, 2) := by decide +kernel
theorem dX9_reads_95 : decode cX9_reads 95 = .ok (.isub, 1) := by decide +kernel
theorem dX9_reads_96 : decode cX9_reads 96 = .ok (.invokestatic 92, 3) := by decide +kernel
theorem dX9_reads_99 : decode cX9_reads 99 = .ok (.istore_n 3, 1) := by decide +kernel
theorem dX9_reads_100 : decode cX9_reads 100 = .ok (.aload_n 0, 1) := by decide +kernel
theorem dX9_reads_101 : decode cX9_reads 101 = .ok (.dup, 1) := by decide +kernel
theorem dX9_reads_102 : decode cX9_reads 102 = .ok (.getfield 54, 3) := by decide +kernel
theorem dX9_reads_105 : decode cX9_reads 105 = .ok (.iconst 1, 1) := by decide +kernel
theorem dX9_reads_106 : decode cX9_reads 106 = .ok (.iadd, 1) := by decide +kernel
theorem dX9_reads_107 : decode cX9_reads 107 = .ok (.putfield 54, 3) := by decide +kernel
theorem dX9_reads_110 : decode cX9_reads 110 = .ok (.goto (-72), 3) := by decide +kernel
theorem dX9_reads_113 : decode cX9_reads 113 = .ok (.iload_n 3, 1) := by decide +kernel
theorem dX9_reads_114 : decode cX9_reads 114 = .ok (.i2l, 1) := by decide +kernel
theorem dX9_reads_115 : decode cX9_reads 115 = .ok (.iload_n 1, 1) := by decide +kernel
theorem dX9_reads_116 : decode cX9_reads 116 = .ok (.i2l, 1) := by decide +kernel
theorem dX9_reads_117 : decode cX9_reads 117 = .ok (.iload_n 2, 1) := by decide +kernel
theorem dX9_reads_118 : decode cX9_reads 118 = .ok (.i2l, 1) := by decide +kernel
theorem dX9_reads_119 : decode cX9_reads 119 = .ok (.invokestatic 98, 3) := by decide +kernel
theorem dX9_reads_122 : decode cX9_reads 122 = .ok (.ifCond .ne 13, 3) := by decide +kernel
theorem dX9_reads_125 : decode cX9_reads 125 = .ok (.aload_n 0, 1) := by decide +kernel
theorem dX9_reads_126 : decode cX9_reads 126 = .ok (.bipush (-3), 2) := by decide +kernel
theorem dX9_reads_128 : decode cX9_reads 128 = .ok (.aload_n 0, 1) := by decide +kernel
theorem dX9_reads_129 : decode cX9_reads 129 = .ok (.getfield 88, 3) := by decide +kernel
theorem dX9_reads_132 : decode cX9_reads 132 = .ok (.invokevirtual 80, 3) := by decide +kernel
theorem dX9_reads_135 : decode cX9_reads 135 = .ok (.aload_n 0, 1) := by decide +kernel
theorem dX9_reads_136 : decode cX9_reads 136 = .ok (.getfield 48, 3) := by decide +kernel
theorem dX9_reads_139 : decode cX9_reads 139 = .ok (.ifCond .ne 7, 3) := by decide +kernel
theorem dX9_reads_142 : decode cX9_reads 142 = .ok (.iload_n 3, 1) := by decide +kernel
theorem dX9_reads_143 : decode cX9_reads 143 = .ok (.goto 4, 3) := by decide +kernel
theorem dX9_reads_146 : decode cX9_reads 146 = .ok (.iconst 0, 1) := by decide +kernel
theorem dX9_reads_147 : decode cX9_reads 147 = .ok (.ireturn, 1) := by decide +kernel
theorem dX9_codes_0 : decode cX9_codes 0 = .ok (.aload_n 0, 1) := by decide +kernel
theorem dX9_codes_1 : decode cX9_codes 1 = .ok (.getfield 48, 3) := by decide +kernel
theorem dX9_codes_4 : decode cX9_codes 4 = .ok (.ifCond .eq 4, 3) := by decide +kernel
theorem dX9_codes_7 : decode cX9_codes 7 = .ok (.return_, 1) := by decide +kernel
theorem dX9_codes_8 : decode cX9_codes 8 = .ok (.aload_n 0, 1) := by decide +kernel
theorem dX9_codes_9 : decode cX9_codes 9 = .ok (.getfield 13, 3) := by decide +kernel
theorem dX9_codes_12 : decode cX9_codes 12 = .ok (.sipush 600, 3) := by decide +kernel
theorem dX9_codes_15 : decode cX9_codes 15 = .ok (.aload_n 0, 1) := by decide +kernel
theorem dX9_codes_16 : decode cX9_codes 16 = .ok (.getfield 13, 3) := by decide +kernel
theorem dX9_codes_19 : decode cX9_codes 19 = .ok (.iconst 3, 1) := by decide +kernel
theorem dX9_codes_20 : decode cX9_codes 20 = .ok (.laload, 1) := by decide +kernel
theorem dX9_codes_21 : decode cX9_codes 21 = .ok (.l2i, 1) := by decide +kernel
theorem dX9_codes_22 : decode cX9_codes 22 = .ok (.iadd, 1) := by decide +kernel
theorem dX9_codes_23 : decode cX9_codes 23 = .ok (.iload_n 1, 1) := by decide +kernel
theorem dX9_codes_24 : decode cX9_codes 24 = .ok (.i2l, 1) := by decide +kernel
theorem dX9_codes_25 : decode cX9_codes 25 = .ok (.lastore, 1) := by decide +kernel
theorem dX9_codes_26 : decode cX9_codes 26 = .ok (.aload_n 0, 1) := by decide +kernel
theorem dX9_codes_27 : decode cX9_codes 27 = .ok (.getfield 13, 3) := by decide +kernel
theorem dX9_codes_30 : decode cX9_codes 30 = .ok (.sipush 600, 3) := by decide +kernel
theorem dX9_codes_33 : decode cX9_codes 33 = .ok (.aload_n 0, 1) := by decide +kernel
theorem dX9_codes_34 : decode cX9_codes 34 = .ok (.getfield 13, 3) := by decide +kernel
theorem dX9_codes_37 : decode cX9_codes 37 = .ok (.iconst 3, 1) := by decide +kernel
theorem dX9_codes_38 : decode cX9_codes 38 = .ok (.laload, 1) := by decide +kernel
theorem dX9_codes_39 : decode cX9_codes 39 = .ok (.l2i, 1) := by decide +kernel
theorem dX9_codes_40 : decode cX9_codes 40 = .ok (.iadd, 1) := by decide +kernel
theorem dX9_codes_41 : decode cX9_codes 41 = .ok (.iconst 1, 1) := by decide +kernel
theorem dX9_codes_42 : decode cX9_codes 42 = .ok (.iadd, 1) := by decide +kernel
theorem dX9_codes_43 : decode cX9_codes 43 = .ok (.iload_n 2, 1) := by decide +kernel
theorem dX9_codes_44 : decode cX9_codes 44 = .ok (.i2l, 1) := by decide +kernel
theorem dX9_codes_45 : decode cX9_codes 45 = .ok (.lastore, 1) := by decide +kernel
theorem dX9_codes_46 : decode cX9_codes 46 = .ok (.aload_n 0, 1) := by decide +kernel
theorem dX9_codes_47 : decode cX9_codes 47 = .ok (.getfield 13, 3) := by decide +kernel
theorem dX9_codes_50 : decode cX9_codes 50 = .ok (.iconst 3, 1) := by decide +kernel
theorem dX9_codes_51 : decode cX9_codes 51 = .ok (.dup2, 1) := by decide +kernel
theorem dX9_codes_52 : decode cX9_codes 52 = .ok (.laload, 1) := by decide +kernel
theorem dX9_codes_53 : decode cX9_codes 53 = .ok (.ldc2_w 102, 3) := by decide +kernel
theorem dX9_codes_56 : decode cX9_codes 56 = .ok (.ladd, 1) := by decide +kernel
theorem dX9_codes_57 : decode cX9_codes 57 = .ok (.lastore, 1) := by decide +kernel
theorem dX9_codes_58 : decode cX9_codes 58 = .ok (.return_, 1) := by decide +kernel
theorem dX9_sum_0 : decode cX9_sum 0 = .ok (.aload_n 0, 1) := by decide +kernel
theorem dX9_sum_1 : decode cX9_sum 1 = .ok (.invokevirtual 104, 3) := by decide +kernel
theorem dX9_sum_4 : decode cX9_sum 4 = .ok (.aload_n 0, 1) := by decide +kernel
theorem dX9_sum_5 : decode cX9_sum 5 = .ok (.getfield 48, 3) := by decide +kernel
theorem dX9_sum_8 : decode cX9_sum 8 = .ok (.ifCond .ne 54, 3) := by decide +kernel
theorem dX9_sum_11 : decode cX9_sum 11 = .ok (.aload_n 0, 1) := by decide +kernel
theorem dX9_sum_12 : decode cX9_sum 12 = .ok (.invokevirtual 60, 3) := by decide +kernel
theorem dX9_sum_15 : decode cX9_sum 15 = .ok (.bipush 43, 2) := by decide +kernel
theorem dX9_sum_17 : decode cX9_sum 17 = .ok (.if_icmp .eq 12, 3) := by decide +kernel
theorem dX9_sum_20 : decode cX9_sum 20 = .ok (.aload_n 0, 1) := by decide +kernel
theorem dX9_sum_21 : decode cX9_sum 21 = .ok (.invokevirtual 60, 3) := by decide +kernel
theorem dX9_sum_24 : decode cX9_sum 24 = .ok (.bipush 45, 2) := by decide +kernel
theorem dX9_sum_26 : decode cX9_sum 26 = .ok (.if_icmp .ne 36, 3) := by decide +kernel
theorem dX9_sum_29 : decode cX9_sum 29 = .ok (.aload_n 0, 1) := by decide +kernel
theorem dX9_sum_30 : decode cX9_sum 30 = .ok (.getfield 19, 3) := by decide +kernel
theorem dX9_sum_33 : decode cX9_sum 33 = .ok (.aload_n 0, 1) := by decide +kernel
theorem dX9_sum_34 : decode cX9_sum 34 = .ok (.getfield 54, 3) := by decide +kernel
theorem dX9_sum_37 : decode cX9_sum 37 = .ok (.iaload, 1) := by decide +kernel
theorem dX9_sum_38 : decode cX9_sum 38 = .ok (.istore_n 1, 1) := by decide +kernel
theorem dX9_sum_39 : decode cX9_sum 39 = .ok (.aload_n 0, 1) := by decide +kernel
theorem dX9_sum_40 : decode cX9_sum 40 = .ok (.dup, 1) := by decide +kernel
theorem dX9_sum_41 : decode cX9_sum 41 = .ok (.getfield 54, 3) := by decide +kernel
theorem dX9_sum_44 : decode cX9_sum 44 = .ok (.iconst 1, 1) := by decide +kernel
theorem dX9_sum_45 : decode cX9_sum 45 = .ok (.iadd, 1) := by decide +kernel
theorem dX9_sum_46 : decode cX9_sum 46 = .ok (.putfield 54, 3) := by decide +kernel
theorem dX9_sum_49 : decode cX9_sum 49 = .ok (.aload_n 0, 1) := by decide +kernel
theorem dX9_sum_50 : decode cX9_sum 50 = .ok (.invokevirtual 104, 3) := by decide +kernel
theorem dX9_sum_53 : decode cX9_sum 53 = .ok (.aload_n 0, 1) := by decide +kernel
theorem dX9_sum_54 : decode cX9_sum 54 = .ok (.iload_n 1, 1) := by decide +kernel
theorem dX9_sum_55 : decode cX9_sum 55 = .ok (.iconst 0, 1) := by decide +kernel
theorem dX9_sum_56 : decode cX9_sum 56 = .ok (.invokevirtual 107, 3) := by decide +kernel
theorem dX9_sum_59 : decode cX9_sum 59 = .ok (.goto (-55), 3) := by decide +kernel
theorem dX9_sum_62 : decode cX9_sum 62 = .ok (.return_, 1) := by decide +kernel
theorem dX9_term_0 : decode cX9_term 0 = .ok (.aload_n 0, 1) := by decide +kernel
theorem dX9_term_1 : decode cX9_term 1 = .ok (.invokevirtual 110, 3) := by decide +kernel
theorem dX9_term_4 : decode cX9_term 4 = .ok (.aload_n 0, 1) := by decide +kernel
theorem dX9_term_5 : decode cX9_term 5 = .ok (.getfield 48, 3) := by decide +kernel
theorem dX9_term_8 : decode cX9_term 8 = .ok (.ifCond .ne 54, 3) := by decide +kernel
theorem dX9_term_11 : decode cX9_term 11 = .ok (.aload_n 0, 1) := by decide +kernel
theorem dX9_term_12 : decode cX9_term 12 = .ok (.invokevirtual 60, 3) := by decide +kernel
theorem dX9_term_15 : decode cX9_term 15 = .ok (.bipush 42, 2) := by decide +kernel
theorem dX9_term_17 : decode cX9_term 17 = .ok (.if_icmp .eq 12, 3) := by decide +kernel
theorem dX9_term_20 : decode cX9_term 20 = .ok (.aload_n 0, 1) := by decide +kernel
theorem dX9_term_21 : decode cX9_term 21 = .ok (.invokevirtual 60, 3) := by decide +kernel
theorem dX9_term_24 : decode cX9_term 24 = .ok (.bipush 47, 2) := by decide +kernel
theorem dX9_term_26 : decode cX9_term 26 = .ok (.if_icmp .ne 36, 3) := by decide +kernel
theorem dX9_term_29 : decode cX9_term 29 = .ok (.aload_n 0, 1) := by decide +kernel
theorem dX9_term_30 : decode cX9_term 30 = .ok (.getfield 19, 3) := by decide +kernel
theorem dX9_term_33 : decode cX9_term 33 = .ok (.aload_n 0, 1) := by decide +kernel
theorem dX9_term_34 : decode cX9_term 34 = .ok (.getfield 54, 3) := by decide +kernel
theorem dX9_term_37 : decode cX9_term 37 = .ok (.iaload, 1) := by decide +kernel
theorem dX9_term_38 : decode cX9_term 38 = .ok (.istore_n 1, 1) := by decide +kernel
theorem dX9_term_39 : decode cX9_term 39 = .ok (.aload_n 0, 1) := by decide +kernel
theorem dX9_term_40 : decode cX9_term 40 = .ok (.dup, 1) := by decide +kernel
theorem dX9_term_41 : decode cX9_term 41 = .ok (.getfield 54, 3) := by decide +kernel
theorem dX9_term_44 : decode cX9_term 44 = .ok (.iconst 1, 1) := by decide +kernel
theorem dX9_term_45 : decode cX9_term 45 = .ok (.iadd, 1) := by decide +kernel
theorem dX9_term_46 : decode cX9_term 46 = .ok (.putfield 54, 3) := by decide +kernel
theorem dX9_term_49 : decode cX9_term 49 = .ok (.aload_n 0, 1) := by decide +kernel
theorem dX9_term_50 : decode cX9_term 50 = .ok (.invokevirtual 110, 3) := by decide +kernel
theorem dX9_term_53 : decode cX9_term 53 = .ok (.aload_n 0, 1) := by decide +kernel
theorem dX9_term_54 : decode cX9_term 54 = .ok (.iload_n 1, 1) := by decide +kernel
theorem dX9_term_55 : decode cX9_term 55 = .ok (.iconst 0, 1) := by decide +kernel
theorem dX9_term_56 : decode cX9_term 56 = .ok (.invokevirtual 107, 3) := by decide +kernel
theorem dX9_term_59 : decode cX9_term 59 = .ok (.goto (-55), 3) := by decide +kernel
theorem dX9_term_62 : decode cX9_term 62 = .ok (.return_, 1) := by decide +kernel
theorem dX9_factor_0 : decode cX9_factor 0 = .ok (.aload_n 0, 1) := by decide +kernel
theorem dX9_factor_1 : decode cX9_factor 1 = .ok (.getfield 48, 3) := by decide +kernel
theorem dX9_factor_4 : decode cX9_factor 4 = .ok (.ifCond .eq 4, 3) := by decide +kernel
theorem dX9_factor_7 : decode cX9_factor 7 = .ok (.return_, 1) := by decide +kernel
theorem dX9_factor_8 : decode cX9_factor 8 = .ok (.aload_n 0, 1) := by decide +kernel
theorem dX9_factor_9 : decode cX9_factor 9 = .ok (.invokevirtual 60, 3) := by decide +kernel
theorem dX9_factor_12 : decode cX9_factor 12 = .ok (.bipush 40, 2) := by decide +kernel
theorem dX9_factor_14 : decode cX9_factor 14 = .ok (.if_icmp .ne 65, 3) := by decide +kernel
theorem dX9_factor_17 : decode cX9_factor 17 = .ok (.aload_n 0, 1) := by decide +kernel
theorem dX9_factor_18 : decode cX9_factor 18 = .ok (.getfield 113, 3) := by decide +kernel
theorem dX9_factor_21 : decode cX9_factor 21 = .ok (.iconst 4, 1) := by decide +kernel
theorem dX9_factor_22 : decode cX9_factor 22 = .ok (.if_icmp .ne 14, 3) := by decide +kernel
theorem dX9_factor_25 : decode cX9_factor 25 = .ok (.aload_n 0, 1) := by decide +kernel
theorem dX9_factor_26 : decode cX9_factor 26 = .ok (.bipush (-5), 2) := by decide +kernel
theorem dX9_factor_28 : decode cX9_factor 28 = .ok (.aload_n 0, 1) := by decide +kernel
theorem dX9_factor_29 : decode cX9_factor 29 = .ok (.getfield 54, 3) := by decide +kernel
theorem dX9_factor_32 : decode cX9_factor 32 = .ok (.invokevirtual 80, 3) := by decide +kernel
theorem dX9_factor_35 : decode cX9_factor 35 = .ok (.return_, 1) := by decide +kernel
theorem dX9_factor_36 : decode cX9_factor 36 = .ok (.aload_n 0, 1) := by decide +kernel
theorem dX9_factor_37 : decode cX9_factor 37 = .ok (.dup, 1) := by decide +kernel
theorem dX9_factor_38 : decode cX9_factor 38 = .ok (.getfield 113, 3) := by decide +kernel
theorem dX9_factor_41 : decode cX9_factor 41 = .ok (.iconst 1, 1) := by decide +kernel
theorem dX9_factor_42 : decode cX9_factor 42 = .ok (.iadd, 1) := by decide +kernel
theorem dX9_factor_43 : decode cX9_factor 43 = .ok (.putfield 113, 3) := by decide +kernel
theorem dX9_factor_46 : decode cX9_factor 46 = .ok (.aload_n 0, 1) := by decide +kernel
theorem dX9_factor_47 : decode cX9_factor 47 = .ok (.dup, 1) := by decide +kernel
theorem dX9_factor_48 : decode cX9_factor 48 = .ok (.getfield 54, 3) := by decide +kernel
theorem dX9_factor_51 : decode cX9_factor 51 = .ok (.iconst 1, 1) := by decide +kernel
theorem dX9_factor_52 : decode cX9_factor 52 = .ok (.iadd, 1) := by decide +kernel
theorem dX9_factor_53 : decode cX9_factor 53 = .ok (.putfield 54, 3) := by decide +kernel
theorem dX9_factor_56 : decode cX9_factor 56 = .ok (.aload_n 0, 1) := by decide +kernel
theorem dX9_factor_57 : decode cX9_factor 57 = .ok (.invokevirtual 116, 3) := by decide +kernel
theorem dX9_factor_60 : decode cX9_factor 60 = .ok (.aload_n 0, 1) := by decide +kernel
theorem dX9_factor_61 : decode cX9_factor 61 = .ok (.bipush 41, 2) := by decide +kernel
theorem dX9_factor_63 : decode cX9_factor 63 = .ok (.invokevirtual 119, 3) := by decide +kernel
theorem dX9_factor_66 : decode cX9_factor 66 = .ok (.aload_n 0, 1) := by decide +kernel
theorem dX9_factor_67 : decode cX9_factor 67 = .ok (.dup, 1) := by decide +kernel
theorem dX9_factor_68 : decode cX9_factor 68 = .ok (.getfield 113, 3) := by decide +kernel
theorem dX9_factor_71 : decode cX9_factor 71 = .ok (.iconst 1, 1) := by decide +kernel
theorem dX9_factor_72 : decode cX9_factor 72 = .ok (.isub, 1) := by decide +kernel
theorem dX9_factor_73 : decode cX9_factor 73 = .ok (.putfield 113, 3) := by decide +kernel
theorem dX9_factor_76 : decode cX9_factor 76 = .ok (.goto 90, 3) := by decide +kernel
theorem dX9_factor_79 : decode cX9_factor 79 = .ok (.aload_n 0, 1) := by decide +kernel
theorem dX9_factor_80 : decode cX9_factor 80 = .ok (.invokevirtual 84, 3) := by decide +kernel
theorem dX9_factor_83 : decode cX9_factor 83 = .ok (.ifCond .eq 19, 3) := by decide +kernel
theorem dX9_factor_86 : decode cX9_factor 86 = .ok (.aload_n 0, 1) := by decide +kernel
theorem dX9_factor_87 : decode cX9_factor 87 = .ok (.iconst 0, 1) := by decide +kernel
theorem dX9_factor_88 : decode cX9_factor 88 = .ok (.aload_n 0, 1) := by decide +kernel
theorem dX9_factor_89 : decode cX9_factor 89 = .ok (.iconst 0, 1) := by decide +kernel
theorem dX9_factor_90 : decode cX9_factor 90 = .ok (.sipush 9999, 3) := by decide +kernel
theorem dX9_factor_93 : decode cX9_factor 93 = .ok (.invokevirtual 123, 3) := by decide +kernel
theorem dX9_factor_96 : decode cX9_factor 96 = .ok (.invokevirtual 107, 3) := by decide +kernel
theorem dX9_factor_99 : decode cX9_factor 99 = .ok (.goto 67, 3) := by decide +kernel
theorem dX9_factor_102 : decode cX9_factor 102 = .ok (.aload_n 0, 1) := by decide +kernel
theorem dX9_factor_103 : decode cX9_factor 103 = .ok (.ldc 126, 2) := by decide +kernel
theorem dX9_factor_105 : decode cX9_factor 105 = .ok (.invokevirtual 77, 3) := by decide +kernel
theorem dX9_factor_108 : decode cX9_factor 108 = .ok (.ifCond .eq 12, 3) := by decide +kernel
theorem dX9_factor_111 : decode cX9_factor 111 = .ok (.aload_n 0, 1) := by decide +kernel
theorem dX9_factor_112 : decode cX9_factor 112 = .ok (.iconst 1, 1) := by decide +kernel
theorem dX9_factor_113 : decode cX9_factor 113 = .ok (.iconst 0, 1) := by decide +kernel
theorem dX9_factor_114 : decode cX9_factor 114 = .ok (.invokevirtual 107, 3) := by decide +kernel
theorem dX9_factor_117 : decode cX9_factor 117 = .ok (.goto 49, 3) := by decide +kernel
theorem dX9_factor_120 : decode cX9_factor 120 = .ok (.aload_n 0, 1) := by decide +kernel
theorem dX9_factor_121 : decode cX9_factor 121 = .ok (.ldc 128, 2) := by decide +kernel
theorem dX9_factor_123 : decode cX9_factor 123 = .ok (.invokevirtual 77, 3) := by decide +kernel
theorem dX9_factor_126 : decode cX9_factor 126 = .ok (.ifCond .eq 12, 3) := by decide +kernel
theorem dX9_factor_129 : decode cX9_factor 129 = .ok (.aload_n 0, 1) := by decide +kernel
theorem dX9_factor_130 : decode cX9_factor 130 = .ok (.iconst 1, 1) := by decide +kernel
theorem dX9_factor_131 : decode cX9_factor 131 = .ok (.iconst 1, 1) := by decide +kernel
theorem dX9_factor_132 : decode cX9_factor 132 = .ok (.invokevirtual 107, 3) := by decide +kernel
theorem dX9_factor_135 : decode cX9_factor 135 = .ok (.goto 31, 3) := by decide +kernel
theorem dX9_factor_138 : decode cX9_factor 138 = .ok (.aload_n 0, 1) := by decide +kernel
theorem dX9_factor_139 : decode cX9_factor 139 = .ok (.ldc 130, 2) := by decide +kernel
theorem dX9_factor_141 : decode cX9_factor 141 = .ok (.invokevirtual 77, 3) := by decide +kernel
theorem dX9_factor_144 : decode cX9_factor 144 = .ok (.ifCond .eq 12, 3) := by decide +kernel
theorem dX9_factor_147 : decode cX9_factor 147 = .ok (.aload_n 0, 1) := by decide +kernel
theorem dX9_factor_148 : decode cX9_factor 148 = .ok (.iconst 1, 1) := by decide +kernel
theorem dX9_factor_149 : decode cX9_factor 149 = .ok (.iconst 2, 1) := by decide +kernel
theorem dX9_factor_150 : decode cX9_factor 150 = .ok (.invokevirtual 107, 3) := by decide +kernel
theorem dX9_factor_153 : decode cX9_factor 153 = .ok (.goto 13, 3) := by decide +kernel
theorem dX9_factor_156 : decode cX9_factor 156 = .ok (.aload_n 0, 1) := by decide +kernel
theorem dX9_factor_157 : decode cX9_factor 157 = .ok (.bipush (-2), 2) := by decide +kernel
theorem dX9_factor_159 : decode cX9_factor 159 = .ok (.aload_n 0, 1) := by decide +kernel
theorem dX9_factor_160 : decode cX9_factor 160 = .ok (.getfield 54, 3) := by decide +kernel
theorem dX9_factor_163 : decode cX9_factor 163 = .ok (.invokevirtual 80, 3) := by decide +kernel
theorem dX9_factor_166 : decode cX9_factor 166 = .ok (.return_, 1) := by decide +kernel
theorem dX9_first_0 : decode cX9_first 0 = .ok (.aload_n 0, 1) := by decide +kernel
theorem dX9_first_1 : decode cX9_first 1 = .ok (.getfield 132, 3) := by decide +kernel
theorem dX9_first_4 : decode cX9_first 4 = .ok (.iload_n 1, 1) := by decide +kernel
theorem dX9_first_5 : decode cX9_first 5 = .ok (.ishr, 1) := by decide +kernel
theorem dX9_first_6 : decode cX9_first 6 = .ok (.iconst 1, 1) := by decide +kernel
theorem dX9_first_7 : decode cX9_first 7 = .ok (.iand, 1) := by decide +kernel
theorem dX9_first_8 : decode cX9_first 8 = .ok (.iconst 1, 1) := by decide +kernel
theorem dX9_first_9 : decode cX9_first 9 = .ok (.if_icmp .ne 10, 3) := by decide +kernel
theorem dX9_first_12 : decode cX9_first 12 = .ok (.aload_n 0, 1) := by decide +kernel
theorem dX9_first_13 : decode cX9_first 13 = .ok (.bipush (-2), 2) := by decide +kernel
theorem dX9_first_15 : decode cX9_first 15 = .ok (.iload_n 2, 1) := by decide +kernel
theorem dX9_first_16 : decode cX9_first 16 = .ok (.invokevirtual 80, 3) := by decide +kernel
theorem dX9_first_19 : decode cX9_first 19 = .ok (.aload_n 0, 1) := by decide +kernel
theorem dX9_first_20 : decode cX9_first 20 = .ok (.dup, 1) := by decide +kernel
theorem dX9_first_21 : decode cX9_first 21 = .ok (.getfield 132, 3) := by decide +kernel
theorem dX9_first_24 : decode cX9_first 24 = .ok (.iconst 1, 1) := by decide +kernel
theorem dX9_first_25 : decode cX9_first 25 = .ok (.iload_n 1, 1) := by decide +kernel
theorem dX9_first_26 : decode cX9_first 26 = .ok (.ishl, 1) := by decide +kernel
theorem dX9_first_27 : decode cX9_first 27 = .ok (.ior, 1) := by decide +kernel
theorem dX9_first_28 : decode cX9_first 28 = .ok (.putfield 132, 3) := by decide +kernel
theorem dX9_first_31 : decode cX9_first 31 = .ok (.aload_n 0, 1) := by decide +kernel
theorem dX9_first_32 : decode cX9_first 32 = .ok (.getfield 48, 3) := by decide +kernel
theorem dX9_first_35 : decode cX9_first 35 = .ok (.ifCond .ne 7, 3) := by decide +kernel
theorem dX9_first_38 : decode cX9_first 38 = .ok (.iconst 1, 1) := by decide +kernel
theorem dX9_first_39 : decode cX9_first 39 = .ok (.goto 4, 3) := by decide +kernel
theorem dX9_first_42 : decode cX9_first 42 = .ok (.iconst 0, 1) := by decide +kernel
theorem dX9_first_43 : decode cX9_first 43 = .ok (.ireturn, 1) := by decide +kernel
theorem dX9_terms_0 : decode cX9_terms 0 = .ok (.aload_n 0, 1) := by decide +kernel
theorem dX9_terms_1 : decode cX9_terms 1 = .ok (.getfield 13, 3) := by decide +kernel
theorem dX9_terms_4 : decode cX9_terms 4 = .ok (.iload_n 1, 1) := by decide +kernel
theorem dX9_terms_5 : decode cX9_terms 5 = .ok (.iconst 1, 1) := by decide +kernel
theorem dX9_terms_6 : decode cX9_terms 6 = .ok (.iadd, 1) := by decide +kernel
theorem dX9_terms_7 : decode cX9_terms 7 = .ok (.aload_n 0, 1) := by decide +kernel
theorem dX9_terms_8 : decode cX9_terms 8 = .ok (.iconst 0, 1) := by decide +kernel
theorem dX9_terms_9 : decode cX9_terms 9 = .ok (.bipush 20, 2) := by decide +kernel
theorem dX9_terms_11 : decode cX9_terms 11 = .ok (.invokevirtual 123, 3) := by decide +kernel
theorem dX9_terms_14 : decode cX9_terms 14 = .ok (.i2l, 1) := by decide +kernel
theorem dX9_terms_15 : decode cX9_terms 15 = .ok (.lastore, 1) := by decide +kernel
theorem dX9_terms_16 : decode cX9_terms 16 = .ok (.aload_n 0, 1) := by decide +kernel
theorem dX9_terms_17 : decode cX9_terms 17 = .ok (.getfield 13, 3) := by decide +kernel
theorem dX9_terms_20 : decode cX9_terms 20 = .ok (.iload_n 1, 1) := by decide +kernel
theorem dX9_terms_21 : decode cX9_terms 21 = .ok (.iconst 2, 1) := by decide +kernel
theorem dX9_terms_22 : decode cX9_terms 22 = .ok (.iadd, 1) := by decide +kernel
theorem dX9_terms_23 : decode cX9_terms 23 = .ok (.aload_n 0, 1) := by decide +kernel
theorem dX9_terms_24 : decode cX9_terms 24 = .ok (.iconst 0, 1) := by decide +kernel
theorem dX9_terms_25 : decode cX9_terms 25 = .ok (.bipush 20, 2) := by decide +kernel
theorem dX9_terms_27 : decode cX9_terms 27 = .ok (.invokevirtual 123, 3) := by decide +kernel
theorem dX9_terms_30 : decode cX9_terms 30 = .ok (.i2l, 1) := by decide +kernel
theorem dX9_terms_31 : decode cX9_terms 31 = .ok (.lastore, 1) := by decide +kernel
theorem dX9_terms_32 : decode cX9_terms 32 = .ok (.aload_n 0, 1) := by decide +kernel
theorem dX9_terms_33 : decode cX9_terms 33 = .ok (.getfield 13, 3) := by decide +kernel
theorem dX9_terms_36 : decode cX9_terms 36 = .ok (.iload_n 1, 1) := by decide +kernel
theorem dX9_terms_37 : decode cX9_terms 37 = .ok (.iconst 3, 1) := by decide +kernel
theorem dX9_terms_38 : decode cX9_terms 38 = .ok (.iadd, 1) := by decide +kernel
theorem dX9_terms_39 : decode cX9_terms 39 = .ok (.aload_n 0, 1) := by decide +kernel
theorem dX9_terms_40 : decode cX9_terms 40 = .ok (.iconst 0, 1) := by decide +kernel
theorem dX9_terms_41 : decode cX9_terms 41 = .ok (.bipush 60, 2) := by decide +kernel
theorem dX9_terms_43 : decode cX9_terms 43 = .ok (.invokevirtual 123, 3) := by decide +kernel
theorem dX9_terms_46 : decode cX9_terms 46 = .ok (.i2l, 1) := by decide +kernel
theorem dX9_terms_47 : decode cX9_terms 47 = .ok (.lastore, 1) := by decide +kernel
theorem dX9_terms_48 : decode cX9_terms 48 = .ok (.return_, 1) := by decide +kernel
theorem dX9_subLine_0 : decode cX9_subLine 0 = .ok (.aload_n 0, 1) := by decide +kernel
theorem dX9_subLine_1 : decode cX9_subLine 1 = .ok (.getfield 13, 3) := by decide +kernel
theorem dX9_subLine_4 : decode cX9_subLine 4 = .ok (.iconst 0, 1) := by decide +kernel
theorem dX9_subLine_5 : decode cX9_subLine 5 = .ok (.laload, 1) := by decide +kernel
theorem dX9_subLine_6 : decode cX9_subLine 6 = .ok (.l2i, 1) := by decide +kernel
theorem dX9_subLine_7 : decode cX9_subLine 7 = .ok (.istore_n 2, 1) := by decide +kernel
theorem dX9_subLine_8 : decode cX9_subLine 8 = .ok (.iload_n 2, 1) := by decide +kernel
theorem dX9_subLine_9 : decode cX9_subLine 9 = .ok (.bipush 8, 2) := by decide +kernel
theorem dX9_subLine_11 : decode cX9_subLine 11 = .ok (.if_icmp .ne 10, 3) := by decide +kernel
theorem dX9_subLine_14 : decode cX9_subLine 14 = .ok (.aload_n 0, 1) := by decide +kernel
theorem dX9_subLine_15 : decode cX9_subLine 15 = .ok (.bipush (-4), 2) := by decide +kernel
theorem dX9_subLine_17 : decode cX9_subLine 17 = .ok (.iload_n 1, 1) := by decide +kernel
theorem dX9_subLine_18 : decode cX9_subLine 18 = .ok (.invokevirtual 80, 3) := by decide +kernel
theorem dX9_subLine_21 : decode cX9_subLine 21 = .ok (.aload_n 0, 1) := by decide +kernel
theorem dX9_subLine_22 : decode cX9_subLine 22 = .ok (.getfield 48, 3) := by decide +kernel
theorem dX9_subLine_25 : decode cX9_subLine 25 = .ok (.ifCond .eq 4, 3) := by decide +kernel
theorem dX9_subLine_28 : decode cX9_subLine 28 = .ok (.return_, 1) := by decide +kernel
theorem dX9_subLine_29 : decode cX9_subLine 29 = .ok (.bipush 20, 2) := by decide +kernel
theorem dX9_subLine_31 : decode cX9_subLine 31 = .ok (.bipush 26, 2) := by decide +kernel
theorem dX9_subLine_33 : decode cX9_subLine 33 = .ok (.iload_n 2, 1) := by decide +kernel
theorem dX9_subLine_34 : decode cX9_subLine 34 = .ok (.imul, 1) := by decide +kernel
theorem dX9_subLine_35 : decode cX9_subLine 35 = .ok (.iadd, 1) := by decide +kernel
theorem dX9_subLine_36 : decode cX9_subLine 36 = .ok (.istore_n 3, 1) := by decide +kernel
theorem dX9_subLine_37 : decode cX9_subLine 37 = .ok (.aload_n 0, 1) := by decide +kernel
theorem dX9_subLine_38 : decode cX9_subLine 38 = .ok (.getfield 13, 3) := by decide +kernel
theorem dX9_subLine_41 : decode cX9_subLine 41 = .ok (.iload_n 3, 1) := by decide +kernel
theorem dX9_subLine_42 : decode cX9_subLine 42 = .ok (.iconst 0, 1) := by decide +kernel
theorem dX9_subLine_43 : decode cX9_subLine 43 = .ok (.iadd, 1) := by decide +kernel
theorem dX9_subLine_44 : decode cX9_subLine 44 = .ok (.aload_n 0, 1) := by decide +kernel
theorem dX9_subLine_45 : decode cX9_subLine 45 = .ok (.iconst 0, 1) := by decide +kernel
theorem dX9_subLine_46 : decode cX9_subLine 46 = .ok (.iload_n 2, 1) := by decide +kernel
theorem dX9_subLine_47 : decode cX9_subLine 47 = .ok (.iconst 1, 1) := by decide +kernel
theorem dX9_subLine_48 : decode cX9_subLine 48 = .ok (.isub, 1) := by decide +kernel
theorem dX9_subLine_49 : decode cX9_subLine 49 = .ok (.invokevirtual 123, 3) := by decide +kernel
theorem dX9_subLine_52 : decode cX9_subLine 52 = .ok (.i2l, 1) := by decide +kernel
theorem dX9_subLine_53 : decode cX9_subLine 53 = .ok (.lastore, 1) := by decide +kernel
theorem dX9_subLine_54 : decode cX9_subLine 54 = .ok (.aload_n 0, 1) := by decide +kernel
theorem dX9_subLine_55 : decode cX9_subLine 55 = .ok (.iload_n 3, 1) := by decide +kernel
theorem dX9_subLine_56 : decode cX9_subLine 56 = .ok (.invokevirtual 135, 3) := by decide +kernel
theorem dX9_subLine_59 : decode cX9_subLine 59 = .ok (.aload_n 0, 1) := by decide +kernel
theorem dX9_subLine_60 : decode cX9_subLine 60 = .ok (.getfield 13, 3) := by decide +kernel
theorem dX9_subLine_63 : decode cX9_subLine 63 = .ok (.iload_n 3, 1) := by decide +kernel
theorem dX9_subLine_64 : decode cX9_subLine 64 = .ok (.iconst 4, 1) := by decide +kernel
theorem dX9_subLine_65 : decode cX9_subLine 65 = .ok (.iadd, 1) := by decide +kernel
theorem dX9_subLine_66 : decode cX9_subLine 66 = .ok (.aload_n 0, 1) := by decide +kernel
theorem dX9_subLine_67 : decode cX9_subLine 67 = .ok (.iconst 0, 1) := by decide +kernel
theorem dX9_subLine_68 : decode cX9_subLine 68 = .ok (.iconst 3, 1) := by decide +kernel
theorem dX9_subLine_69 : decode cX9_subLine 69 = .ok (.invokevirtual 123, 3) := by decide +kernel
theorem dX9_subLine_72 : decode cX9_subLine 72 = .ok (.i2l, 1) := by decide +kernel
theorem dX9_subLine_73 : decode cX9_subLine 73 = .ok (.lastore, 1) := by decide +kernel
theorem dX9_subLine_74 : decode cX9_subLine 74 = .ok (.aload_n 0, 1) := by decide +kernel
theorem dX9_subLine_75 : decode cX9_subLine 75 = .ok (.getfield 13, 3) := by decide +kernel
theorem dX9_subLine_78 : decode cX9_subLine 78 = .ok (.iload_n 3, 1) := by decide +kernel
theorem dX9_subLine_79 : decode cX9_subLine 79 = .ok (.iconst 5, 1) := by decide +kernel
theorem dX9_subLine_80 : decode cX9_subLine 80 = .ok (.iadd, 1) := by decide +kernel
theorem dX9_subLine_81 : decode cX9_subLine 81 = .ok (.aload_n 0, 1) := by decide +kernel
theorem dX9_subLine_82 : decode cX9_subLine 82 = .ok (.ldc 138, 2) := by decide +kernel
theorem dX9_subLine_84 : decode cX9_subLine 84 = .ok (.invokevirtual 77, 3) := by decide +kernel
theorem dX9_subLine_87 : decode cX9_subLine 87 = .ok (.ifCond .eq 7, 3) := by decide +kernel
theorem dX9_subLine_90 : decode cX9_subLine 90 = .ok (.lconst 1, 1) := by decide +kernel
theorem dX9_subLine_91 : decode cX9_subLine 91 = .ok (.goto 4, 3) := by decide +kernel
theorem dX9_subLine_94 : decode cX9_subLine 94 = .ok (.lconst 0, 1) := by decide +kernel
theorem dX9_subLine_95 : decode cX9_subLine 95 = .ok (.lastore, 1) := by decide +kernel
theorem dX9_subLine_96 : decode cX9_subLine 96 = .ok (.aload_n 0, 1) := by decide +kernel
theorem dX9_subLine_97 : decode cX9_subLine 97 = .ok (.getfield 13, 3) := by decide +kernel
theorem dX9_subLine_100 : decode cX9_subLine 100 = .ok (.iconst 0, 1) := by decide +kernel
theorem dX9_subLine_101 : decode cX9_subLine 101 = .ok (.dup2, 1) := by decide +kernel
theorem dX9_subLine_102 : decode cX9_subLine 102 = .ok (.laload, 1) := by decide +kernel
theorem dX9_subLine_103 : decode cX9_subLine 103 = .ok (.lconst 1, 1) := by decide +kernel
theorem dX9_subLine_104 : decode cX9_subLine 104 = .ok (.ladd, 1) := by decide +kernel
theorem dX9_subLine_105 : decode cX9_subLine 105 = .ok (.lastore, 1) := by decide +kernel
theorem dX9_subLine_106 : decode cX9_subLine 106 = .ok (.return_, 1) := by decide +kernel
theorem dX9_itemLine_0 : decode cX9_itemLine 0 = .ok (.bipush 20, 2) := by decide +kernel
theorem dX9_itemLine_2 : decode cX9_itemLine 2 = .ok (.bipush 26, 2) := by decide +kernel
theorem dX9_itemLine_4 : decode cX9_itemLine 4 = .ok (.aload_n 0, 1) := by decide +kernel
theorem dX9_itemLine_5 : decode cX9_itemLine 5 = .ok (.iconst 0, 1) := by decide +kernel
theorem dX9_itemLine_6 : decode cX9_itemLine 6 = .ok (.aload_n 0, 1) := by decide +kernel
theorem dX9_itemLine_7 : decode cX9_itemLine 7 = .ok (.getfield 13, 3) := by decide +kernel
theorem dX9_itemLine_10 : decode cX9_itemLine 10 = .ok (.iconst 0, 1) := by decide +kernel
theorem dX9_itemLine_11 : decode cX9_itemLine 11 = .ok (.laload, 1) := by decide +kernel
theorem dX9_itemLine_12 : decode cX9_itemLine 12 = .ok (.l2i, 1) := by decide +kernel
theorem dX9_itemLine_13 : decode cX9_itemLine 13 = .ok (.iconst 1, 1) := by decide +kernel
theorem dX9_itemLine_14 : decode cX9_itemLine 14 = .ok (.isub, 1) := by decide +kernel
theorem dX9_itemLine_15 : decode cX9_itemLine 15 = .ok (.invokevirtual 123, 3) := by decide +kernel
theorem dX9_itemLine_18 : decode cX9_itemLine 18 = .ok (.imul, 1) := by decide +kernel
theorem dX9_itemLine_19 : decode cX9_itemLine 19 = .ok (.iadd, 1) := by decide +kernel
theorem dX9_itemLine_20 : decode cX9_itemLine 20 = .ok (.istore_n 1, 1) := by decide +kernel
theorem dX9_itemLine_21 : decode cX9_itemLine 21 = .ok (.aload_n 0, 1) := by decide +kernel
theorem dX9_itemLine_22 : decode cX9_itemLine 22 = .ok (.getfield 48, 3) := by decide +kernel
theorem dX9_itemLine_25 : decode cX9_itemLine 25 = .ok (.ifCond .ne 29, 3) := by decide +kernel
theorem dX9_itemLine_28 : decode cX9_itemLine 28 = .ok (.aload_n 0, 1) := by decide +kernel
theorem dX9_itemLine_29 : decode cX9_itemLine 29 = .ok (.getfield 13, 3) := by decide +kernel
theorem dX9_itemLine_32 : decode cX9_itemLine 32 = .ok (.iload_n 1, 1) := by decide +kernel
theorem dX9_itemLine_33 : decode cX9_itemLine 33 = .ok (.bipush 7, 2) := by decide +kernel
theorem dX9_itemLine_35 : decode cX9_itemLine 35 = .ok (.iadd, 1) := by decide +kernel
theorem dX9_itemLine_36 : decode cX9_itemLine 36 = .ok (.laload, 1) := by decide +kernel
theorem dX9_itemLine_37 : decode cX9_itemLine 37 = .ok (.ldc2_w 140, 3) := by decide +kernel
theorem dX9_itemLine_40 : decode cX9_itemLine 40 = .ok (.lcmp, 1) := by decide +kernel
theorem dX9_itemLine_41 : decode cX9_itemLine 41 = .ok (.ifCond .ne 13, 3) := by decide +kernel
theorem dX9_itemLine_44 : decode cX9_itemLine 44 = .ok (.aload_n 0, 1) := by decide +kernel
theorem dX9_itemLine_45 : decode cX9_itemLine 45 = .ok (.bipush (-4), 2) := by decide +kernel
theorem dX9_itemLine_47 : decode cX9_itemLine 47 = .ok (.aload_n 0, 1) := by decide +kernel
theorem dX9_itemLine_48 : decode cX9_itemLine 48 = .ok (.getfield 88, 3) := by decide +kernel
theorem dX9_itemLine_51 : decode cX9_itemLine 51 = .ok (.invokevirtual 80, 3) := by decide +kernel
theorem dX9_itemLine_54 : decode cX9_itemLine 54 = .ok (.aload_n 0, 1) := by decide +kernel
theorem dX9_itemLine_55 : decode cX9_itemLine 55 = .ok (.getfield 48, 3) := by decide +kernel
theorem dX9_itemLine_58 : decode cX9_itemLine 58 = .ok (.ifCond .eq 4, 3) := by decide +kernel
theorem dX9_itemLine_61 : decode cX9_itemLine 61 = .ok (.return_, 1) := by decide +kernel
theorem dX9_itemLine_62 : decode cX9_itemLine 62 = .ok (.iload_n 1, 1) := by decide +kernel
theorem dX9_itemLine_63 : decode cX9_itemLine 63 = .ok (.bipush 8, 2) := by decide +kernel
theorem dX9_itemLine_65 : decode cX9_itemLine 65 = .ok (.iadd, 1) := by decide +kernel
theorem dX9_itemLine_66 : decode cX9_itemLine 66 = .ok (.iconst 3, 1) := by decide +kernel
theorem dX9_itemLine_67 : decode cX9_itemLine 67 = .ok (.aload_n 0, 1) := by decide +kernel
theorem dX9_itemLine_68 : decode cX9_itemLine 68 = .ok (.getfield 13, 3) := by decide +kernel
theorem dX9_itemLine_71 : decode cX9_itemLine 71 = .ok (.iload_n 1, 1) := by decide +kernel
theorem dX9_itemLine_72 : decode cX9_itemLine 72 = .ok (.bipush 7, 2) := by decide +kernel
theorem dX9_itemLine_74 : decode cX9_itemLine 74 = .ok (.iadd, 1) := by decide +kernel
theorem dX9_itemLine_75 : decode cX9_itemLine 75 = .ok (.laload, 1) := by decide +kernel
theorem dX9_itemLine_76 : decode cX9_itemLine 76 = .ok (.l2i, 1) := by decide +kernel
theorem dX9_itemLine_77 : decode cX9_itemLine 77 = .ok (.imul, 1) := by decide +kernel
theorem dX9_itemLine_78 : decode cX9_itemLine 78 = .ok (.iadd, 1) := by decide +kernel
theorem dX9_itemLine_79 : decode cX9_itemLine 79 = .ok (.istore_n 2, 1) := by decide +kernel
theorem dX9_itemLine_80 : decode cX9_itemLine 80 = .ok (.aload_n 0, 1) := by decide +kernel
theorem dX9_itemLine_81 : decode cX9_itemLine 81 = .ok (.getfield 13, 3) := by decide +kernel
theorem dX9_itemLine_84 : decode cX9_itemLine 84 = .ok (.iload_n 2, 1) := by decide +kernel
theorem dX9_itemLine_85 : decode cX9_itemLine 85 = .ok (.aload_n 0, 1) := by decide +kernel
theorem dX9_itemLine_86 : decode cX9_itemLine 86 = .ok (.iconst 1, 1) := by decide +kernel
theorem dX9_itemLine_87 : decode cX9_itemLine 87 = .ok (.sipush 999, 3) := by decide +kernel
theorem dX9_itemLine_90 : decode cX9_itemLine 90 = .ok (.invokevirtual 123, 3) := by decide +kernel
theorem dX9_itemLine_93 : decode cX9_itemLine 93 = .ok (.i2l, 1) := by decide +kernel
theorem dX9_itemLine_94 : decode cX9_itemLine 94 = .ok (.lastore, 1) := by decide +kernel
theorem dX9_itemLine_95 : decode cX9_itemLine 95 = .ok (.aload_n 0, 1) := by decide +kernel
theorem dX9_itemLine_96 : decode cX9_itemLine 96 = .ok (.getfield 13, 3) := by decide +kernel
theorem dX9_itemLine_99 : decode cX9_itemLine 99 = .ok (.iload_n 2, 1) := by decide +kernel
theorem dX9_itemLine_100 : decode cX9_itemLine 100 = .ok (.iconst 1, 1) := by decide +kernel
theorem dX9_itemLine_101 : decode cX9_itemLine 101 = .ok (.iadd, 1) := by decide +kernel
theorem dX9_itemLine_102 : decode cX9_itemLine 102 = .ok (.aload_n 0, 1) := by decide +kernel
theorem dX9_itemLine_103 : decode cX9_itemLine 103 = .ok (.iconst 0, 1) := by decide +kernel
theorem dX9_itemLine_104 : decode cX9_itemLine 104 = .ok (.sipush 9999, 3) := by decide +kernel
theorem dX9_itemLine_107 : decode cX9_itemLine 107 = .ok (.invokevirtual 123, 3) := by decide +kernel
theorem dX9_itemLine_110 : decode cX9_itemLine 110 = .ok (.i2l, 1) := by decide +kernel
theorem dX9_itemLine_111 : decode cX9_itemLine 111 = .ok (.lastore, 1) := by decide +kernel
theorem dX9_itemLine_112 : decode cX9_itemLine 112 = .ok (.aload_n 0, 1) := by decide +kernel
theorem dX9_itemLine_113 : decode cX9_itemLine 113 = .ok (.getfield 13, 3) := by decide +kernel
theorem dX9_itemLine_116 : decode cX9_itemLine 116 = .ok (.iload_n 1, 1) := by decide +kernel
theorem dX9_itemLine_117 : decode cX9_itemLine 117 = .ok (.bipush 7, 2) := by decide +kernel
theorem dX9_itemLine_119 : decode cX9_itemLine 119 = .ok (.iadd, 1) := by decide +kernel
theorem dX9_itemLine_120 : decode cX9_itemLine 120 = .ok (.dup2, 1) := by decide +kernel
theorem dX9_itemLine_121 : decode cX9_itemLine 121 = .ok (.laload, 1) := by decide +kernel
theorem dX9_itemLine_122 : decode cX9_itemLine 122 = .ok (.lconst 1, 1) := by decide +kernel
theorem dX9_itemLine_123 : decode cX9_itemLine 123 = .ok (.ladd, 1) := by decide +kernel
theorem dX9_itemLine_124 : decode cX9_itemLine 124 = .ok (.lastore, 1) := by decide +kernel
theorem dX9_itemLine_125 : decode cX9_itemLine 125 = .ok (.return_, 1) := by decide +kernel
theorem dX9_statement_0 : decode cX9_statement 0 = .ok (.aload_n 0, 1) := by decide +kernel
theorem dX9_statement_1 : decode cX9_statement 1 = .ok (.invokevirtual 60, 3) := by decide +kernel
theorem dX9_statement_4 : decode cX9_statement 4 = .ok (.pop, 1) := by decide +kernel
theorem dX9_statement_5 : decode cX9_statement 5 = .ok (.aload_n 0, 1) := by decide +kernel
theorem dX9_statement_6 : decode cX9_statement 6 = .ok (.getfield 54, 3) := by decide +kernel
theorem dX9_statement_9 : decode cX9_statement 9 = .ok (.istore_n 1, 1) := by decide +kernel
theorem dX9_statement_10 : decode cX9_statement 10 = .ok (.aload_n 0, 1) := by decide +kernel
theorem dX9_statement_11 : decode cX9_statement 11 = .ok (.ldc 142, 2) := by decide +kernel
theorem dX9_statement_13 : decode cX9_statement 13 = .ok (.invokevirtual 77, 3) := by decide +kernel
theorem dX9_statement_16 : decode cX9_statement 16 = .ok (.ifCond .eq 11, 3) := by decide +kernel
theorem dX9_statement_19 : decode cX9_statement 19 = .ok (.aload_n 0, 1) := by decide +kernel
theorem dX9_statement_20 : decode cX9_statement 20 = .ok (.iload_n 1, 1) := by decide +kernel
theorem dX9_statement_21 : decode cX9_statement 21 = .ok (.invokevirtual 144, 3) := by decide +kernel
theorem dX9_statement_24 : decode cX9_statement 24 = .ok (.goto 86, 3) := by decide +kernel
theorem dX9_statement_27 : decode cX9_statement 27 = .ok (.aload_n 0, 1) := by decide +kernel
theorem dX9_statement_28 : decode cX9_statement 28 = .ok (.ldc 147, 2) := by decide +kernel
theorem dX9_statement_30 : decode cX9_statement 30 = .ok (.invokevirtual 77, 3) := by decide +kernel
theorem dX9_statement_33 : decode cX9_statement 33 = .ok (.ifCond .eq 10, 3) := by decide +kernel
theorem dX9_statement_36 : decode cX9_statement 36 = .ok (.aload_n 0, 1) := by decide +kernel
theorem dX9_statement_37 : decode cX9_statement 37 = .ok (.invokevirtual 149, 3) := by decide +kernel
theorem dX9_statement_40 : decode cX9_statement 40 = .ok (.goto 70, 3) := by decide +kernel
theorem dX9_statement_43 : decode cX9_statement 43 = .ok (.aload_n 0, 1) := by decide +kernel
theorem dX9_statement_44 : decode cX9_statement 44 = .ok (.ldc 152, 2) := by decide +kernel
theorem dX9_statement_46 : decode cX9_statement 46 = .ok (.invokevirtual 77, 3) := by decide +kernel
theorem dX9_statement_49 : decode cX9_statement 49 = .ok (.ifCond .eq 29, 3) := by decide +kernel
theorem dX9_statement_52 : decode cX9_statement 52 = .ok (.aload_n 0, 1) := by decide +kernel
theorem dX9_statement_53 : decode cX9_statement 53 = .ok (.iconst 0, 1) := by decide +kernel
theorem dX9_statement_54 : decode cX9_statement 54 = .ok (.iload_n 1, 1) := by decide +kernel
theorem dX9_statement_55 : decode cX9_statement 55 = .ok (.invokevirtual 154, 3) := by decide +kernel
theorem dX9_statement_58 : decode cX9_statement 58 = .ok (.ifCond .eq 52, 3) := by decide +kernel
theorem dX9_statement_61 : decode cX9_statement 61 = .ok (.aload_n 0, 1) := by decide +kernel
theorem dX9_statement_62 : decode cX9_statement 62 = .ok (.getfield 13, 3) := by decide +kernel
theorem dX9_statement_65 : decode cX9_statement 65 = .ok (.iconst 2, 1) := by decide +kernel
theorem dX9_statement_66 : decode cX9_statement 66 = .ok (.aload_n 0, 1) := by decide +kernel
theorem dX9_statement_67 : decode cX9_statement 67 = .ok (.iconst 0, 1) := by decide +kernel
theorem dX9_statement_68 : decode cX9_statement 68 = .ok (.bipush 100, 2) := by decide +kernel
theorem dX9_statement_70 : decode cX9_statement 70 = .ok (.invokevirtual 123, 3) := by decide +kernel
theorem dX9_statement_73 : decode cX9_statement 73 = .ok (.i2l, 1) := by decide +kernel
theorem dX9_statement_74 : decode cX9_statement 74 = .ok (.lastore, 1) := by decide +kernel
theorem dX9_statement_75 : decode cX9_statement 75 = .ok (.goto 35, 3) := by decide +kernel
theorem dX9_statement_78 : decode cX9_statement 78 = .ok (.aload_n 0, 1) := by decide +kernel
theorem dX9_statement_79 : decode cX9_statement 79 = .ok (.ldc 157, 2) := by decide +kernel
theorem dX9_statement_81 : decode cX9_statement 81 = .ok (.invokevirtual 77, 3) := by decide +kernel
theorem dX9_statement_84 : decode cX9_statement 84 = .ok (.ifCond .eq 19, 3) := by decide +kernel
theorem dX9_statement_87 : decode cX9_statement 87 = .ok (.aload_n 0, 1) := by decide +kernel
theorem dX9_statement_88 : decode cX9_statement 88 = .ok (.iconst 1, 1) := by decide +kernel
theorem dX9_statement_89 : decode cX9_statement 89 = .ok (.iload_n 1, 1) := by decide +kernel
theorem dX9_statement_90 : decode cX9_statement 90 = .ok (.invokevirtual 154, 3) := by decide +kernel
theorem dX9_statement_93 : decode cX9_statement 93 = .ok (.ifCond .eq 17, 3) := by decide +kernel
theorem dX9_statement_96 : decode cX9_statement 96 = .ok (.aload_n 0, 1) := by decide +kernel
theorem dX9_statement_97 : decode cX9_statement 97 = .ok (.invokevirtual 116, 3) := by decide +kernel
theorem dX9_statement_100 : decode cX9_statement 100 = .ok (.goto 10, 3) := by decide +kernel
theorem dX9_statement_103 : decode cX9_statement 103 = .ok (.aload_n 0, 1) := by decide +kernel
theorem dX9_statement_104 : decode cX9_statement 104 = .ok (.bipush (-2), 2) := by decide +kernel
theorem dX9_statement_106 : decode cX9_statement 106 = .ok (.iload_n 1, 1) := by decide +kernel
theorem dX9_statement_107 : decode cX9_statement 107 = .ok (.invokevirtual 80, 3) := by decide +kernel
theorem dX9_statement_110 : decode cX9_statement 110 = .ok (.aload_n 0, 1) := by decide +kernel
theorem dX9_statement_111 : decode cX9_statement 111 = .ok (.bipush 59, 2) := by decide +kernel
theorem dX9_statement_113 : decode cX9_statement 113 = .ok (.invokevirtual 119, 3) := by decide +kernel
theorem dX9_statement_116 : decode cX9_statement 116 = .ok (.return_, 1) := by decide +kernel
theorem dX9_texts_0 : decode cX9_texts 0 = .ok (.iconst 0, 1) := by decide +kernel
theorem dX9_texts_1 : decode cX9_texts 1 = .ok (.istore_n 1, 1) := by decide +kernel
theorem dX9_texts_2 : decode cX9_texts 2 = .ok (.iload_n 1, 1) := by decide +kernel
theorem dX9_texts_3 : decode cX9_texts 3 = .ok (.sipush 2500, 3) := by decide +kernel
theorem dX9_texts_6 : decode cX9_texts 6 = .ok (.if_icmp .ge 16, 3) := by decide +kernel
theorem dX9_texts_9 : decode cX9_texts 9 = .ok (.aload_n 0, 1) := by decide +kernel
theorem dX9_texts_10 : decode cX9_texts 10 = .ok (.getfield 13, 3) := by decide +kernel
theorem dX9_texts_13 : decode cX9_texts 13 = .ok (.iload_n 1, 1) := by decide +kernel
theorem dX9_texts_14 : decode cX9_texts 14 = .ok (.lconst 0, 1) := by decide +kernel
theorem dX9_texts_15 : decode cX9_texts 15 = .ok (.lastore, 1) := by decide +kernel
theorem dX9_texts_16 : decode cX9_texts 16 = .ok (.iinc 1 1, 3) := by decide +kernel
theorem dX9_texts_19 : decode cX9_texts 19 = .ok (.goto (-17), 3) := by decide +kernel
theorem dX9_texts_22 : decode cX9_texts 22 = .ok (.aload_n 0, 1) := by decide +kernel
theorem dX9_texts_23 : decode cX9_texts 23 = .ok (.iconst 0, 1) := by decide +kernel
theorem dX9_texts_24 : decode cX9_texts 24 = .ok (.putfield 54, 3) := by decide +kernel
theorem dX9_texts_27 : decode cX9_texts 27 = .ok (.aload_n 0, 1) := by decide +kernel
theorem dX9_texts_28 : decode cX9_texts 28 = .ok (.iconst 0, 1) := by decide +kernel
theorem dX9_texts_29 : decode cX9_texts 29 = .ok (.putfield 48, 3) := by decide +kernel
theorem dX9_texts_32 : decode cX9_texts 32 = .ok (.aload_n 0, 1) := by decide +kernel
theorem dX9_texts_33 : decode cX9_texts 33 = .ok (.iconst 0, 1) := by decide +kernel
theorem dX9_texts_34 : decode cX9_texts 34 = .ok (.putfield 113, 3) := by decide +kernel
theorem dX9_texts_37 : decode cX9_texts 37 = .ok (.aload_n 0, 1) := by decide +kernel
theorem dX9_texts_38 : decode cX9_texts 38 = .ok (.iconst 0, 1) := by decide +kernel
theorem dX9_texts_39 : decode cX9_texts 39 = .ok (.putfield 132, 3) := by decide +kernel
theorem dX9_texts_42 : decode cX9_texts 42 = .ok (.aload_n 0, 1) := by decide +kernel
theorem dX9_texts_43 : decode cX9_texts 43 = .ok (.getfield 13, 3) := by decide +kernel
theorem dX9_texts_46 : decode cX9_texts 46 = .ok (.iconst 2, 1) := by decide +kernel
theorem dX9_texts_47 : decode cX9_texts 47 = .ok (.ldc2_w 30, 3) := by decide +kernel
theorem dX9_texts_50 : decode cX9_texts 50 = .ok (.lastore, 1) := by decide +kernel
theorem dX9_texts_51 : decode cX9_texts 51 = .ok (.aload_n 0, 1) := by decide +kernel
theorem dX9_texts_52 : decode cX9_texts 52 = .ok (.ldc 159, 2) := by decide +kernel
theorem dX9_texts_54 : decode cX9_texts 54 = .ok (.invokevirtual 161, 3) := by decide +kernel
theorem dX9_texts_57 : decode cX9_texts 57 = .ok (.aload_n 0, 1) := by decide +kernel
theorem dX9_texts_58 : decode cX9_texts 58 = .ok (.getfield 13, 3) := by decide +kernel
theorem dX9_texts_61 : decode cX9_texts 61 = .ok (.bipush 8, 2) := by decide +kernel
theorem dX9_texts_63 : decode cX9_texts 63 = .ok (.aload_n 0, 1) := by decide +kernel
theorem dX9_texts_64 : decode cX9_texts 64 = .ok (.iconst 0, 1) := by decide +kernel
theorem dX9_texts_65 : decode cX9_texts 65 = .ok (.ldc 165, 2) := by decide +kernel
theorem dX9_texts_67 : decode cX9_texts 67 = .ok (.invokevirtual 123, 3) := by decide +kernel
theorem dX9_texts_70 : decode cX9_texts 70 = .ok (.i2l, 1) := by decide +kernel
theorem dX9_texts_71 : decode cX9_texts 71 = .ok (.lastore, 1) := by decide +kernel
theorem dX9_texts_72 : decode cX9_texts 72 = .ok (.aload_n 0, 1) := by decide +kernel
theorem dX9_texts_73 : decode cX9_texts 73 = .ok (.bipush 59, 2) := by decide +kernel
theorem dX9_texts_75 : decode cX9_texts 75 = .ok (.invokevirtual 119, 3) := by decide +kernel
theorem dX9_texts_78 : decode cX9_texts 78 = .ok (.aload_n 0, 1) := by decide +kernel
theorem dX9_texts_79 : decode cX9_texts 79 = .ok (.ldc 166, 2) := by decide +kernel
theorem dX9_texts_81 : decode cX9_texts 81 = .ok (.invokevirtual 161, 3) := by decide +kernel
theorem dX9_texts_84 : decode cX9_texts 84 = .ok (.aload_n 0, 1) := by decide +kernel
theorem dX9_texts_85 : decode cX9_texts 85 = .ok (.getfield 13, 3) := by decide +kernel
theorem dX9_texts_88 : decode cX9_texts 88 = .ok (.bipush 20, 2) := by decide +kernel
theorem dX9_texts_90 : decode cX9_texts 90 = .ok (.ldc2_w 168, 3) := by decide +kernel
theorem dX9_texts_93 : decode cX9_texts 93 = .ok (.lastore, 1) := by decide +kernel
theorem dX9_texts_94 : decode cX9_texts 94 = .ok (.aload_n 0, 1) := by decide +kernel
theorem dX9_texts_95 : decode cX9_texts 95 = .ok (.bipush 20, 2) := by decide +kernel
theorem dX9_texts_97 : decode cX9_texts 97 = .ok (.invokevirtual 135, 3) := by decide +kernel
theorem dX9_texts_100 : decode cX9_texts 100 = .ok (.aload_n 0, 1) := by decide +kernel
theorem dX9_texts_101 : decode cX9_texts 101 = .ok (.getfield 13, 3) := by decide +kernel
theorem dX9_texts_104 : decode cX9_texts 104 = .ok (.iconst 0, 1) := by decide +kernel
theorem dX9_texts_105 : decode cX9_texts 105 = .ok (.lconst 1, 1) := by decide +kernel
theorem dX9_texts_106 : decode cX9_texts 106 = .ok (.lastore, 1) := by decide +kernel
theorem dX9_texts_107 : decode cX9_texts 107 = .ok (.aload_n 0, 1) := by decide +kernel
theorem dX9_texts_108 : decode cX9_texts 108 = .ok (.bipush 59, 2) := by decide +kernel
theorem dX9_texts_110 : decode cX9_texts 110 = .ok (.invokevirtual 119, 3) := by decide +kernel
theorem dX9_texts_113 : decode cX9_texts 113 = .ok (.aload_n 0, 1) := by decide +kernel
theorem dX9_texts_114 : decode cX9_texts 114 = .ok (.getfield 48, 3) := by decide +kernel
theorem dX9_texts_117 : decode cX9_texts 117 = .ok (.ifCond .ne 18, 3) := by decide +kernel
theorem dX9_texts_120 : decode cX9_texts 120 = .ok (.aload_n 0, 1) := by decide +kernel
theorem dX9_texts_121 : decode cX9_texts 121 = .ok (.invokevirtual 60, 3) := by decide +kernel
theorem dX9_texts_124 : decode cX9_texts 124 = .ok (.iconst (-1), 1) := by decide +kernel
theorem dX9_texts_125 : decode cX9_texts 125 = .ok (.if_icmp .eq 10, 3) := by decide +kernel
theorem dX9_texts_128 : decode cX9_texts 128 = .ok (.aload_n 0, 1) := by decide +kernel
theorem dX9_texts_129 : decode cX9_texts 129 = .ok (.invokevirtual 170, 3) := by decide +kernel
theorem dX9_texts_132 : decode cX9_texts 132 = .ok (.goto (-19), 3) := by decide +kernel
theorem dX9_texts_135 : decode cX9_texts 135 = .ok (.return_, 1) := by decide +kernel
theorem dX9_load_0 : decode cX9_load 0 = .ok (.aload_n 0, 1) := by decide +kernel
theorem dX9_load_1 : decode cX9_load 1 = .ok (.iconst 0, 1) := by decide +kernel
theorem dX9_load_2 : decode cX9_load 2 = .ok (.putfield 32, 3) := by decide +kernel
theorem dX9_load_5 : decode cX9_load 5 = .ok (.aload_n 0, 1) := by decide +kernel
theorem dX9_load_6 : decode cX9_load 6 = .ok (.iload_n 1, 1) := by decide +kernel
theorem dX9_load_7 : decode cX9_load 7 = .ok (.i2l, 1) := by decide +kernel
theorem dX9_load_8 : decode cX9_load 8 = .ok (.lconst 0, 1) := by decide +kernel
theorem dX9_load_9 : decode cX9_load 9 = .ok (.aload_n 0, 1) := by decide +kernel
theorem dX9_load_10 : decode cX9_load 10 = .ok (.getfield 45, 3) := by decide +kernel
theorem dX9_load_13 : decode cX9_load 13 = .ok (.i2l, 1) := by decide +kernel
theorem dX9_load_14 : decode cX9_load 14 = .ok (.invokestatic 98, 3) := by decide +kernel
theorem dX9_load_17 : decode cX9_load 17 = .ok (.iconst 1, 1) := by decide +kernel
theorem dX9_load_18 : decode cX9_load 18 = .ok (.invokevirtual 173, 3) := by decide +kernel
theorem dX9_load_21 : decode cX9_load 21 = .ok (.ifCond .ne 5, 3) := by decide +kernel
theorem dX9_load_24 : decode cX9_load 24 = .ok (.iconst 0, 1) := by decide +kernel
theorem dX9_load_25 : decode cX9_load 25 = .ok (.ireturn, 1) := by decide +kernel
theorem dX9_load_26 : decode cX9_load 26 = .ok (.aload_n 0, 1) := by decide +kernel
theorem dX9_load_27 : decode cX9_load 27 = .ok (.iload_n 1, 1) := by decide +kernel
theorem dX9_load_28 : decode cX9_load 28 = .ok (.putfield 57, 3) := by decide +kernel
theorem dX9_load_31 : decode cX9_load 31 = .ok (.aload_n 0, 1) := by decide +kernel
theorem dX9_load_32 : decode cX9_load 32 = .ok (.iconst 0, 1) := by decide +kernel
theorem dX9_load_33 : decode cX9_load 33 = .ok (.putfield 45, 3) := by decide +kernel
theorem dX9_load_36 : decode cX9_load 36 = .ok (.aload_n 0, 1) := by decide +kernel
theorem dX9_load_37 : decode cX9_load 37 = .ok (.iconst (-1), 1) := by decide +kernel
theorem dX9_load_38 : decode cX9_load 38 = .ok (.putfield 23, 3) := by decide +kernel
theorem dX9_load_41 : decode cX9_load 41 = .ok (.aload_n 0, 1) := by decide +kernel
theorem dX9_load_42 : decode cX9_load 42 = .ok (.invokevirtual 177, 3) := by decide +kernel
theorem dX9_load_45 : decode cX9_load 45 = .ok (.aload_n 0, 1) := by decide +kernel
theorem dX9_load_46 : decode cX9_load 46 = .ok (.getfield 48, 3) := by decide +kernel
theorem dX9_load_49 : decode cX9_load 49 = .ok (.ifCond .eq 16, 3) := by decide +kernel
theorem dX9_load_52 : decode cX9_load 52 = .ok (.aload_n 0, 1) := by decide +kernel
theorem dX9_load_53 : decode cX9_load 53 = .ok (.aload_n 0, 1) := by decide +kernel
theorem dX9_load_54 : decode cX9_load 54 = .ok (.getfield 51, 3) := by decide +kernel
theorem dX9_load_57 : decode cX9_load 57 = .ok (.putfield 23, 3) := by decide +kernel
theorem dX9_load_60 : decode cX9_load 60 = .ok (.aload_n 0, 1) := by decide +kernel
theorem dX9_load_61 : decode cX9_load 61 = .ok (.getfield 48, 3) := by decide +kernel
theorem dX9_load_64 : decode cX9_load 64 = .ok (.ireturn, 1) := by decide +kernel
theorem dX9_load_65 : decode cX9_load 65 = .ok (.aload_n 0, 1) := by decide +kernel
theorem dX9_load_66 : decode cX9_load 66 = .ok (.invokevirtual 180, 3) := by decide +kernel
theorem dX9_load_69 : decode cX9_load 69 = .ok (.iconst 0, 1) := by decide +kernel
theorem dX9_load_70 : decode cX9_load 70 = .ok (.istore_n 2, 1) := by decide +kernel
theorem dX9_load_71 : decode cX9_load 71 = .ok (.iload_n 2, 1) := by decide +kernel
theorem dX9_load_72 : decode cX9_load 72 = .ok (.sipush 2500, 3) := by decide +kernel
theorem dX9_load_75 : decode cX9_load 75 = .ok (.if_icmp .ge 20, 3) := by decide +kernel
theorem dX9_load_78 : decode cX9_load 78 = .ok (.aload_n 0, 1) := by decide +kernel
theorem dX9_load_79 : decode cX9_load 79 = .ok (.iload_n 2, 1) := by decide +kernel
theorem dX9_load_80 : decode cX9_load 80 = .ok (.aload_n 0, 1) := by decide +kernel
theorem dX9_load_81 : decode cX9_load 81 = .ok (.getfield 13, 3) := by decide +kernel
theorem dX9_load_84 : decode cX9_load 84 = .ok (.iload_n 2, 1) := by decide +kernel
theorem dX9_load_85 : decode cX9_load 85 = .ok (.laload, 1) := by decide +kernel
theorem dX9_load_86 : decode cX9_load 86 = .ok (.invokevirtual 183, 3) := by decide +kernel
theorem dX9_load_89 : decode cX9_load 89 = .ok (.iinc 2 1, 3) := by decide +kernel
theorem dX9_load_92 : decode cX9_load 92 = .ok (.goto (-21), 3) := by decide +kernel
theorem dX9_load_95 : decode cX9_load 95 = .ok (.aload_n 0, 1) := by decide +kernel
theorem dX9_load_96 : decode cX9_load 96 = .ok (.iconst 0, 1) := by decide +kernel
theorem dX9_load_97 : decode cX9_load 97 = .ok (.invokevirtual 187, 3) := by decide +kernel
theorem dX9_load_100 : decode cX9_load 100 = .ok (.ireturn, 1) := by decide +kernel
theorem dX9_errorOffset_0 : decode cX9_errorOffset 0 = .ok (.aload_n 0, 1) := by decide +kernel
theorem dX9_errorOffset_1 : decode cX9_errorOffset 1 = .ok (.iconst 0, 1) := by decide +kernel
theorem dX9_errorOffset_2 : decode cX9_errorOffset 2 = .ok (.putfield 32, 3) := by decide +kernel
theorem dX9_errorOffset_5 : decode cX9_errorOffset 5 = .ok (.aload_n 0, 1) := by decide +kernel
theorem dX9_errorOffset_6 : decode cX9_errorOffset 6 = .ok (.getfield 23, 3) := by decide +kernel
theorem dX9_errorOffset_9 : decode cX9_errorOffset 9 = .ok (.ireturn, 1) := by decide +kernel
theorem dX9_rateOf_0 : decode cX9_rateOf 0 = .ok (.aload_n 0, 1) := by decide +kernel
theorem dX9_rateOf_1 : decode cX9_rateOf 1 = .ok (.iconst 3, 1) := by decide +kernel
theorem dX9_rateOf_2 : decode cX9_rateOf 2 = .ok (.invokevirtual 38, 3) := by decide +kernel
theorem dX9_rateOf_5 : decode cX9_rateOf 5 = .ok (.lconst 0, 1) := by decide +kernel
theorem dX9_rateOf_6 : decode cX9_rateOf 6 = .ok (.lcmp, 1) := by decide +kernel
theorem dX9_rateOf_7 : decode cX9_rateOf 7 = .ok (.ifCond .ne 5, 3) := by decide +kernel
theorem dX9_rateOf_10 : decode cX9_rateOf 10 = .ok (.lload_n 1, 1) := by decide +kernel
theorem dX9_rateOf_11 : decode cX9_rateOf 11 = .ok (.lreturn, 1) := by decide +kernel
theorem dX9_rateOf_12 : decode cX9_rateOf 12 = .ok (.iconst 0, 1) := by decide +kernel
theorem dX9_rateOf_13 : decode cX9_rateOf 13 = .ok (.istore 7, 2) := by decide +kernel
theorem dX9_rateOf_15 : decode cX9_rateOf 15 = .ok (.iconst 0, 1) := by decide +kernel
theorem dX9_rateOf_16 : decode cX9_rateOf 16 = .ok (.istore 8, 2) := by decide +kernel
theorem dX9_rateOf_18 : decode cX9_rateOf 18 = .ok (.iload 8, 2) := by decide +kernel
theorem dX9_rateOf_20 : decode cX9_rateOf 20 = .ok (.i2l, 1) := by decide +kernel
theorem dX9_rateOf_21 : decode cX9_rateOf 21 = .ok (.aload_n 0, 1) := by decide +kernel
theorem dX9_rateOf_22 : decode cX9_rateOf 22 = .ok (.iconst 3, 1) := by decide +kernel
theorem dX9_rateOf_23 : decode cX9_rateOf 23 = .ok (.invokevirtual 38, 3) := by decide +kernel
theorem dX9_rateOf_26 : decode cX9_rateOf 26 = .ok (.lcmp, 1) := by decide +kernel
theorem dX9_rateOf_27 : decode cX9_rateOf 27 = .ok (.ifCond .ge 190, 3) := by decide +kernel
theorem dX9_rateOf_30 : decode cX9_rateOf 30 = .ok (.aload_n 0, 1) := by decide +kernel
theorem dX9_rateOf_31 : decode cX9_rateOf 31 = .ok (.sipush 600, 3) := by decide +kernel
theorem dX9_rateOf_34 : decode cX9_rateOf 34 = .ok (.iload 8, 2) := by decide +kernel
theorem dX9_rateOf_36 : decode cX9_rateOf 36 = .ok (.iadd, 1) := by decide +kernel
theorem dX9_rateOf_37 : decode cX9_rateOf 37 = .ok (.invokevirtual 187, 3) := by decide +kernel
theorem dX9_rateOf_40 : decode cX9_rateOf 40 = .ok (.istore 9, 2) := by decide +kernel
theorem dX9_rateOf_42 : decode cX9_rateOf 42 = .ok (.aload_n 0, 1) := by decide +kernel
theorem dX9_rateOf_43 : decode cX9_rateOf 43 = .ok (.sipush 600, 3) := by decide +kernel
theorem dX9_rateOf_46 : decode cX9_rateOf 46 = .ok (.iload 8, 2) := by decide +kernel
theorem dX9_rateOf_48 : decode cX9_rateOf 48 = .ok (.iadd, 1) := by decide +kernel
theorem dX9_rateOf_49 : decode cX9_rateOf 49 = .ok (.iconst 1, 1) := by decide +kernel
theorem dX9_rateOf_50 : decode cX9_rateOf 50 = .ok (.iadd, 1) := by decide +kernel
theorem dX9_rateOf_51 : decode cX9_rateOf 51 = .ok (.invokevirtual 38, 3) := by decide +kernel
theorem dX9_rateOf_54 : decode cX9_rateOf 54 = .ok (.lstore 10, 2) := by decide +kernel
theorem dX9_rateOf_56 : decode cX9_rateOf 56 = .ok (.iload 9, 2) := by decide +kernel
theorem dX9_rateOf_58 : decode cX9_rateOf 58 = .ok (.iconst 2, 1) := by decide +kernel
theorem dX9_rateOf_59 : decode cX9_rateOf 59 = .ok (.if_icmp .ge 50, 3) := by decide +kernel
theorem dX9_rateOf_62 : decode cX9_rateOf 62 = .ok (.aload_n 0, 1) := by decide +kernel
theorem dX9_rateOf_63 : decode cX9_rateOf 63 = .ok (.getfield 27, 3) := by decide +kernel
theorem dX9_rateOf_66 : decode cX9_rateOf 66 = .ok (.iload 7, 2) := by decide +kernel
theorem dX9_rateOf_68 : decode cX9_rateOf 68 = .ok (.iload 9, 2) := by decide +kernel
theorem dX9_rateOf_70 : decode cX9_rateOf 70 = .ok (.ifCond .ne 8, 3) := by decide +kernel
theorem dX9_rateOf_73 : decode cX9_rateOf 73 = .ok (.lload 10, 2) := by decide +kernel
theorem dX9_rateOf_75 : decode cX9_rateOf 75 = .ok (.goto 27, 3) := by decide +kernel
theorem dX9_rateOf_78 : decode cX9_rateOf 78 = .ok (.lload 10, 2) := by decide +kernel
theorem dX9_rateOf_80 : decode cX9_rateOf 80 = .ok (.lconst 0, 1) := by decide +kernel
theorem dX9_rateOf_81 : decode cX9_rateOf 81 = .ok (.lcmp, 1) := by decide +kernel
theorem dX9_rateOf_82 : decode cX9_rateOf 82 = .ok (.ifCond .ne 7, 3) := by decide +kernel
theorem dX9_rateOf_85 : decode cX9_rateOf 85 = .ok (.lload_n 1, 1) := by decide +kernel
theorem dX9_rateOf_86 : decode cX9_rateOf 86 = .ok (.goto 16, 3) := by decide +kernel
theorem dX9_rateOf_89 : decode cX9_rateOf 89 = .ok (.lload 10, 2) := by decide +kernel
theorem dX9_rateOf_91 : decode cX9_rateOf 91 = .ok (.lconst 1, 1) := by decide +kernel
theorem dX9_rateOf_92 : decode cX9_rateOf 92 = .ok (.lcmp, 1) := by decide +kernel
theorem dX9_rateOf_93 : decode cX9_rateOf 93 = .ok (.ifCond .ne 7, 3) := by decide +kernel
theorem dX9_rateOf_96 : decode cX9_rateOf 96 = .ok (.lload_n 3, 1) := by decide +kernel
theorem dX9_rateOf_97 : decode cX9_rateOf 97 = .ok (.goto 5, 3) := by decide +kernel
theorem dX9_rateOf_100 : decode cX9_rateOf 100 = .ok (.lload 5, 2) := by decide +kernel
theorem dX9_rateOf_102 : decode cX9_rateOf 102 = .ok (.lastore, 1) := by decide +kernel
theorem dX9_rateOf_103 : decode cX9_rateOf 103 = .ok (.iinc 7 1, 3) := by decide +kernel
theorem dX9_rateOf_106 : decode cX9_rateOf 106 = .ok (.goto 105, 3) := by decide +kernel
theorem dX9_rateOf_109 : decode cX9_rateOf 109 = .ok (.iinc 7 (-1), 3) := by decide +kernel
theorem dX9_rateOf_112 : decode cX9_rateOf 112 = .ok (.aload_n 0, 1) := by decide +kernel
theorem dX9_rateOf_113 : decode cX9_rateOf 113 = .ok (.getfield 27, 3) := by decide +kernel
theorem dX9_rateOf_116 : decode cX9_rateOf 116 = .ok (.iload 7, 2) := by decide +kernel
theorem dX9_rateOf_118 : decode cX9_rateOf 118 = .ok (.iconst 1, 1) := by decide +kernel
theorem dX9_rateOf_119 : decode cX9_rateOf 119 = .ok (.isub, 1) := by decide +kernel
theorem dX9_rateOf_120 : decode cX9_rateOf 120 = .ok (.laload, 1) := by decide +kernel
theorem dX9_rateOf_121 : decode cX9_rateOf 121 = .ok (.lstore 12, 2) := by decide +kernel
theorem dX9_rateOf_123 : decode cX9_rateOf 123 = .ok (.aload_n 0, 1) := by decide +kernel
theorem dX9_rateOf_124 : decode cX9_rateOf 124 = .ok (.getfield 27, 3) := by decide +kernel
theorem dX9_rateOf_127 : decode cX9_rateOf 127 = .ok (.iload 7, 2) := by decide +kernel
theorem dX9_rateOf_129 : decode cX9_rateOf 129 = .ok (.laload, 1) := by decide +kernel
theorem dX9_rateOf_130 : decode cX9_rateOf 130 = .ok (.lstore 14, 2) := by decide +kernel
theorem dX9_rateOf_132 : decode cX9_rateOf 132 = .ok (.aload_n 0, 1) := by decide +kernel
theorem dX9_rateOf_133 : decode cX9_rateOf 133 = .ok (.getfield 27, 3) := by decide +kernel
theorem dX9_rateOf_136 : decode cX9_rateOf 136 = .ok (.iload 7, 2) := by decide +kernel
theorem dX9_rateOf_138 : decode cX9_rateOf 138 = .ok (.iconst 1, 1) := by decide +kernel
theorem dX9_rateOf_139 : decode cX9_rateOf 139 = .ok (.isub, 1) := by decide +kernel
theorem dX9_rateOf_140 : decode cX9_rateOf 140 = .ok (.iload 9, 2) := by decide +kernel
theorem dX9_rateOf_142 : decode cX9_rateOf 142 = .ok (.bipush 43, 2) := by decide +kernel
theorem dX9_rateOf_144 : decode cX9_rateOf 144 = .ok (.if_icmp .ne 11, 3) := by decide +kernel
theorem dX9_rateOf_147 : decode cX9_rateOf 147 = .ok (.lload 12, 2) := by decide +kernel
theorem dX9_rateOf_149 : decode cX9_rateOf 149 = .ok (.lload 14, 2) := by decide +kernel
theorem dX9_rateOf_151 : decode cX9_rateOf 151 = .ok (.ladd, 1) := by decide +kernel
theorem dX9_rateOf_152 : decode cX9_rateOf 152 = .ok (.goto 49, 3) := by decide +kernel
theorem dX9_rateOf_155 : decode cX9_rateOf 155 = .ok (.iload 9, 2) := by decide +kernel
theorem dX9_rateOf_157 : decode cX9_rateOf 157 = .ok (.bipush 45, 2) := by decide +kernel
theorem dX9_rateOf_159 : decode cX9_rateOf 159 = .ok (.if_icmp .ne 11, 3) := by decide +kernel
theorem dX9_rateOf_162 : decode cX9_rateOf 162 = .ok (.lload 12, 2) := by decide +kernel
theorem dX9_rateOf_164 : decode cX9_rateOf 164 = .ok (.lload 14, 2) := by decide +kernel
theorem dX9_rateOf_166 : decode cX9_rateOf 166 = .ok (.lsub, 1) := by decide +kernel
theorem dX9_rateOf_167 : decode cX9_rateOf 167 = .ok (.goto 34, 3) := by decide +kernel
theorem dX9_rateOf_170 : decode cX9_rateOf 170 = .ok (.iload 9, 2) := by decide +kernel
theorem dX9_rateOf_172 : decode cX9_rateOf 172 = .ok (.bipush 42, 2) := by decide +kernel
theorem dX9_rateOf_174 : decode cX9_rateOf 174 = .ok (.if_icmp .ne 11, 3) := by decide +kernel
theorem dX9_rateOf_177 : decode cX9_rateOf 177 = .ok (.lload 12, 2) := by decide +kernel
theorem dX9_rateOf_179 : decode cX9_rateOf 179 = .ok (.lload 14, 2) := by decide +kernel
theorem dX9_rateOf_181 : decode cX9_rateOf 181 = .ok (.lmul, 1) := by decide +kernel
theorem dX9_rateOf_182 : decode cX9_rateOf 182 = .ok (.goto 19, 3) := by decide +kernel
theorem dX9_rateOf_185 : decode cX9_rateOf 185 = .ok (.lload 14, 2) := by decide +kernel
theorem dX9_rateOf_187 : decode cX9_rateOf 187 = .ok (.lconst 0, 1) := by decide +kernel
theorem dX9_rateOf_188 : decode cX9_rateOf 188 = .ok (.lcmp, 1) := by decide +kernel
theorem dX9_rateOf_189 : decode cX9_rateOf 189 = .ok (.ifCond .ne 7, 3) := by decide +kernel
theorem dX9_rateOf_192 : decode cX9_rateOf 192 = .ok (.lconst 0, 1) := by decide +kernel
theorem dX9_rateOf_193 : decode cX9_rateOf 193 = .ok (.goto 8, 3) := by decide +kernel
theorem dX9_rateOf_196 : decode cX9_rateOf 196 = .ok (.lload 12, 2) := by decide +kernel
theorem dX9_rateOf_198 : decode cX9_rateOf 198 = .ok (.lload 14, 2) := by decide +kernel
theorem dX9_rateOf_200 : decode cX9_rateOf 200 = .ok (.ldiv, 1) := by decide +kernel
theorem dX9_rateOf_201 : decode cX9_rateOf 201 = .ok (.ldc2_w 191, 3) := by decide +kernel
theorem dX9_rateOf_204 : decode cX9_rateOf 204 = .ok (.ldc2_w 193, 3) := by decide +kernel
theorem dX9_rateOf_207 : decode cX9_rateOf 207 = .ok (.invokestatic 195, 3) := by decide +kernel
theorem dX9_rateOf_210 : decode cX9_rateOf 210 = .ok (.lastore, 1) := by decide +kernel
theorem dX9_rateOf_211 : decode cX9_rateOf 211 = .ok (.iinc 8 2, 3) := by decide +kernel
theorem dX9_rateOf_214 : decode cX9_rateOf 214 = .ok (.goto (-196), 3) := by decide +kernel
theorem dX9_rateOf_217 : decode cX9_rateOf 217 = .ok (.aload_n 0, 1) := by decide +kernel
theorem dX9_rateOf_218 : decode cX9_rateOf 218 = .ok (.getfield 27, 3) := by decide +kernel
theorem dX9_rateOf_221 : decode cX9_rateOf 221 = .ok (.iconst 0, 1) := by decide +kernel
theorem dX9_rateOf_222 : decode cX9_rateOf 222 = .ok (.laload, 1) := by decide +kernel
theorem dX9_rateOf_223 : decode cX9_rateOf 223 = .ok (.lconst 0, 1) := by decide +kernel
theorem dX9_rateOf_224 : decode cX9_rateOf 224 = .ok (.ldc2_w 199, 3) := by decide +kernel
theorem dX9_rateOf_227 : decode cX9_rateOf 227 = .ok (.invokestatic 195, 3) := by decide +kernel
theorem dX9_rateOf_230 : decode cX9_rateOf 230 = .ok (.lreturn, 1) := by decide +kernel
theorem dX9_at_0 : decode cX9_at 0 = .ok (.bipush 20, 2) := by decide +kernel
theorem dX9_at_2 : decode cX9_at 2 = .ok (.bipush 26, 2) := by decide +kernel
theorem dX9_at_4 : decode cX9_at 4 = .ok (.iload_n 1, 1) := by decide +kernel
theorem dX9_at_5 : decode cX9_at 5 = .ok (.imul, 1) := by decide +kernel
theorem dX9_at_6 : decode cX9_at 6 = .ok (.iadd, 1) := by decide +kernel
theorem dX9_at_7 : decode cX9_at 7 = .ok (.ireturn, 1) := by decide +kernel
theorem dX9_itemAt_0 : decode cX9_itemAt 0 = .ok (.aload_n 0, 1) := by decide +kernel
theorem dX9_itemAt_1 : decode cX9_itemAt 1 = .ok (.iload_n 1, 1) := by decide +kernel
theorem dX9_itemAt_2 : decode cX9_itemAt 2 = .ok (.invokevirtual 201, 3) := by decide +kernel
theorem dX9_itemAt_5 : decode cX9_itemAt 5 = .ok (.bipush 8, 2) := by decide +kernel
theorem dX9_itemAt_7 : decode cX9_itemAt 7 = .ok (.iadd, 1) := by decide +kernel
theorem dX9_itemAt_8 : decode cX9_itemAt 8 = .ok (.iconst 3, 1) := by decide +kernel
theorem dX9_itemAt_9 : decode cX9_itemAt 9 = .ok (.iload_n 2, 1) := by decide +kernel
theorem dX9_itemAt_10 : decode cX9_itemAt 10 = .ok (.imul, 1) := by decide +kernel
theorem dX9_itemAt_11 : decode cX9_itemAt 11 = .ok (.iadd, 1) := by decide +kernel
theorem dX9_itemAt_12 : decode cX9_itemAt 12 = .ok (.ireturn, 1) := by decide +kernel
theorem dX9_quantityOf_0 : decode cX9_quantityOf 0 = .ok (.aload_n 0, 1) := by decide +kernel
theorem dX9_quantityOf_1 : decode cX9_quantityOf 1 = .ok (.aload_n 0, 1) := by decide +kernel
theorem dX9_quantityOf_2 : decode cX9_quantityOf 2 = .ok (.iload_n 1, 1) := by decide +kernel
theorem dX9_quantityOf_3 : decode cX9_quantityOf 3 = .ok (.iload_n 2, 1) := by decide +kernel
theorem dX9_quantityOf_4 : decode cX9_quantityOf 4 = .ok (.invokevirtual 204, 3) := by decide +kernel
theorem dX9_quantityOf_7 : decode cX9_quantityOf 7 = .ok (.invokevirtual 38, 3) := by decide +kernel
theorem dX9_quantityOf_10 : decode cX9_quantityOf 10 = .ok (.lstore_n 3, 1) := by decide +kernel
theorem dX9_quantityOf_11 : decode cX9_quantityOf 11 = .ok (.iconst 0, 1) := by decide +kernel
theorem dX9_quantityOf_12 : decode cX9_quantityOf 12 = .ok (.istore 5, 2) := by decide +kernel
theorem dX9_quantityOf_14 : decode cX9_quantityOf 14 = .ok (.iload 5, 2) := by decide +kernel
theorem dX9_quantityOf_16 : decode cX9_quantityOf 16 = .ok (.i2l, 1) := by decide +kernel
theorem dX9_quantityOf_17 : decode cX9_quantityOf 17 = .ok (.aload_n 0, 1) := by decide +kernel
theorem dX9_quantityOf_18 : decode cX9_quantityOf 18 = .ok (.iconst 4, 1) := by decide +kernel
theorem dX9_quantityOf_19 : decode cX9_quantityOf 19 = .ok (.invokevirtual 38, 3) := by decide +kernel
theorem dX9_quantityOf_22 : decode cX9_quantityOf 22 = .ok (.lcmp, 1) := by decide +kernel
theorem dX9_quantityOf_23 : decode cX9_quantityOf 23 = .ok (.ifCond .ge 69, 3) := by decide +kernel
theorem dX9_quantityOf_26 : decode cX9_quantityOf 26 = .ok (.sipush 230, 3) := by decide +kernel
theorem dX9_quantityOf_29 : decode cX9_quantityOf 29 = .ok (.iconst 4, 1) := by decide +kernel
theorem dX9_quantityOf_30 : decode cX9_quantityOf 30 = .ok (.iload 5, 2) := by decide +kernel
theorem dX9_quantityOf_32 : decode cX9_quantityOf 32 = .ok (.imul, 1) := by decide +kernel
theorem dX9_quantityOf_33 : decode cX9_quantityOf 33 = .ok (.iadd, 1) := by decide +kernel
theorem dX9_quantityOf_34 : decode cX9_quantityOf 34 = .ok (.istore 6, 2) := by decide +kernel
theorem dX9_quantityOf_36 : decode cX9_quantityOf 36 = .ok (.aload_n 0, 1) := by decide +kernel
theorem dX9_quantityOf_37 : decode cX9_quantityOf 37 = .ok (.iload 6, 2) := by decide +kernel
theorem dX9_quantityOf_39 : decode cX9_quantityOf 39 = .ok (.invokevirtual 38, 3) := by decide +kernel
theorem dX9_quantityOf_42 : decode cX9_quantityOf 42 = .ok (.iload_n 1, 1) := by decide +kernel
theorem dX9_quantityOf_43 : decode cX9_quantityOf 43 = .ok (.i2l, 1) := by decide +kernel
theorem dX9_quantityOf_44 : decode cX9_quantityOf 44 = .ok (.lcmp, 1) := by decide +kernel
theorem dX9_quantityOf_45 : decode cX9_quantityOf 45 = .ok (.ifCond .ne 41, 3) := by decide +kernel
theorem dX9_quantityOf_48 : decode cX9_quantityOf 48 = .ok (.aload_n 0, 1) := by decide +kernel
theorem dX9_quantityOf_49 : decode cX9_quantityOf 49 = .ok (.iload 6, 2) := by decide +kernel
theorem dX9_quantityOf_51 : decode cX9_quantityOf 51 = .ok (.iconst 1, 1) := by decide +kernel
theorem dX9_quantityOf_52 : decode cX9_quantityOf 52 = .ok (.iadd, 1) := by decide +kernel
theorem dX9_quantityOf_53 : decode cX9_quantityOf 53 = .ok (.invokevirtual 38, 3) := by decide +kernel
theorem dX9_quantityOf_56 : decode cX9_quantityOf 56 = .ok (.iload_n 2, 1) := by decide +kernel
theorem dX9_quantityOf_57 : decode cX9_quantityOf 57 = .ok (.i2l, 1) := by decide +kernel
theorem dX9_quantityOf_58 : decode cX9_quantityOf 58 = .ok (.lcmp, 1) := by decide +kernel
theorem dX9_quantityOf_59 : decode cX9_quantityOf 59 = .ok (.ifCond .ne 27, 3) := by decide +kernel
theorem dX9_quantityOf_62 : decode cX9_quantityOf 62 = .ok (.aload_n 0, 1) := by decide +kernel
theorem dX9_quantityOf_63 : decode cX9_quantityOf 63 = .ok (.iload 6, 2) := by decide +kernel
theorem dX9_quantityOf_65 : decode cX9_quantityOf 65 = .ok (.iconst 3, 1) := by decide +kernel
theorem dX9_quantityOf_66 : decode cX9_quantityOf 66 = .ok (.iadd, 1) := by decide +kernel
theorem dX9_quantityOf_67 : decode cX9_quantityOf 67 = .ok (.invokevirtual 38, 3) := by decide +kernel
theorem dX9_quantityOf_70 : decode cX9_quantityOf 70 = .ok (.lconst 1, 1) := by decide +kernel
theorem dX9_quantityOf_71 : decode cX9_quantityOf 71 = .ok (.lcmp, 1) := by decide +kernel
theorem dX9_quantityOf_72 : decode cX9_quantityOf 72 = .ok (.ifCond .ne 14, 3) := by decide +kernel
theorem dX9_quantityOf_75 : decode cX9_quantityOf 75 = .ok (.lload_n 3, 1) := by decide +kernel
theorem dX9_quantityOf_76 : decode cX9_quantityOf 76 = .ok (.aload_n 0, 1) := by decide +kernel
theorem dX9_quantityOf_77 : decode cX9_quantityOf 77 = .ok (.iload 6, 2) := by decide +kernel
theorem dX9_quantityOf_79 : decode cX9_quantityOf 79 = .ok (.iconst 2, 1) := by decide +kernel
theorem dX9_quantityOf_80 : decode cX9_quantityOf 80 = .ok (.iadd, 1) := by decide +kernel
theorem dX9_quantityOf_81 : decode cX9_quantityOf 81 = .ok (.invokevirtual 38, 3) := by decide +kernel
theorem dX9_quantityOf_84 : decode cX9_quantityOf 84 = .ok (.ladd, 1) := by decide +kernel
theorem dX9_quantityOf_85 : decode cX9_quantityOf 85 = .ok (.lstore_n 3, 1) := by decide +kernel
theorem dX9_quantityOf_86 : decode cX9_quantityOf 86 = .ok (.iinc 5 1, 3) := by decide +kernel
theorem dX9_quantityOf_89 : decode cX9_quantityOf 89 = .ok (.goto (-75), 3) := by decide +kernel
theorem dX9_quantityOf_92 : decode cX9_quantityOf 92 = .ok (.lload_n 3, 1) := by decide +kernel
theorem dX9_quantityOf_93 : decode cX9_quantityOf 93 = .ok (.lreturn, 1) := by decide +kernel
theorem dX9_boundOf_0 : decode cX9_boundOf 0 = .ok (.aload_n 0, 1) := by decide +kernel
theorem dX9_boundOf_1 : decode cX9_boundOf 1 = .ok (.aload_n 0, 1) := by decide +kernel
theorem dX9_boundOf_2 : decode cX9_boundOf 2 = .ok (.iload_n 1, 1) := by decide +kernel
theorem dX9_boundOf_3 : decode cX9_boundOf 3 = .ok (.iload_n 2, 1) := by decide +kernel
theorem dX9_boundOf_4 : decode cX9_boundOf 4 = .ok (.invokevirtual 204, 3) := by decide +kernel
theorem dX9_boundOf_7 : decode cX9_boundOf 7 = .ok (.invokevirtual 38, 3) := by decide +kernel
theorem dX9_boundOf_10 : decode cX9_boundOf 10 = .ok (.lstore_n 3, 1) := by decide +kernel
theorem dX9_boundOf_11 : decode cX9_boundOf 11 = .ok (.lload_n 3, 1) := by decide +kernel
theorem dX9_boundOf_12 : decode cX9_boundOf 12 = .ok (.lload_n 3, 1) := by decide +kernel
theorem dX9_boundOf_13 : decode cX9_boundOf 13 = .ok (.aload_n 0, 1) := by decide +kernel
theorem dX9_boundOf_14 : decode cX9_boundOf 14 = .ok (.iconst 2, 1) := by decide +kernel
theorem dX9_boundOf_15 : decode cX9_boundOf 15 = .ok (.invokevirtual 38, 3) := by decide +kernel
theorem dX9_boundOf_18 : decode cX9_boundOf 18 = .ok (.lmul, 1) := by decide +kernel
theorem dX9_boundOf_19 : decode cX9_boundOf 19 = .ok (.ldc2_w 207, 3) := by decide +kernel
theorem dX9_boundOf_22 : decode cX9_boundOf 22 = .ok (.ldiv, 1) := by decide +kernel
theorem dX9_boundOf_23 : decode cX9_boundOf 23 = .ok (.ladd, 1) := by decide +kernel
theorem dX9_boundOf_24 : decode cX9_boundOf 24 = .ok (.lreturn, 1) := by decide +kernel
theorem dX9_rateBy_0 : decode cX9_rateBy 0 = .ok (.aload_n 0, 1) := by decide +kernel
theorem dX9_rateBy_1 : decode cX9_rateBy 1 = .ok (.aload_n 0, 1) := by decide +kernel
theorem dX9_rateBy_2 : decode cX9_rateBy 2 = .ok (.aload_n 0, 1) := by decide +kernel
theorem dX9_rateBy_3 : decode cX9_rateBy 3 = .ok (.iload_n 1, 1) := by decide +kernel
theorem dX9_rateBy_4 : decode cX9_rateBy 4 = .ok (.iload_n 2, 1) := by decide +kernel
theorem dX9_rateBy_5 : decode cX9_rateBy 5 = .ok (.invokevirtual 204, 3) := by decide +kernel
theorem dX9_rateBy_8 : decode cX9_rateBy 8 = .ok (.iconst 1, 1) := by decide +kernel
theorem dX9_rateBy_9 : decode cX9_rateBy 9 = .ok (.iadd, 1) := by decide +kernel
theorem dX9_rateBy_10 : decode cX9_rateBy 10 = .ok (.invokevirtual 38, 3) := by decide +kernel
theorem dX9_rateBy_13 : decode cX9_rateBy 13 = .ok (.aload_n 0, 1) := by decide +kernel
theorem dX9_rateBy_14 : decode cX9_rateBy 14 = .ok (.aload_n 0, 1) := by decide +kernel
theorem dX9_rateBy_15 : decode cX9_rateBy 15 = .ok (.iload_n 1, 1) := by decide +kernel
theorem dX9_rateBy_16 : decode cX9_rateBy 16 = .ok (.iload_n 2, 1) := by decide +kernel
theorem dX9_rateBy_17 : decode cX9_rateBy 17 = .ok (.invokevirtual 204, 3) := by decide +kernel
theorem dX9_rateBy_20 : decode cX9_rateBy 20 = .ok (.invokevirtual 38, 3) := by decide +kernel
theorem dX9_rateBy_23 : decode cX9_rateBy 23 = .ok (.lconst 0, 1) := by decide +kernel
theorem dX9_rateBy_24 : decode cX9_rateBy 24 = .ok (.lload_n 3, 1) := by decide +kernel
theorem dX9_rateBy_25 : decode cX9_rateBy 25 = .ok (.aload_n 0, 1) := by decide +kernel
theorem dX9_rateBy_26 : decode cX9_rateBy 26 = .ok (.iload_n 1, 1) := by decide +kernel
theorem dX9_rateBy_27 : decode cX9_rateBy 27 = .ok (.iload_n 2, 1) := by decide +kernel
theorem dX9_rateBy_28 : decode cX9_rateBy 28 = .ok (.invokevirtual 209, 3) := by decide +kernel
theorem dX9_rateBy_31 : decode cX9_rateBy 31 = .ok (.lsub, 1) := by decide +kernel
theorem dX9_rateBy_32 : decode cX9_rateBy 32 = .ok (.invokestatic 213, 3) := by decide +kernel
theorem dX9_rateBy_35 : decode cX9_rateBy 35 = .ok (.invokevirtual 217, 3) := by decide +kernel
theorem dX9_rateBy_38 : decode cX9_rateBy 38 = .ok (.lreturn, 1) := by decide +kernel
theorem dX9_fullBy_0 : decode cX9_fullBy 0 = .ok (.lconst 0, 1) := by decide +kernel
theorem dX9_fullBy_1 : decode cX9_fullBy 1 = .ok (.lload_n 3, 1) := by decide +kernel
theorem dX9_fullBy_2 : decode cX9_fullBy 2 = .ok (.aload_n 0, 1) := by decide +kernel
theorem dX9_fullBy_3 : decode cX9_fullBy 3 = .ok (.iload_n 1, 1) := by decide +kernel
theorem dX9_fullBy_4 : decode cX9_fullBy 4 = .ok (.iload_n 2, 1) := by decide +kernel
theorem dX9_fullBy_5 : decode cX9_fullBy 5 = .ok (.invokevirtual 209, 3) := by decide +kernel
theorem dX9_fullBy_8 : decode cX9_fullBy 8 = .ok (.lsub, 1) := by decide +kernel
theorem dX9_fullBy_9 : decode cX9_fullBy 9 = .ok (.invokestatic 213, 3) := by decide +kernel
theorem dX9_fullBy_12 : decode cX9_fullBy 12 = .ok (.lstore 5, 2) := by decide +kernel
theorem dX9_fullBy_14 : decode cX9_fullBy 14 = .ok (.lload_n 3, 1) := by decide +kernel
theorem dX9_fullBy_15 : decode cX9_fullBy 15 = .ok (.lload 5, 2) := by decide +kernel
theorem dX9_fullBy_17 : decode cX9_fullBy 17 = .ok (.lsub, 1) := by decide +kernel
theorem dX9_fullBy_18 : decode cX9_fullBy 18 = .ok (.aload_n 0, 1) := by decide +kernel
theorem dX9_fullBy_19 : decode cX9_fullBy 19 = .ok (.aload_n 0, 1) := by decide +kernel
theorem dX9_fullBy_20 : decode cX9_fullBy 20 = .ok (.iload_n 1, 1) := by decide +kernel
theorem dX9_fullBy_21 : decode cX9_fullBy 21 = .ok (.iload_n 2, 1) := by decide +kernel
theorem dX9_fullBy_22 : decode cX9_fullBy 22 = .ok (.invokevirtual 204, 3) := by decide +kernel
theorem dX9_fullBy_25 : decode cX9_fullBy 25 = .ok (.iconst 1, 1) := by decide +kernel
theorem dX9_fullBy_26 : decode cX9_fullBy 26 = .ok (.iadd, 1) := by decide +kernel
theorem dX9_fullBy_27 : decode cX9_fullBy 27 = .ok (.invokevirtual 38, 3) := by decide +kernel
theorem dX9_fullBy_30 : decode cX9_fullBy 30 = .ok (.lmul, 1) := by decide +kernel
theorem dX9_fullBy_31 : decode cX9_fullBy 31 = .ok (.lload 5, 2) := by decide +kernel
theorem dX9_fullBy_33 : decode cX9_fullBy 33 = .ok (.aload_n 0, 1) := by decide +kernel
theorem dX9_fullBy_34 : decode cX9_fullBy 34 = .ok (.iload_n 1, 1) := by decide +kernel
theorem dX9_fullBy_35 : decode cX9_fullBy 35 = .ok (.iload_n 2, 1) := by decide +kernel
theorem dX9_fullBy_36 : decode cX9_fullBy 36 = .ok (.lload_n 3, 1) := by decide +kernel
theorem dX9_fullBy_37 : decode cX9_fullBy 37 = .ok (.invokevirtual 220, 3) := by decide +kernel
theorem dX9_fullBy_40 : decode cX9_fullBy 40 = .ok (.lmul, 1) := by decide +kernel
theorem dX9_fullBy_41 : decode cX9_fullBy 41 = .ok (.ladd, 1) := by decide +kernel
theorem dX9_fullBy_42 : decode cX9_fullBy 42 = .ok (.lreturn, 1) := by decide +kernel
theorem dX9_valueOf_0 : decode cX9_valueOf 0 = .ok (.aload_n 0, 1) := by decide +kernel
theorem dX9_valueOf_1 : decode cX9_valueOf 1 = .ok (.iload_n 1, 1) := by decide +kernel
theorem dX9_valueOf_2 : decode cX9_valueOf 2 = .ok (.iload_n 2, 1) := by decide +kernel
theorem dX9_valueOf_3 : decode cX9_valueOf 3 = .ok (.aload_n 0, 1) := by decide +kernel
theorem dX9_valueOf_4 : decode cX9_valueOf 4 = .ok (.iload_n 1, 1) := by decide +kernel
theorem dX9_valueOf_5 : decode cX9_valueOf 5 = .ok (.iload_n 2, 1) := by decide +kernel
theorem dX9_valueOf_6 : decode cX9_valueOf 6 = .ok (.invokevirtual 224, 3) := by decide +kernel
theorem dX9_valueOf_9 : decode cX9_valueOf 9 = .ok (.invokevirtual 227, 3) := by decide +kernel
theorem dX9_valueOf_12 : decode cX9_valueOf 12 = .ok (.aload_n 0, 1) := by decide +kernel
theorem dX9_valueOf_13 : decode cX9_valueOf 13 = .ok (.aload_n 0, 1) := by decide +kernel
theorem dX9_valueOf_14 : decode cX9_valueOf 14 = .ok (.iload_n 1, 1) := by decide +kernel
theorem dX9_valueOf_15 : decode cX9_valueOf 15 = .ok (.iload_n 2, 1) := by decide +kernel
theorem dX9_valueOf_16 : decode cX9_valueOf 16 = .ok (.invokevirtual 204, 3) := by decide +kernel
theorem dX9_valueOf_19 : decode cX9_valueOf 19 = .ok (.iconst 2, 1) := by decide +kernel
theorem dX9_valueOf_20 : decode cX9_valueOf 20 = .ok (.iadd, 1) := by decide +kernel
theorem dX9_valueOf_21 : decode cX9_valueOf 21 = .ok (.invokevirtual 38, 3) := by decide +kernel
theorem dX9_valueOf_24 : decode cX9_valueOf 24 = .ok (.lmul, 1) := by decide +kernel
theorem dX9_valueOf_25 : decode cX9_valueOf 25 = .ok (.ldc2_w 207, 3) := by decide +kernel
theorem dX9_valueOf_28 : decode cX9_valueOf 28 = .ok (.ldiv, 1) := by decide +kernel
theorem dX9_valueOf_29 : decode cX9_valueOf 29 = .ok (.lreturn, 1) := by decide +kernel
theorem dX9_isContract_0 : decode cX9_isContract 0 = .ok (.aload_n 0, 1) := by decide +kernel
theorem dX9_isContract_1 : decode cX9_isContract 1 = .ok (.iconst 0, 1) := by decide +kernel
theorem dX9_isContract_2 : decode cX9_isContract 2 = .ok (.putfield 32, 3) := by decide +kernel
theorem dX9_isContract_5 : decode cX9_isContract 5 = .ok (.aload_n 0, 1) := by decide +kernel
theorem dX9_isContract_6 : decode cX9_isContract 6 = .ok (.iload_n 1, 1) := by decide +kernel
theorem dX9_isContract_7 : decode cX9_isContract 7 = .ok (.i2l, 1) := by decide +kernel
theorem dX9_isContract_8 : decode cX9_isContract 8 = .ok (.lconst 0, 1) := by decide +kernel
theorem dX9_isContract_9 : decode cX9_isContract 9 = .ok (.aload_n 0, 1) := by decide +kernel
theorem dX9_isContract_10 : decode cX9_isContract 10 = .ok (.iconst 0, 1) := by decide +kernel
theorem dX9_isContract_11 : decode cX9_isContract 11 = .ok (.invokevirtual 38, 3) := by decide +kernel
theorem dX9_isContract_14 : decode cX9_isContract 14 = .ok (.lconst 1, 1) := by decide +kernel
theorem dX9_isContract_15 : decode cX9_isContract 15 = .ok (.lsub, 1) := by decide +kernel
theorem dX9_isContract_16 : decode cX9_isContract 16 = .ok (.invokestatic 98, 3) := by decide +kernel
theorem dX9_isContract_19 : decode cX9_isContract 19 = .ok (.iconst 1, 1) := by decide +kernel
theorem dX9_isContract_20 : decode cX9_isContract 20 = .ok (.invokevirtual 173, 3) := by decide +kernel
theorem dX9_isContract_23 : decode cX9_isContract 23 = .ok (.ireturn, 1) := by decide +kernel
theorem dX9_isItem_0 : decode cX9_isItem 0 = .ok (.aload_n 0, 1) := by decide +kernel
theorem dX9_isItem_1 : decode cX9_isItem 1 = .ok (.iload_n 1, 1) := by decide +kernel
theorem dX9_isItem_2 : decode cX9_isItem 2 = .ok (.invokevirtual 230, 3) := by decide +kernel
theorem dX9_isItem_5 : decode cX9_isItem 5 = .ok (.ifCond .eq 35, 3) := by decide +kernel
theorem dX9_isItem_8 : decode cX9_isItem 8 = .ok (.aload_n 0, 1) := by decide +kernel
theorem dX9_isItem_9 : decode cX9_isItem 9 = .ok (.iload_n 2, 1) := by decide +kernel
theorem dX9_isItem_10 : decode cX9_isItem 10 = .ok (.i2l, 1) := by decide +kernel
theorem dX9_isItem_11 : decode cX9_isItem 11 = .ok (.lconst 0, 1) := by decide +kernel
theorem dX9_isItem_12 : decode cX9_isItem 12 = .ok (.aload_n 0, 1) := by decide +kernel
theorem dX9_isItem_13 : decode cX9_isItem 13 = .ok (.aload_n 0, 1) := by decide +kernel
theorem dX9_isItem_14 : decode cX9_isItem 14 = .ok (.iload_n 1, 1) := by decide +kernel
theorem dX9_isItem_15 : decode cX9_isItem 15 = .ok (.invokevirtual 201, 3) := by decide +kernel
theorem dX9_isItem_18 : decode cX9_isItem 18 = .ok (.bipush 7, 2) := by decide +kernel
theorem dX9_isItem_20 : decode cX9_isItem 20 = .ok (.iadd, 1) := by decide +kernel
theorem dX9_isItem_21 : decode cX9_isItem 21 = .ok (.invokevirtual 38, 3) := by decide +kernel
theorem dX9_isItem_24 : decode cX9_isItem 24 = .ok (.lconst 1, 1) := by decide +kernel
theorem dX9_isItem_25 : decode cX9_isItem 25 = .ok (.lsub, 1) := by decide +kernel
theorem dX9_isItem_26 : decode cX9_isItem 26 = .ok (.invokestatic 98, 3) := by decide +kernel
theorem dX9_isItem_29 : decode cX9_isItem 29 = .ok (.iconst 1, 1) := by decide +kernel
theorem dX9_isItem_30 : decode cX9_isItem 30 = .ok (.invokevirtual 173, 3) := by decide +kernel
theorem dX9_isItem_33 : decode cX9_isItem 33 = .ok (.ifCond .eq 7, 3) := by decide +kernel
theorem dX9_isItem_36 : decode cX9_isItem 36 = .ok (.iconst 1, 1) := by decide +kernel
theorem dX9_isItem_37 : decode cX9_isItem 37 = .ok (.goto 4, 3) := by decide +kernel
theorem dX9_isItem_40 : decode cX9_isItem 40 = .ok (.iconst 0, 1) := by decide +kernel
theorem dX9_isItem_41 : decode cX9_isItem 41 = .ok (.ireturn, 1) := by decide +kernel
theorem dX9_day_0 : decode cX9_day 0 = .ok (.aload_n 0, 1) := by decide +kernel
theorem dX9_day_1 : decode cX9_day 1 = .ok (.iconst 0, 1) := by decide +kernel
theorem dX9_day_2 : decode cX9_day 2 = .ok (.putfield 32, 3) := by decide +kernel
theorem dX9_day_5 : decode cX9_day 5 = .ok (.aload_n 0, 1) := by decide +kernel
theorem dX9_day_6 : decode cX9_day 6 = .ok (.iconst 1, 1) := by decide +kernel
theorem dX9_day_7 : decode cX9_day 7 = .ok (.invokevirtual 187, 3) := by decide +kernel
theorem dX9_day_10 : decode cX9_day 10 = .ok (.ireturn, 1) := by decide +kernel
theorem dX9_contractCount_0 : decode cX9_contractCount 0 = .ok (.aload_n 0, 1) := by decide +kernel
theorem dX9_contractCount_1 : decode cX9_contractCount 1 = .ok (.iconst 0, 1) := by decide +kernel
theorem dX9_contractCount_2 : decode cX9_contractCount 2 = .ok (.putfield 32, 3) := by decide +kernel
theorem dX9_contractCount_5 : decode cX9_contractCount 5 = .ok (.aload_n 0, 1) := by decide +kernel
theorem dX9_contractCount_6 : decode cX9_contractCount 6 = .ok (.iconst 0, 1) := by decide +kernel
theorem dX9_contractCount_7 : decode cX9_contractCount 7 = .ok (.invokevirtual 187, 3) := by decide +kernel
theorem dX9_contractCount_10 : decode cX9_contractCount 10 = .ok (.ireturn, 1) := by decide +kernel
theorem dX9_parent_0 : decode cX9_parent 0 = .ok (.aload_n 0, 1) := by decide +kernel
theorem dX9_parent_1 : decode cX9_parent 1 = .ok (.iload_n 1, 1) := by decide +kernel
theorem dX9_parent_2 : decode cX9_parent 2 = .ok (.invokevirtual 230, 3) := by decide +kernel
theorem dX9_parent_5 : decode cX9_parent 5 = .ok (.ifCond .eq 17, 3) := by decide +kernel
theorem dX9_parent_8 : decode cX9_parent 8 = .ok (.aload_n 0, 1) := by decide +kernel
theorem dX9_parent_9 : decode cX9_parent 9 = .ok (.aload_n 0, 1) := by decide +kernel
theorem dX9_parent_10 : decode cX9_parent 10 = .ok (.iload_n 1, 1) := by decide +kernel
theorem dX9_parent_11 : decode cX9_parent 11 = .ok (.invokevirtual 201, 3) := by decide +kernel
theorem dX9_parent_14 : decode cX9_parent 14 = .ok (.iconst 0, 1) := by decide +kernel
theorem dX9_parent_15 : decode cX9_parent 15 = .ok (.iadd, 1) := by decide +kernel
theorem dX9_parent_16 : decode cX9_parent 16 = .ok (.invokevirtual 187, 3) := by decide +kernel
theorem dX9_parent_19 : decode cX9_parent 19 = .ok (.goto 4, 3) := by decide +kernel
theorem dX9_parent_22 : decode cX9_parent 22 = .ok (.iconst 0, 1) := by decide +kernel
theorem dX9_parent_23 : decode cX9_parent 23 = .ok (.ireturn, 1) := by decide +kernel
theorem dX9_itemCount_0 : decode cX9_itemCount 0 = .ok (.aload_n 0, 1) := by decide +kernel
theorem dX9_itemCount_1 : decode cX9_itemCount 1 = .ok (.iload_n 1, 1) := by decide +kernel
theorem dX9_itemCount_2 : decode cX9_itemCount 2 = .ok (.invokevirtual 230, 3) := by decide +kernel
theorem dX9_itemCount_5 : decode cX9_itemCount 5 = .ok (.ifCond .eq 18, 3) := by decide +kernel
theorem dX9_itemCount_8 : decode cX9_itemCount 8 = .ok (.aload_n 0, 1) := by decide +kernel
theorem dX9_itemCount_9 : decode cX9_itemCount 9 = .ok (.aload_n 0, 1) := by decide +kernel
theorem dX9_itemCount_10 : decode cX9_itemCount 10 = .ok (.iload_n 1, 1) := by decide +kernel
theorem dX9_itemCount_11 : decode cX9_itemCount 11 = .ok (.invokevirtual 201, 3) := by decide +kernel
theorem dX9_itemCount_14 : decode cX9_itemCount 14 = .ok (.bipush 7, 2) := by decide +kernel
theorem dX9_itemCount_16 : decode cX9_itemCount 16 = .ok (.iadd, 1) := by decide +kernel
theorem dX9_itemCount_17 : decode cX9_itemCount 17 = .ok (.invokevirtual 187, 3) := by decide +kernel
theorem dX9_itemCount_20 : decode cX9_itemCount 20 = .ok (.goto 4, 3) := by decide +kernel
theorem dX9_itemCount_23 : decode cX9_itemCount 23 = .ok (.iconst 0, 1) := by decide +kernel
theorem dX9_itemCount_24 : decode cX9_itemCount 24 = .ok (.ireturn, 1) := by decide +kernel
theorem dX9_quantity_0 : decode cX9_quantity 0 = .ok (.aload_n 0, 1) := by decide +kernel
theorem dX9_quantity_1 : decode cX9_quantity 1 = .ok (.iload_n 1, 1) := by decide +kernel
theorem dX9_quantity_2 : decode cX9_quantity 2 = .ok (.iload_n 2, 1) := by decide +kernel
theorem dX9_quantity_3 : decode cX9_quantity 3 = .ok (.invokevirtual 234, 3) := by decide +kernel
theorem dX9_quantity_6 : decode cX9_quantity 6 = .ok (.ifCond .eq 13, 3) := by decide +kernel
theorem dX9_quantity_9 : decode cX9_quantity 9 = .ok (.aload_n 0, 1) := by decide +kernel
theorem dX9_quantity_10 : decode cX9_quantity 10 = .ok (.iload_n 1, 1) := by decide +kernel
theorem dX9_quantity_11 : decode cX9_quantity 11 = .ok (.iload_n 2, 1) := by decide +kernel
theorem dX9_quantity_12 : decode cX9_quantity 12 = .ok (.invokevirtual 224, 3) := by decide +kernel
theorem dX9_quantity_15 : decode cX9_quantity 15 = .ok (.l2i, 1) := by decide +kernel
theorem dX9_quantity_16 : decode cX9_quantity 16 = .ok (.goto 4, 3) := by decide +kernel
theorem dX9_quantity_19 : decode cX9_quantity 19 = .ok (.iconst 0, 1) := by decide +kernel
theorem dX9_quantity_20 : decode cX9_quantity 20 = .ok (.ireturn, 1) := by decide +kernel
theorem dX9_specialRate_0 : decode cX9_specialRate 0 = .ok (.aload_n 0, 1) := by decide +kernel
theorem dX9_specialRate_1 : decode cX9_specialRate 1 = .ok (.iload_n 1, 1) := by decide +kernel
theorem dX9_specialRate_2 : decode cX9_specialRate 2 = .ok (.iload_n 2, 1) := by decide +kernel
theorem dX9_specialRate_3 : decode cX9_specialRate 3 = .ok (.invokevirtual 234, 3) := by decide +kernel
theorem dX9_specialRate_6 : decode cX9_specialRate 6 = .ok (.ifCond .eq 19, 3) := by decide +kernel
theorem dX9_specialRate_9 : decode cX9_specialRate 9 = .ok (.aload_n 0, 1) := by decide +kernel
theorem dX9_specialRate_10 : decode cX9_specialRate 10 = .ok (.iload_n 1, 1) := by decide +kernel
theorem dX9_specialRate_11 : decode cX9_specialRate 11 = .ok (.iload_n 2, 1) := by decide +kernel
theorem dX9_specialRate_12 : decode cX9_specialRate 12 = .ok (.aload_n 0, 1) := by decide +kernel
theorem dX9_specialRate_13 : decode cX9_specialRate 13 = .ok (.iload_n 1, 1) := by decide +kernel
theorem dX9_specialRate_14 : decode cX9_specialRate 14 = .ok (.iload_n 2, 1) := by decide +kernel
theorem dX9_specialRate_15 : decode cX9_specialRate 15 = .ok (.invokevirtual 224, 3) := by decide +kernel
theorem dX9_specialRate_18 : decode cX9_specialRate 18 = .ok (.invokevirtual 220, 3) := by decide +kernel
theorem dX9_specialRate_21 : decode cX9_specialRate 21 = .ok (.l2i, 1) := by decide +kernel
theorem dX9_specialRate_22 : decode cX9_specialRate 22 = .ok (.goto 4, 3) := by decide +kernel
theorem dX9_specialRate_25 : decode cX9_specialRate 25 = .ok (.iconst 0, 1) := by decide +kernel
theorem dX9_specialRate_26 : decode cX9_specialRate 26 = .ok (.ireturn, 1) := by decide +kernel
theorem dX9_itemValue_0 : decode cX9_itemValue 0 = .ok (.aload_n 0, 1) := by decide +kernel
theorem dX9_itemValue_1 : decode cX9_itemValue 1 = .ok (.iload_n 1, 1) := by decide +kernel
theorem dX9_itemValue_2 : decode cX9_itemValue 2 = .ok (.iload_n 2, 1) := by decide +kernel
theorem dX9_itemValue_3 : decode cX9_itemValue 3 = .ok (.invokevirtual 234, 3) := by decide +kernel
theorem dX9_itemValue_6 : decode cX9_itemValue 6 = .ok (.ifCond .eq 12, 3) := by decide +kernel
theorem dX9_itemValue_9 : decode cX9_itemValue 9 = .ok (.aload_n 0, 1) := by decide +kernel
theorem dX9_itemValue_10 : decode cX9_itemValue 10 = .ok (.iload_n 1, 1) := by decide +kernel
theorem dX9_itemValue_11 : decode cX9_itemValue 11 = .ok (.iload_n 2, 1) := by decide +kernel
theorem dX9_itemValue_12 : decode cX9_itemValue 12 = .ok (.invokevirtual 237, 3) := by decide +kernel
theorem dX9_itemValue_15 : decode cX9_itemValue 15 = .ok (.goto 4, 3) := by decide +kernel
theorem dX9_itemValue_18 : decode cX9_itemValue 18 = .ok (.lconst 0, 1) := by decide +kernel
theorem dX9_itemValue_19 : decode cX9_itemValue 19 = .ok (.lreturn, 1) := by decide +kernel
theorem dX9_firstOf_0 : decode cX9_firstOf 0 = .ok (.lconst 0, 1) := by decide +kernel
theorem dX9_firstOf_1 : decode cX9_firstOf 1 = .ok (.lstore_n 2, 1) := by decide +kernel
theorem dX9_firstOf_2 : decode cX9_firstOf 2 = .ok (.iconst 0, 1) := by decide +kernel
theorem dX9_firstOf_3 : decode cX9_firstOf 3 = .ok (.istore 4, 2) := by decide +kernel
theorem dX9_firstOf_5 : decode cX9_firstOf 5 = .ok (.iload 4, 2) := by decide +kernel
theorem dX9_firstOf_7 : decode cX9_firstOf 7 = .ok (.i2l, 1) := by decide +kernel
theorem dX9_firstOf_8 : decode cX9_firstOf 8 = .ok (.aload_n 0, 1) := by decide +kernel
theorem dX9_firstOf_9 : decode cX9_firstOf 9 = .ok (.aload_n 0, 1) := by decide +kernel
theorem dX9_firstOf_10 : decode cX9_firstOf 10 = .ok (.iload_n 1, 1) := by decide +kernel
theorem dX9_firstOf_11 : decode cX9_firstOf 11 = .ok (.invokevirtual 201, 3) := by decide +kernel
theorem dX9_firstOf_14 : decode cX9_firstOf 14 = .ok (.bipush 7, 2) := by decide +kernel
theorem dX9_firstOf_16 : decode cX9_firstOf 16 = .ok (.iadd, 1) := by decide +kernel
theorem dX9_firstOf_17 : decode cX9_firstOf 17 = .ok (.invokevirtual 38, 3) := by decide +kernel
theorem dX9_firstOf_20 : decode cX9_firstOf 20 = .ok (.lcmp, 1) := by decide +kernel
theorem dX9_firstOf_21 : decode cX9_firstOf 21 = .ok (.ifCond .ge 37, 3) := by decide +kernel
theorem dX9_firstOf_24 : decode cX9_firstOf 24 = .ok (.lload_n 2, 1) := by decide +kernel
theorem dX9_firstOf_25 : decode cX9_firstOf 25 = .ok (.aload_n 0, 1) := by decide +kernel
theorem dX9_firstOf_26 : decode cX9_firstOf 26 = .ok (.aload_n 0, 1) := by decide +kernel
theorem dX9_firstOf_27 : decode cX9_firstOf 27 = .ok (.iload_n 1, 1) := by decide +kernel
theorem dX9_firstOf_28 : decode cX9_firstOf 28 = .ok (.iload 4, 2) := by decide +kernel
theorem dX9_firstOf_30 : decode cX9_firstOf 30 = .ok (.invokevirtual 204, 3) := by decide +kernel
theorem dX9_firstOf_33 : decode cX9_firstOf 33 = .ok (.invokevirtual 38, 3) := by decide +kernel
theorem dX9_firstOf_36 : decode cX9_firstOf 36 = .ok (.aload_n 0, 1) := by decide +kernel
theorem dX9_firstOf_37 : decode cX9_firstOf 37 = .ok (.aload_n 0, 1) := by decide +kernel
theorem dX9_firstOf_38 : decode cX9_firstOf 38 = .ok (.iload_n 1, 1) := by decide +kernel
theorem dX9_firstOf_39 : decode cX9_firstOf 39 = .ok (.iload 4, 2) := by decide +kernel
theorem dX9_firstOf_41 : decode cX9_firstOf 41 = .ok (.invokevirtual 204, 3) := by decide +kernel
theorem dX9_firstOf_44 : decode cX9_firstOf 44 = .ok (.iconst 1, 1) := by decide +kernel
theorem dX9_firstOf_45 : decode cX9_firstOf 45 = .ok (.iadd, 1) := by decide +kernel
theorem dX9_firstOf_46 : decode cX9_firstOf 46 = .ok (.invokevirtual 38, 3) := by decide +kernel
theorem dX9_firstOf_49 : decode cX9_firstOf 49 = .ok (.lmul, 1) := by decide +kernel
theorem dX9_firstOf_50 : decode cX9_firstOf 50 = .ok (.ladd, 1) := by decide +kernel
theorem dX9_firstOf_51 : decode cX9_firstOf 51 = .ok (.lstore_n 2, 1) := by decide +kernel
theorem dX9_firstOf_52 : decode cX9_firstOf 52 = .ok (.iinc 4 1, 3) := by decide +kernel
theorem dX9_firstOf_55 : decode cX9_firstOf 55 = .ok (.goto (-50), 3) := by decide +kernel
theorem dX9_firstOf_58 : decode cX9_firstOf 58 = .ok (.lload_n 2, 1) := by decide +kernel
theorem dX9_firstOf_59 : decode cX9_firstOf 59 = .ok (.lreturn, 1) := by decide +kernel
theorem dX9_presentOf_0 : decode cX9_presentOf 0 = .ok (.lconst 0, 1) := by decide +kernel
theorem dX9_presentOf_1 : decode cX9_presentOf 1 = .ok (.lstore_n 2, 1) := by decide +kernel
theorem dX9_presentOf_2 : decode cX9_presentOf 2 = .ok (.iconst 0, 1) := by decide +kernel
theorem dX9_presentOf_3 : decode cX9_presentOf 3 = .ok (.istore 4, 2) := by decide +kernel
theorem dX9_presentOf_5 : decode cX9_presentOf 5 = .ok (.iload 4, 2) := by decide +kernel
theorem dX9_presentOf_7 : decode cX9_presentOf 7 = .ok (.i2l, 1) := by decide +kernel
theorem dX9_presentOf_8 : decode cX9_presentOf 8 = .ok (.aload_n 0, 1) := by decide +kernel
theorem dX9_presentOf_9 : decode cX9_presentOf 9 = .ok (.aload_n 0, 1) := by decide +kernel
theorem dX9_presentOf_10 : decode cX9_presentOf 10 = .ok (.iload_n 1, 1) := by decide +kernel
theorem dX9_presentOf_11 : decode cX9_presentOf 11 = .ok (.invokevirtual 201, 3) := by decide +kernel
theorem dX9_presentOf_14 : decode cX9_presentOf 14 = .ok (.bipush 7, 2) := by decide +kernel
theorem dX9_presentOf_16 : decode cX9_presentOf 16 = .ok (.iadd, 1) := by decide +kernel
theorem dX9_presentOf_17 : decode cX9_presentOf 17 = .ok (.invokevirtual 38, 3) := by decide +kernel
theorem dX9_presentOf_20 : decode cX9_presentOf 20 = .ok (.lcmp, 1) := by decide +kernel
theorem dX9_presentOf_21 : decode cX9_presentOf 21 = .ok (.ifCond .ge 26, 3) := by decide +kernel
theorem dX9_presentOf_24 : decode cX9_presentOf 24 = .ok (.lload_n 2, 1) := by decide +kernel
theorem dX9_presentOf_25 : decode cX9_presentOf 25 = .ok (.aload_n 0, 1) := by decide +kernel
theorem dX9_presentOf_26 : decode cX9_presentOf 26 = .ok (.iload_n 1, 1) := by decide +kernel
theorem dX9_presentOf_27 : decode cX9_presentOf 27 = .ok (.iload 4, 2) := by decide +kernel
theorem dX9_presentOf_29 : decode cX9_presentOf 29 = .ok (.aload_n 0, 1) := by decide +kernel
theorem dX9_presentOf_30 : decode cX9_presentOf 30 = .ok (.iload_n 1, 1) := by decide +kernel
theorem dX9_presentOf_31 : decode cX9_presentOf 31 = .ok (.iload 4, 2) := by decide +kernel
theorem dX9_presentOf_33 : decode cX9_presentOf 33 = .ok (.invokevirtual 224, 3) := by decide +kernel
theorem dX9_presentOf_36 : decode cX9_presentOf 36 = .ok (.invokevirtual 227, 3) := by decide +kernel
theorem dX9_presentOf_39 : decode cX9_presentOf 39 = .ok (.ladd, 1) := by decide +kernel
theorem dX9_presentOf_40 : decode cX9_presentOf 40 = .ok (.lstore_n 2, 1) := by decide +kernel
theorem dX9_presentOf_41 : decode cX9_presentOf 41 = .ok (.iinc 4 1, 3) := by decide +kernel
theorem dX9_presentOf_44 : decode cX9_presentOf 44 = .ok (.goto (-39), 3) := by decide +kernel
theorem dX9_presentOf_47 : decode cX9_presentOf 47 = .ok (.lload_n 2, 1) := by decide +kernel
theorem dX9_presentOf_48 : decode cX9_presentOf 48 = .ok (.lreturn, 1) := by decide +kernel
theorem dX9_grossOf_0 : decode cX9_grossOf 0 = .ok (.lconst 0, 1) := by decide +kernel
theorem dX9_grossOf_1 : decode cX9_grossOf 1 = .ok (.lstore_n 2, 1) := by decide +kernel
theorem dX9_grossOf_2 : decode cX9_grossOf 2 = .ok (.iconst 0, 1) := by decide +kernel
theorem dX9_grossOf_3 : decode cX9_grossOf 3 = .ok (.istore 4, 2) := by decide +kernel
theorem dX9_grossOf_5 : decode cX9_grossOf 5 = .ok (.iload 4, 2) := by decide +kernel
theorem dX9_grossOf_7 : decode cX9_grossOf 7 = .ok (.i2l, 1) := by decide +kernel
theorem dX9_grossOf_8 : decode cX9_grossOf 8 = .ok (.aload_n 0, 1) := by decide +kernel
theorem dX9_grossOf_9 : decode cX9_grossOf 9 = .ok (.aload_n 0, 1) := by decide +kernel
theorem dX9_grossOf_10 : decode cX9_grossOf 10 = .ok (.iload_n 1, 1) := by decide +kernel
theorem dX9_grossOf_11 : decode cX9_grossOf 11 = .ok (.invokevirtual 201, 3) := by decide +kernel
theorem dX9_grossOf_14 : decode cX9_grossOf 14 = .ok (.bipush 7, 2) := by decide +kernel
theorem dX9_grossOf_16 : decode cX9_grossOf 16 = .ok (.iadd, 1) := by decide +kernel
theorem dX9_grossOf_17 : decode cX9_grossOf 17 = .ok (.invokevirtual 38, 3) := by decide +kernel
theorem dX9_grossOf_20 : decode cX9_grossOf 20 = .ok (.lcmp, 1) := by decide +kernel
theorem dX9_grossOf_21 : decode cX9_grossOf 21 = .ok (.ifCond .ge 19, 3) := by decide +kernel
theorem dX9_grossOf_24 : decode cX9_grossOf 24 = .ok (.lload_n 2, 1) := by decide +kernel
theorem dX9_grossOf_25 : decode cX9_grossOf 25 = .ok (.aload_n 0, 1) := by decide +kernel
theorem dX9_grossOf_26 : decode cX9_grossOf 26 = .ok (.iload_n 1, 1) := by decide +kernel
theorem dX9_grossOf_27 : decode cX9_grossOf 27 = .ok (.iload 4, 2) := by decide +kernel
theorem dX9_grossOf_29 : decode cX9_grossOf 29 = .ok (.invokevirtual 237, 3) := by decide +kernel
theorem dX9_grossOf_32 : decode cX9_grossOf 32 = .ok (.ladd, 1) := by decide +kernel
theorem dX9_grossOf_33 : decode cX9_grossOf 33 = .ok (.lstore_n 2, 1) := by decide +kernel
theorem dX9_grossOf_34 : decode cX9_grossOf 34 = .ok (.iinc 4 1, 3) := by decide +kernel
theorem dX9_grossOf_37 : decode cX9_grossOf 37 = .ok (.goto (-32), 3) := by decide +kernel
theorem dX9_grossOf_40 : decode cX9_grossOf 40 = .ok (.lload_n 2, 1) := by decide +kernel
theorem dX9_grossOf_41 : decode cX9_grossOf 41 = .ok (.lreturn, 1) := by decide +kernel
theorem dX9_heldOf_0 : decode cX9_heldOf 0 = .ok (.aload_n 0, 1) := by decide +kernel
theorem dX9_heldOf_1 : decode cX9_heldOf 1 = .ok (.iload_n 1, 1) := by decide +kernel
theorem dX9_heldOf_2 : decode cX9_heldOf 2 = .ok (.invokevirtual 240, 3) := by decide +kernel
theorem dX9_heldOf_5 : decode cX9_heldOf 5 = .ok (.aload_n 0, 1) := by decide +kernel
theorem dX9_heldOf_6 : decode cX9_heldOf 6 = .ok (.aload_n 0, 1) := by decide +kernel
theorem dX9_heldOf_7 : decode cX9_heldOf 7 = .ok (.iload_n 1, 1) := by decide +kernel
theorem dX9_heldOf_8 : decode cX9_heldOf 8 = .ok (.invokevirtual 201, 3) := by decide +kernel
theorem dX9_heldOf_11 : decode cX9_heldOf 11 = .ok (.iconst 1, 1) := by decide +kernel
theorem dX9_heldOf_12 : decode cX9_heldOf 12 = .ok (.iadd, 1) := by decide +kernel
theorem dX9_heldOf_13 : decode cX9_heldOf 13 = .ok (.invokevirtual 38, 3) := by decide +kernel
theorem dX9_heldOf_16 : decode cX9_heldOf 16 = .ok (.lmul, 1) := by decide +kernel
theorem dX9_heldOf_17 : decode cX9_heldOf 17 = .ok (.ldc2_w 207, 3) := by decide +kernel
theorem dX9_heldOf_20 : decode cX9_heldOf 20 = .ok (.ldiv, 1) := by decide +kernel
theorem dX9_heldOf_21 : decode cX9_heldOf 21 = .ok (.aload_n 0, 1) := by decide +kernel
theorem dX9_heldOf_22 : decode cX9_heldOf 22 = .ok (.iload_n 1, 1) := by decide +kernel
theorem dX9_heldOf_23 : decode cX9_heldOf 23 = .ok (.invokevirtual 243, 3) := by decide +kernel
theorem dX9_heldOf_26 : decode cX9_heldOf 26 = .ok (.aload_n 0, 1) := by decide +kernel
theorem dX9_heldOf_27 : decode cX9_heldOf 27 = .ok (.aload_n 0, 1) := by decide +kernel
theorem dX9_heldOf_28 : decode cX9_heldOf 28 = .ok (.iload_n 1, 1) := by decide +kernel
theorem dX9_heldOf_29 : decode cX9_heldOf 29 = .ok (.invokevirtual 201, 3) := by decide +kernel
theorem dX9_heldOf_32 : decode cX9_heldOf 32 = .ok (.iconst 2, 1) := by decide +kernel
theorem dX9_heldOf_33 : decode cX9_heldOf 33 = .ok (.iadd, 1) := by decide +kernel
theorem dX9_heldOf_34 : decode cX9_heldOf 34 = .ok (.invokevirtual 38, 3) := by decide +kernel
theorem dX9_heldOf_37 : decode cX9_heldOf 37 = .ok (.lmul, 1) := by decide +kernel
theorem dX9_heldOf_38 : decode cX9_heldOf 38 = .ok (.ldc2_w 207, 3) := by decide +kernel
theorem dX9_heldOf_41 : decode cX9_heldOf 41 = .ok (.ldiv, 1) := by decide +kernel
theorem dX9_heldOf_42 : decode cX9_heldOf 42 = .ok (.invokestatic 246, 3) := by decide +kernel
theorem dX9_heldOf_45 : decode cX9_heldOf 45 = .ok (.lstore_n 2, 1) := by decide +kernel
theorem dX9_heldOf_46 : decode cX9_heldOf 46 = .ok (.aload_n 0, 1) := by decide +kernel
theorem dX9_heldOf_47 : decode cX9_heldOf 47 = .ok (.aload_n 0, 1) := by decide +kernel
theorem dX9_heldOf_48 : decode cX9_heldOf 48 = .ok (.iload_n 1, 1) := by decide +kernel
theorem dX9_heldOf_49 : decode cX9_heldOf 49 = .ok (.invokevirtual 201, 3) := by decide +kernel
theorem dX9_heldOf_52 : decode cX9_heldOf 52 = .ok (.bipush 6, 2) := by decide +kernel
theorem dX9_heldOf_54 : decode cX9_heldOf 54 = .ok (.iadd, 1) := by decide +kernel
theorem dX9_heldOf_55 : decode cX9_heldOf 55 = .ok (.invokevirtual 38, 3) := by decide +kernel
theorem dX9_heldOf_58 : decode cX9_heldOf 58 = .ok (.lconst 0, 1) := by decide +kernel
theorem dX9_heldOf_59 : decode cX9_heldOf 59 = .ok (.lcmp, 1) := by decide +kernel
theorem dX9_heldOf_60 : decode cX9_heldOf 60 = .ok (.ifCond .ne 7, 3) := by decide +kernel
theorem dX9_heldOf_63 : decode cX9_heldOf 63 = .ok (.lload_n 2, 1) := by decide +kernel
theorem dX9_heldOf_64 : decode cX9_heldOf 64 = .ok (.goto 29, 3) := by decide +kernel
theorem dX9_heldOf_67 : decode cX9_heldOf 67 = .ok (.aload_n 0, 1) := by decide +kernel
theorem dX9_heldOf_68 : decode cX9_heldOf 68 = .ok (.aload_n 0, 1) := by decide +kernel
theorem dX9_heldOf_69 : decode cX9_heldOf 69 = .ok (.iload_n 1, 1) := by decide +kernel
theorem dX9_heldOf_70 : decode cX9_heldOf 70 = .ok (.invokevirtual 201, 3) := by decide +kernel
theorem dX9_heldOf_73 : decode cX9_heldOf 73 = .ok (.bipush 6, 2) := by decide +kernel
theorem dX9_heldOf_75 : decode cX9_heldOf 75 = .ok (.iadd, 1) := by decide +kernel
theorem dX9_heldOf_76 : decode cX9_heldOf 76 = .ok (.invokevirtual 38, 3) := by decide +kernel
theorem dX9_heldOf_79 : decode cX9_heldOf 79 = .ok (.lconst 1, 1) := by decide +kernel
theorem dX9_heldOf_80 : decode cX9_heldOf 80 = .ok (.lcmp, 1) := by decide +kernel
theorem dX9_heldOf_81 : decode cX9_heldOf 81 = .ok (.ifCond .ne 11, 3) := by decide +kernel
theorem dX9_heldOf_84 : decode cX9_heldOf 84 = .ok (.lload_n 2, 1) := by decide +kernel
theorem dX9_heldOf_85 : decode cX9_heldOf 85 = .ok (.ldc2_w 102, 3) := by decide +kernel
theorem dX9_heldOf_88 : decode cX9_heldOf 88 = .ok (.ldiv, 1) := by decide +kernel
theorem dX9_heldOf_89 : decode cX9_heldOf 89 = .ok (.goto 4, 3) := by decide +kernel
theorem dX9_heldOf_92 : decode cX9_heldOf 92 = .ok (.lconst 0, 1) := by decide +kernel
theorem dX9_heldOf_93 : decode cX9_heldOf 93 = .ok (.lreturn, 1) := by decide +kernel
theorem dX9_firstSum_0 : decode cX9_firstSum 0 = .ok (.aload_n 0, 1) := by decide +kernel
theorem dX9_firstSum_1 : decode cX9_firstSum 1 = .ok (.iload_n 1, 1) := by decide +kernel
theorem dX9_firstSum_2 : decode cX9_firstSum 2 = .ok (.invokevirtual 230, 3) := by decide +kernel
theorem dX9_firstSum_5 : decode cX9_firstSum 5 = .ok (.ifCond .eq 11, 3) := by decide +kernel
theorem dX9_firstSum_8 : decode cX9_firstSum 8 = .ok (.aload_n 0, 1) := by decide +kernel
theorem dX9_firstSum_9 : decode cX9_firstSum 9 = .ok (.iload_n 1, 1) := by decide +kernel
theorem dX9_firstSum_10 : decode cX9_firstSum 10 = .ok (.invokevirtual 243, 3) := by decide +kernel
theorem dX9_firstSum_13 : decode cX9_firstSum 13 = .ok (.goto 4, 3) := by decide +kernel
theorem dX9_firstSum_16 : decode cX9_firstSum 16 = .ok (.lconst 0, 1) := by decide +kernel
theorem dX9_firstSum_17 : decode cX9_firstSum 17 = .ok (.lreturn, 1) := by decide +kernel
theorem dX9_presentSum_0 : decode cX9_presentSum 0 = .ok (.aload_n 0, 1) := by decide +kernel
theorem dX9_presentSum_1 : decode cX9_presentSum 1 = .ok (.iload_n 1, 1) := by decide +kernel
theorem dX9_presentSum_2 : decode cX9_presentSum 2 = .ok (.invokevirtual 230, 3) := by decide +kernel
theorem dX9_presentSum_5 : decode cX9_presentSum 5 = .ok (.ifCond .eq 11, 3) := by decide +kernel
theorem dX9_presentSum_8 : decode cX9_presentSum 8 = .ok (.aload_n 0, 1) := by decide +kernel
theorem dX9_presentSum_9 : decode cX9_presentSum 9 = .ok (.iload_n 1, 1) := by decide +kernel
theorem dX9_presentSum_10 : decode cX9_presentSum 10 = .ok (.invokevirtual 248, 3) := by decide +kernel
theorem dX9_presentSum_13 : decode cX9_presentSum 13 = .ok (.goto 4, 3) := by decide +kernel
theorem dX9_presentSum_16 : decode cX9_presentSum 16 = .ok (.lconst 0, 1) := by decide +kernel
theorem dX9_presentSum_17 : decode cX9_presentSum 17 = .ok (.lreturn, 1) := by decide +kernel
theorem dX9_grossValue_0 : decode cX9_grossValue 0 = .ok (.aload_n 0, 1) := by decide +kernel
theorem dX9_grossValue_1 : decode cX9_grossValue 1 = .ok (.iload_n 1, 1) := by decide +kernel
theorem dX9_grossValue_2 : decode cX9_grossValue 2 = .ok (.invokevirtual 230, 3) := by decide +kernel
theorem dX9_grossValue_5 : decode cX9_grossValue 5 = .ok (.ifCond .eq 11, 3) := by decide +kernel
theorem dX9_grossValue_8 : decode cX9_grossValue 8 = .ok (.aload_n 0, 1) := by decide +kernel
theorem dX9_grossValue_9 : decode cX9_grossValue 9 = .ok (.iload_n 1, 1) := by decide +kernel
theorem dX9_grossValue_10 : decode cX9_grossValue 10 = .ok (.invokevirtual 240, 3) := by decide +kernel
theorem dX9_grossValue_13 : decode cX9_grossValue 13 = .ok (.goto 4, 3) := by decide +kernel
theorem dX9_grossValue_16 : decode cX9_grossValue 16 = .ok (.lconst 0, 1) := by decide +kernel
theorem dX9_grossValue_17 : decode cX9_grossValue 17 = .ok (.lreturn, 1) := by decide +kernel
theorem dX9_retention_0 : decode cX9_retention 0 = .ok (.aload_n 0, 1) := by decide +kernel
theorem dX9_retention_1 : decode cX9_retention 1 = .ok (.iload_n 1, 1) := by decide +kernel
theorem dX9_retention_2 : decode cX9_retention 2 = .ok (.invokevirtual 230, 3) := by decide +kernel
theorem dX9_retention_5 : decode cX9_retention 5 = .ok (.ifCond .eq 11, 3) := by decide +kernel
theorem dX9_retention_8 : decode cX9_retention 8 = .ok (.aload_n 0, 1) := by decide +kernel
theorem dX9_retention_9 : decode cX9_retention 9 = .ok (.iload_n 1, 1) := by decide +kernel
theorem dX9_retention_10 : decode cX9_retention 10 = .ok (.invokevirtual 251, 3) := by decide +kernel
theorem dX9_retention_13 : decode cX9_retention 13 = .ok (.goto 4, 3) := by decide +kernel
theorem dX9_retention_16 : decode cX9_retention 16 = .ok (.lconst 0, 1) := by decide +kernel
theorem dX9_retention_17 : decode cX9_retention 17 = .ok (.lreturn, 1) := by decide +kernel
theorem dX9_stage_0 : decode cX9_stage 0 = .ok (.aload_n 0, 1) := by decide +kernel
theorem dX9_stage_1 : decode cX9_stage 1 = .ok (.iload_n 1, 1) := by decide +kernel
theorem dX9_stage_2 : decode cX9_stage 2 = .ok (.invokevirtual 230, 3) := by decide +kernel
theorem dX9_stage_5 : decode cX9_stage 5 = .ok (.ifCond .eq 18, 3) := by decide +kernel
theorem dX9_stage_8 : decode cX9_stage 8 = .ok (.aload_n 0, 1) := by decide +kernel
theorem dX9_stage_9 : decode cX9_stage 9 = .ok (.aload_n 0, 1) := by decide +kernel
theorem dX9_stage_10 : decode cX9_stage 10 = .ok (.iload_n 1, 1) := by decide +kernel
theorem dX9_stage_11 : decode cX9_stage 11 = .ok (.invokevirtual 201, 3) := by decide +kernel
theorem dX9_stage_14 : decode cX9_stage 14 = .ok (.bipush 6, 2) := by decide +kernel
theorem dX9_stage_16 : decode cX9_stage 16 = .ok (.iadd, 1) := by decide +kernel
theorem dX9_stage_17 : decode cX9_stage 17 = .ok (.invokevirtual 187, 3) := by decide +kernel
theorem dX9_stage_20 : decode cX9_stage 20 = .ok (.goto 4, 3) := by decide +kernel
theorem dX9_stage_23 : decode cX9_stage 23 = .ok (.iconst 0, 1) := by decide +kernel
theorem dX9_stage_24 : decode cX9_stage 24 = .ok (.ireturn, 1) := by decide +kernel
theorem dX9_margin_0 : decode cX9_margin 0 = .ok (.aload_n 0, 1) := by decide +kernel
theorem dX9_margin_1 : decode cX9_margin 1 = .ok (.iload_n 1, 1) := by decide +kernel
theorem dX9_margin_2 : decode cX9_margin 2 = .ok (.invokevirtual 230, 3) := by decide +kernel
theorem dX9_margin_5 : decode cX9_margin 5 = .ok (.ifCond .ne 5, 3) := by decide +kernel
theorem dX9_margin_8 : decode cX9_margin 8 = .ok (.lconst 0, 1) := by decide +kernel
theorem dX9_margin_9 : decode cX9_margin 9 = .ok (.lreturn, 1) := by decide +kernel
theorem dX9_margin_10 : decode cX9_margin 10 = .ok (.aload_n 0, 1) := by decide +kernel
theorem dX9_margin_11 : decode cX9_margin 11 = .ok (.iload_n 1, 1) := by decide +kernel
theorem dX9_margin_12 : decode cX9_margin 12 = .ok (.invokevirtual 248, 3) := by decide +kernel
theorem dX9_margin_15 : decode cX9_margin 15 = .ok (.lstore_n 2, 1) := by decide +kernel
theorem dX9_margin_16 : decode cX9_margin 16 = .ok (.iconst 0, 1) := by decide +kernel
theorem dX9_margin_17 : decode cX9_margin 17 = .ok (.istore 4, 2) := by decide +kernel
theorem dX9_margin_19 : decode cX9_margin 19 = .ok (.iload 4, 2) := by decide +kernel
theorem dX9_margin_21 : decode cX9_margin 21 = .ok (.i2l, 1) := by decide +kernel
theorem dX9_margin_22 : decode cX9_margin 22 = .ok (.aload_n 0, 1) := by decide +kernel
theorem dX9_margin_23 : decode cX9_margin 23 = .ok (.iconst 0, 1) := by decide +kernel
theorem dX9_margin_24 : decode cX9_margin 24 = .ok (.invokevirtual 38, 3) := by decide +kernel
theorem dX9_margin_27 : decode cX9_margin 27 = .ok (.lcmp, 1) := by decide +kernel
theorem dX9_margin_28 : decode cX9_margin 28 = .ok (.ifCond .ge 40, 3) := by decide +kernel
theorem dX9_margin_31 : decode cX9_margin 31 = .ok (.lload_n 2, 1) := by decide +kernel
theorem dX9_margin_32 : decode cX9_margin 32 = .ok (.aload_n 0, 1) := by decide +kernel
theorem dX9_margin_33 : decode cX9_margin 33 = .ok (.aload_n 0, 1) := by decide +kernel
theorem dX9_margin_34 : decode cX9_margin 34 = .ok (.iload 4, 2) := by decide +kernel
theorem dX9_margin_36 : decode cX9_margin 36 = .ok (.invokevirtual 201, 3) := by decide +kernel
theorem dX9_margin_39 : decode cX9_margin 39 = .ok (.iconst 0, 1) := by decide +kernel
theorem dX9_margin_40 : decode cX9_margin 40 = .ok (.iadd, 1) := by decide +kernel
theorem dX9_margin_41 : decode cX9_margin 41 = .ok (.invokevirtual 38, 3) := by decide +kernel
theorem dX9_margin_44 : decode cX9_margin 44 = .ok (.iload_n 1, 1) := by decide +kernel
theorem dX9_margin_45 : decode cX9_margin 45 = .ok (.i2l, 1) := by decide +kernel
theorem dX9_margin_46 : decode cX9_margin 46 = .ok (.lcmp, 1) := by decide +kernel
theorem dX9_margin_47 : decode cX9_margin 47 = .ok (.ifCond .ne 12, 3) := by decide +kernel
theorem dX9_margin_50 : decode cX9_margin 50 = .ok (.aload_n 0, 1) := by decide +kernel
theorem dX9_margin_51 : decode cX9_margin 51 = .ok (.iload 4, 2) := by decide +kernel
theorem dX9_margin_53 : decode cX9_margin 53 = .ok (.invokevirtual 248, 3) := by decide +kernel
theorem dX9_margin_56 : decode cX9_margin 56 = .ok (.goto 4, 3) := by decide +kernel
theorem dX9_margin_59 : decode cX9_margin 59 = .ok (.lconst 0, 1) := by decide +kernel
theorem dX9_margin_60 : decode cX9_margin 60 = .ok (.lsub, 1) := by decide +kernel
theorem dX9_margin_61 : decode cX9_margin 61 = .ok (.lstore_n 2, 1) := by decide +kernel
theorem dX9_margin_62 : decode cX9_margin 62 = .ok (.iinc 4 1, 3) := by decide +kernel
theorem dX9_margin_65 : decode cX9_margin 65 = .ok (.goto (-46), 3) := by decide +kernel
theorem dX9_margin_68 : decode cX9_margin 68 = .ok (.lload_n 2, 1) := by decide +kernel
theorem dX9_margin_69 : decode cX9_margin 69 = .ok (.lreturn, 1) := by decide +kernel
theorem dX9_account_0 : decode cX9_account 0 = .ok (.aload_n 0, 1) := by decide +kernel
theorem dX9_account_1 : decode cX9_account 1 = .ok (.iconst 0, 1) := by decide +kernel
theorem dX9_account_2 : decode cX9_account 2 = .ok (.putfield 32, 3) := by decide +kernel
theorem dX9_account_5 : decode cX9_account 5 = .ok (.aload_n 0, 1) := by decide +kernel
theorem dX9_account_6 : decode cX9_account 6 = .ok (.iload_n 1, 1) := by decide +kernel
theorem dX9_account_7 : decode cX9_account 7 = .ok (.i2l, 1) := by decide +kernel
theorem dX9_account_8 : decode cX9_account 8 = .ok (.lconst 0, 1) := by decide +kernel
theorem dX9_account_9 : decode cX9_account 9 = .ok (.aload_n 0, 1) := by decide +kernel
theorem dX9_account_10 : decode cX9_account 10 = .ok (.iconst 0, 1) := by decide +kernel
theorem dX9_account_11 : decode cX9_account 11 = .ok (.invokevirtual 38, 3) := by decide +kernel
theorem dX9_account_14 : decode cX9_account 14 = .ok (.invokestatic 98, 3) := by decide +kernel
theorem dX9_account_17 : decode cX9_account 17 = .ok (.iconst 1, 1) := by decide +kernel
theorem dX9_account_18 : decode cX9_account 18 = .ok (.invokevirtual 173, 3) := by decide +kernel
theorem dX9_account_21 : decode cX9_account 21 = .ok (.ifCond .eq 14, 3) := by decide +kernel
theorem dX9_account_24 : decode cX9_account 24 = .ok (.aload_n 0, 1) := by decide +kernel
theorem dX9_account_25 : decode cX9_account 25 = .ok (.bipush 8, 2) := by decide +kernel
theorem dX9_account_27 : decode cX9_account 27 = .ok (.iload_n 1, 1) := by decide +kernel
theorem dX9_account_28 : decode cX9_account 28 = .ok (.iadd, 1) := by decide +kernel
theorem dX9_account_29 : decode cX9_account 29 = .ok (.invokevirtual 38, 3) := by decide +kernel
theorem dX9_account_32 : decode cX9_account 32 = .ok (.goto 4, 3) := by decide +kernel
theorem dX9_account_35 : decode cX9_account 35 = .ok (.lconst 0, 1) := by decide +kernel
theorem dX9_account_36 : decode cX9_account 36 = .ok (.lreturn, 1) := by decide +kernel
theorem dX9_bill_0 : decode cX9_bill 0 = .ok (.sipush 320, 3) := by decide +kernel
theorem dX9_bill_3 : decode cX9_bill 3 = .ok (.iconst 5, 1) := by decide +kernel
theorem dX9_bill_4 : decode cX9_bill 4 = .ok (.iload_n 0, 1) := by decide +kernel
theorem dX9_bill_5 : decode cX9_bill 5 = .ok (.imul, 1) := by decide +kernel
theorem dX9_bill_6 : decode cX9_bill 6 = .ok (.iadd, 1) := by decide +kernel
theorem dX9_bill_7 : decode cX9_bill 7 = .ok (.ireturn, 1) := by decide +kernel
theorem dX9_openOf_0 : decode cX9_openOf 0 = .ok (.aload_n 0, 1) := by decide +kernel
theorem dX9_openOf_1 : decode cX9_openOf 1 = .ok (.iload_n 1, 1) := by decide +kernel
theorem dX9_openOf_2 : decode cX9_openOf 2 = .ok (.invokestatic 254, 3) := by decide +kernel
theorem dX9_openOf_5 : decode cX9_openOf 5 = .ok (.iconst 1, 1) := by decide +kernel
theorem dX9_openOf_6 : decode cX9_openOf 6 = .ok (.iadd, 1) := by decide +kernel
theorem dX9_openOf_7 : decode cX9_openOf 7 = .ok (.invokevirtual 38, 3) := by decide +kernel
theorem dX9_openOf_10 : decode cX9_openOf 10 = .ok (.aload_n 0, 1) := by decide +kernel
theorem dX9_openOf_11 : decode cX9_openOf 11 = .ok (.iload_n 1, 1) := by decide +kernel
theorem dX9_openOf_12 : decode cX9_openOf 12 = .ok (.invokestatic 254, 3) := by decide +kernel
theorem dX9_openOf_15 : decode cX9_openOf 15 = .ok (.iconst 2, 1) := by decide +kernel
theorem dX9_openOf_16 : decode cX9_openOf 16 = .ok (.iadd, 1) := by decide +kernel
theorem dX9_openOf_17 : decode cX9_openOf 17 = .ok (.invokevirtual 38, 3) := by decide +kernel
theorem dX9_openOf_20 : decode cX9_openOf 20 = .ok (.lsub, 1) := by decide +kernel
theorem dX9_openOf_21 : decode cX9_openOf 21 = .ok (.lreturn, 1) := by decide +kernel
theorem dX9_certifiedOf_0 : decode cX9_certifiedOf 0 = .ok (.lconst 0, 1) := by decide +kernel
theorem dX9_certifiedOf_1 : decode cX9_certifiedOf 1 = .ok (.lstore_n 2, 1) := by decide +kernel
theorem dX9_certifiedOf_2 : decode cX9_certifiedOf 2 = .ok (.iconst 0, 1) := by decide +kernel
theorem dX9_certifiedOf_3 : decode cX9_certifiedOf 3 = .ok (.istore 4, 2) := by decide +kernel
theorem dX9_certifiedOf_5 : decode cX9_certifiedOf 5 = .ok (.iload 4, 2) := by decide +kernel
theorem dX9_certifiedOf_7 : decode cX9_certifiedOf 7 = .ok (.i2l, 1) := by decide +kernel
theorem dX9_certifiedOf_8 : decode cX9_certifiedOf 8 = .ok (.aload_n 0, 1) := by decide +kernel
theorem dX9_certifiedOf_9 : decode cX9_certifiedOf 9 = .ok (.iconst 5, 1) := by decide +kernel
theorem dX9_certifiedOf_10 : decode cX9_certifiedOf 10 = .ok (.invokevirtual 38, 3) := by decide +kernel
theorem dX9_certifiedOf_13 : decode cX9_certifiedOf 13 = .ok (.lcmp, 1) := by decide +kernel
theorem dX9_certifiedOf_14 : decode cX9_certifiedOf 14 = .ok (.ifCond .ge 42, 3) := by decide +kernel
theorem dX9_certifiedOf_17 : decode cX9_certifiedOf 17 = .ok (.lload_n 2, 1) := by decide +kernel
theorem dX9_certifiedOf_18 : decode cX9_certifiedOf 18 = .ok (.aload_n 0, 1) := by decide +kernel
theorem dX9_certifiedOf_19 : decode cX9_certifiedOf 19 = .ok (.iload 4, 2) := by decide +kernel
theorem dX9_certifiedOf_21 : decode cX9_certifiedOf 21 = .ok (.invokestatic 254, 3) := by decide +kernel
theorem dX9_certifiedOf_24 : decode cX9_certifiedOf 24 = .ok (.invokevirtual 38, 3) := by decide +kernel
theorem dX9_certifiedOf_27 : decode cX9_certifiedOf 27 = .ok (.iload_n 1, 1) := by decide +kernel
theorem dX9_certifiedOf_28 : decode cX9_certifiedOf 28 = .ok (.i2l, 1) := by decide +kernel
theorem dX9_certifiedOf_29 : decode cX9_certifiedOf 29 = .ok (.lcmp, 1) := by decide +kernel
theorem dX9_certifiedOf_30 : decode cX9_certifiedOf 30 = .ok (.ifCond .ne 17, 3) := by decide +kernel
theorem dX9_certifiedOf_33 : decode cX9_certifiedOf 33 = .ok (.aload_n 0, 1) := by decide +kernel
theorem dX9_certifiedOf_34 : decode cX9_certifiedOf 34 = .ok (.iload 4, 2) := by decide +kernel
theorem dX9_certifiedOf_36 : decode cX9_certifiedOf 36 = .ok (.invokestatic 254, 3) := by decide +kernel
theorem dX9_certifiedOf_39 : decode cX9_certifiedOf 39 = .ok (.iconst 1, 1) := by decide +kernel
theorem dX9_certifiedOf_40 : decode cX9_certifiedOf 40 = .ok (.iadd, 1) := by decide +kernel
theorem dX9_certifiedOf_41 : decode cX9_certifiedOf 41 = .ok (.invokevirtual 38, 3) := by decide +kernel
theorem dX9_certifiedOf_44 : decode cX9_certifiedOf 44 = .ok (.goto 4, 3) := by decide +kernel
theorem dX9_certifiedOf_47 : decode cX9_certifiedOf 47 = .ok (.lconst 0, 1) := by decide +kernel
theorem dX9_certifiedOf_48 : decode cX9_certifiedOf 48 = .ok (.ladd, 1) := by decide +kernel
theorem dX9_certifiedOf_49 : decode cX9_certifiedOf 49 = .ok (.lstore_n 2, 1) := by decide +kernel
theorem dX9_certifiedOf_50 : decode cX9_certifiedOf 50 = .ok (.iinc 4 1, 3) := by decide +kernel
theorem dX9_certifiedOf_53 : decode cX9_certifiedOf 53 = .ok (.goto (-48), 3) := by decide +kernel
theorem dX9_certifiedOf_56 : decode cX9_certifiedOf 56 = .ok (.lload_n 2, 1) := by decide +kernel
theorem dX9_certifiedOf_57 : decode cX9_certifiedOf 57 = .ok (.lreturn, 1) := by decide +kernel
theorem dX9_openBefore_0 : decode cX9_openBefore 0 = .ok (.lconst 0, 1) := by decide +kernel
theorem dX9_openBefore_1 : decode cX9_openBefore 1 = .ok (.lstore 4, 2) := by decide +kernel
theorem dX9_openBefore_3 : decode cX9_openBefore 3 = .ok (.iconst 0, 1) := by decide +kernel
theorem dX9_openBefore_4 : decode cX9_openBefore 4 = .ok (.istore 6, 2) := by decide +kernel
theorem dX9_openBefore_6 : decode cX9_openBefore 6 = .ok (.iload 6, 2) := by decide +kernel
theorem dX9_openBefore_8 : decode cX9_openBefore 8 = .ok (.i2l, 1) := by decide +kernel
theorem dX9_openBefore_9 : decode cX9_openBefore 9 = .ok (.aload_n 0, 1) := by decide +kernel
theorem dX9_openBefore_10 : decode cX9_openBefore 10 = .ok (.iconst 5, 1) := by decide +kernel
theorem dX9_openBefore_11 : decode cX9_openBefore 11 = .ok (.invokevirtual 38, 3) := by decide +kernel
theorem dX9_openBefore_14 : decode cX9_openBefore 14 = .ok (.lcmp, 1) := by decide +kernel
theorem dX9_openBefore_15 : decode cX9_openBefore 15 = .ok (.ifCond .ge 55, 3) := by decide +kernel
theorem dX9_openBefore_18 : decode cX9_openBefore 18 = .ok (.lload 4, 2) := by decide +kernel
theorem dX9_openBefore_20 : decode cX9_openBefore 20 = .ok (.aload_n 0, 1) := by decide +kernel
theorem dX9_openBefore_21 : decode cX9_openBefore 21 = .ok (.iload 6, 2) := by decide +kernel
theorem dX9_openBefore_23 : decode cX9_openBefore 23 = .ok (.invokestatic 254, 3) := by decide +kernel
theorem dX9_openBefore_26 : decode cX9_openBefore 26 = .ok (.invokevirtual 38, 3) := by decide +kernel
theorem dX9_openBefore_29 : decode cX9_openBefore 29 = .ok (.iload_n 1, 1) := by decide +kernel
theorem dX9_openBefore_30 : decode cX9_openBefore 30 = .ok (.i2l, 1) := by decide +kernel
theorem dX9_openBefore_31 : decode cX9_openBefore 31 = .ok (.lcmp, 1) := by decide +kernel
theorem dX9_openBefore_32 : decode cX9_openBefore 32 = .ok (.ifCond .ne 28, 3) := by decide +kernel
theorem dX9_openBefore_35 : decode cX9_openBefore 35 = .ok (.aload_n 0, 1) := by decide +kernel
theorem dX9_openBefore_36 : decode cX9_openBefore 36 = .ok (.iload 6, 2) := by decide +kernel
theorem dX9_openBefore_38 : decode cX9_openBefore 38 = .ok (.invokestatic 254, 3) := by decide +kernel
theorem dX9_openBefore_41 : decode cX9_openBefore 41 = .ok (.iconst 4, 1) := by decide +kernel
theorem dX9_openBefore_42 : decode cX9_openBefore 42 = .ok (.iadd, 1) := by decide +kernel
theorem dX9_openBefore_43 : decode cX9_openBefore 43 = .ok (.invokevirtual 38, 3) := by decide +kernel
theorem dX9_openBefore_46 : decode cX9_openBefore 46 = .ok (.lload_n 2, 1) := by decide +kernel
theorem dX9_openBefore_47 : decode cX9_openBefore 47 = .ok (.lcmp, 1) := by decide +kernel
theorem dX9_openBefore_48 : decode cX9_openBefore 48 = .ok (.ifCond .ge 12, 3) := by decide +kernel
theorem dX9_openBefore_51 : decode cX9_openBefore 51 = .ok (.aload_n 0, 1) := by decide +kernel
theorem dX9_openBefore_52 : decode cX9_openBefore 52 = .ok (.iload 6, 2) := by decide +kernel
theorem dX9_openBefore_54 : decode cX9_openBefore 54 = .ok (.invokevirtual 257, 3) := by decide +kernel
theorem dX9_openBefore_57 : decode cX9_openBefore 57 = .ok (.goto 4, 3) := by decide +kernel
theorem dX9_openBefore_60 : decode cX9_openBefore 60 = .ok (.lconst 0, 1) := by decide +kernel
theorem dX9_openBefore_61 : decode cX9_openBefore 61 = .ok (.ladd, 1) := by decide +kernel
theorem dX9_openBefore_62 : decode cX9_openBefore 62 = .ok (.lstore 4, 2) := by decide +kernel
theorem dX9_openBefore_64 : decode cX9_openBefore 64 = .ok (.iinc 6 1, 3) := by decide +kernel
theorem dX9_openBefore_67 : decode cX9_openBefore 67 = .ok (.goto (-61), 3) := by decide +kernel
theorem dX9_openBefore_70 : decode cX9_openBefore 70 = .ok (.lload 4, 2) := by decide +kernel
theorem dX9_openBefore_72 : decode cX9_openBefore 72 = .ok (.lreturn, 1) := by decide +kernel
theorem dX9_unpaidOf_0 : decode cX9_unpaidOf 0 = .ok (.aload_n 0, 1) := by decide +kernel
theorem dX9_unpaidOf_1 : decode cX9_unpaidOf 1 = .ok (.iload_n 1, 1) := by decide +kernel
theorem dX9_unpaidOf_2 : decode cX9_unpaidOf 2 = .ok (.ldc2_w 193, 3) := by decide +kernel
theorem dX9_unpaidOf_5 : decode cX9_unpaidOf 5 = .ok (.invokevirtual 260, 3) := by decide +kernel
theorem dX9_unpaidOf_8 : decode cX9_unpaidOf 8 = .ok (.lreturn, 1) := by decide +kernel
theorem dX9_certified_0 : decode cX9_certified 0 = .ok (.aload_n 0, 1) := by decide +kernel
theorem dX9_certified_1 : decode cX9_certified 1 = .ok (.iload_n 1, 1) := by decide +kernel
theorem dX9_certified_2 : decode cX9_certified 2 = .ok (.invokevirtual 230, 3) := by decide +kernel
theorem dX9_certified_5 : decode cX9_certified 5 = .ok (.ifCond .eq 11, 3) := by decide +kernel
theorem dX9_certified_8 : decode cX9_certified 8 = .ok (.aload_n 0, 1) := by decide +kernel
theorem dX9_certified_9 : decode cX9_certified 9 = .ok (.iload_n 1, 1) := by decide +kernel
theorem dX9_certified_10 : decode cX9_certified 10 = .ok (.invokevirtual 264, 3) := by decide +kernel
theorem dX9_certified_13 : decode cX9_certified 13 = .ok (.goto 4, 3) := by decide +kernel
theorem dX9_certified_16 : decode cX9_certified 16 = .ok (.lconst 0, 1) := by decide +kernel
theorem dX9_certified_17 : decode cX9_certified 17 = .ok (.lreturn, 1) := by decide +kernel
theorem dX9_unpaid_0 : decode cX9_unpaid 0 = .ok (.aload_n 0, 1) := by decide +kernel
theorem dX9_unpaid_1 : decode cX9_unpaid 1 = .ok (.iload_n 1, 1) := by decide +kernel
theorem dX9_unpaid_2 : decode cX9_unpaid 2 = .ok (.invokevirtual 230, 3) := by decide +kernel
theorem dX9_unpaid_5 : decode cX9_unpaid 5 = .ok (.ifCond .eq 11, 3) := by decide +kernel
theorem dX9_unpaid_8 : decode cX9_unpaid 8 = .ok (.aload_n 0, 1) := by decide +kernel
theorem dX9_unpaid_9 : decode cX9_unpaid 9 = .ok (.iload_n 1, 1) := by decide +kernel
theorem dX9_unpaid_10 : decode cX9_unpaid 10 = .ok (.invokevirtual 267, 3) := by decide +kernel
theorem dX9_unpaid_13 : decode cX9_unpaid 13 = .ok (.goto 4, 3) := by decide +kernel
theorem dX9_unpaid_16 : decode cX9_unpaid 16 = .ok (.lconst 0, 1) := by decide +kernel
theorem dX9_unpaid_17 : decode cX9_unpaid 17 = .ok (.lreturn, 1) := by decide +kernel
theorem dX9_overdue_0 : decode cX9_overdue 0 = .ok (.aload_n 0, 1) := by decide +kernel
theorem dX9_overdue_1 : decode cX9_overdue 1 = .ok (.iload_n 1, 1) := by decide +kernel
theorem dX9_overdue_2 : decode cX9_overdue 2 = .ok (.invokevirtual 230, 3) := by decide +kernel
theorem dX9_overdue_5 : decode cX9_overdue 5 = .ok (.ifCond .eq 16, 3) := by decide +kernel
theorem dX9_overdue_8 : decode cX9_overdue 8 = .ok (.aload_n 0, 1) := by decide +kernel
theorem dX9_overdue_9 : decode cX9_overdue 9 = .ok (.iload_n 1, 1) := by decide +kernel
theorem dX9_overdue_10 : decode cX9_overdue 10 = .ok (.aload_n 0, 1) := by decide +kernel
theorem dX9_overdue_11 : decode cX9_overdue 11 = .ok (.iconst 1, 1) := by decide +kernel
theorem dX9_overdue_12 : decode cX9_overdue 12 = .ok (.invokevirtual 38, 3) := by decide +kernel
theorem dX9_overdue_15 : decode cX9_overdue 15 = .ok (.invokevirtual 260, 3) := by decide +kernel
theorem dX9_overdue_18 : decode cX9_overdue 18 = .ok (.goto 4, 3) := by decide +kernel
theorem dX9_overdue_21 : decode cX9_overdue 21 = .ok (.lconst 0, 1) := by decide +kernel
theorem dX9_overdue_22 : decode cX9_overdue 22 = .ok (.lreturn, 1) := by decide +kernel
theorem dX9_certificateCount_0 : decode cX9_certificateCount 0 = .ok (.aload_n 0, 1) := by decide +kernel
theorem dX9_certificateCount_1 : decode cX9_certificateCount 1 = .ok (.iconst 0, 1) := by decide +kernel
theorem dX9_certificateCount_2 : decode cX9_certificateCount 2 = .ok (.putfield 32, 3) := by decide +kernel
theorem dX9_certificateCount_5 : decode cX9_certificateCount 5 = .ok (.aload_n 0, 1) := by decide +kernel
theorem dX9_certificateCount_6 : decode cX9_certificateCount 6 = .ok (.iconst 5, 1) := by decide +kernel
theorem dX9_certificateCount_7 : decode cX9_certificateCount 7 = .ok (.invokevirtual 187, 3) := by decide +kernel
theorem dX9_certificateCount_10 : decode cX9_certificateCount 10 = .ok (.ireturn, 1) := by decide +kernel
theorem dX9_isBill_0 : decode cX9_isBill 0 = .ok (.aload_n 0, 1) := by decide +kernel
theorem dX9_isBill_1 : decode cX9_isBill 1 = .ok (.iconst 0, 1) := by decide +kernel
theorem dX9_isBill_2 : decode cX9_isBill 2 = .ok (.putfield 32, 3) := by decide +kernel
theorem dX9_isBill_5 : decode cX9_isBill 5 = .ok (.aload_n 0, 1) := by decide +kernel
theorem dX9_isBill_6 : decode cX9_isBill 6 = .ok (.iload_n 1, 1) := by decide +kernel
theorem dX9_isBill_7 : decode cX9_isBill 7 = .ok (.i2l, 1) := by decide +kernel
theorem dX9_isBill_8 : decode cX9_isBill 8 = .ok (.lconst 0, 1) := by decide +kernel
theorem dX9_isBill_9 : decode cX9_isBill 9 = .ok (.aload_n 0, 1) := by decide +kernel
theorem dX9_isBill_10 : decode cX9_isBill 10 = .ok (.iconst 5, 1) := by decide +kernel
theorem dX9_isBill_11 : decode cX9_isBill 11 = .ok (.invokevirtual 38, 3) := by decide +kernel
theorem dX9_isBill_14 : decode cX9_isBill 14 = .ok (.lconst 1, 1) := by decide +kernel
theorem dX9_isBill_15 : decode cX9_isBill 15 = .ok (.lsub, 1) := by decide +kernel
theorem dX9_isBill_16 : decode cX9_isBill 16 = .ok (.invokestatic 98, 3) := by decide +kernel
theorem dX9_isBill_19 : decode cX9_isBill 19 = .ok (.iconst 1, 1) := by decide +kernel
theorem dX9_isBill_20 : decode cX9_isBill 20 = .ok (.invokevirtual 173, 3) := by decide +kernel
theorem dX9_isBill_23 : decode cX9_isBill 23 = .ok (.ireturn, 1) := by decide +kernel
theorem dX9_certificateContract_0 : decode cX9_certificateContract 0 = .ok (.aload_n 0, 1) := by decide +kernel
theorem dX9_certificateContract_1 : decode cX9_certificateContract 1 = .ok (.iload_n 1, 1) := by decide +kernel
theorem dX9_certificateContract_2 : decode cX9_certificateContract 2 = .ok (.invokevirtual 270, 3) := by decide +kernel
theorem dX9_certificateContract_5 : decode cX9_certificateContract 5 = .ok (.ifCond .eq 14, 3) := by decide +kernel
theorem dX9_certificateContract_8 : decode cX9_certificateContract 8 = .ok (.aload_n 0, 1) := by decide +kernel
theorem dX9_certificateContract_9 : decode cX9_certificateContract 9 = .ok (.iload_n 1, 1) := by decide +kernel
theorem dX9_certificateContract_10 : decode cX9_certificateContract 10 = .ok (.invokestatic 254, 3) := by decide +kernel
theorem dX9_certificateContract_13 : decode cX9_certificateContract 13 = .ok (.invokevirtual 187, 3) := by decide +kernel
theorem dX9_certificateContract_16 : decode cX9_certificateContract 16 = .ok (.goto 4, 3) := by decide +kernel
theorem dX9_certificateContract_19 : decode cX9_certificateContract 19 = .ok (.iconst 0, 1) := by decide +kernel
theorem dX9_certificateContract_20 : decode cX9_certificateContract 20 = .ok (.ireturn, 1) := by decide +kernel
theorem dX9_amount_0 : decode cX9_amount 0 = .ok (.aload_n 0, 1) := by decide +kernel
theorem dX9_amount_1 : decode cX9_amount 1 = .ok (.iload_n 1, 1) := by decide +kernel
theorem dX9_amount_2 : decode cX9_amount 2 = .ok (.invokevirtual 270, 3) := by decide +kernel
theorem dX9_amount_5 : decode cX9_amount 5 = .ok (.ifCond .eq 16, 3) := by decide +kernel
theorem dX9_amount_8 : decode cX9_amount 8 = .ok (.aload_n 0, 1) := by decide +kernel
theorem dX9_amount_9 : decode cX9_amount 9 = .ok (.iload_n 1, 1) := by decide +kernel
theorem dX9_amount_10 : decode cX9_amount 10 = .ok (.invokestatic 254, 3) := by decide +kernel
theorem dX9_amount_13 : decode cX9_amount 13 = .ok (.iconst 1, 1) := by decide +kernel
theorem dX9_amount_14 : decode cX9_amount 14 = .ok (.iadd, 1) := by decide +kernel
theorem dX9_amount_15 : decode cX9_amount 15 = .ok (.invokevirtual 38, 3) := by decide +kernel
theorem dX9_amount_18 : decode cX9_amount 18 = .ok (.goto 4, 3) := by decide +kernel
theorem dX9_amount_21 : decode cX9_amount 21 = .ok (.lconst 0, 1) := by decide +kernel
theorem dX9_amount_22 : decode cX9_amount 22 = .ok (.lreturn, 1) := by decide +kernel
theorem dX9_openAmount_0 : decode cX9_openAmount 0 = .ok (.aload_n 0, 1) := by decide +kernel
theorem dX9_openAmount_1 : decode cX9_openAmount 1 = .ok (.iload_n 1, 1) := by decide +kernel
theorem dX9_openAmount_2 : decode cX9_openAmount 2 = .ok (.invokevirtual 270, 3) := by decide +kernel
theorem dX9_openAmount_5 : decode cX9_openAmount 5 = .ok (.ifCond .eq 11, 3) := by decide +kernel
theorem dX9_openAmount_8 : decode cX9_openAmount 8 = .ok (.aload_n 0, 1) := by decide +kernel
theorem dX9_openAmount_9 : decode cX9_openAmount 9 = .ok (.iload_n 1, 1) := by decide +kernel
theorem dX9_openAmount_10 : decode cX9_openAmount 10 = .ok (.invokevirtual 257, 3) := by decide +kernel
theorem dX9_openAmount_13 : decode cX9_openAmount 13 = .ok (.goto 4, 3) := by decide +kernel
theorem dX9_openAmount_16 : decode cX9_openAmount 16 = .ok (.lconst 0, 1) := by decide +kernel
theorem dX9_openAmount_17 : decode cX9_openAmount 17 = .ok (.lreturn, 1) := by decide +kernel
theorem dX9_dueDay_0 : decode cX9_dueDay 0 = .ok (.aload_n 0, 1) := by decide +kernel
theorem dX9_dueDay_1 : decode cX9_dueDay 1 = .ok (.iload_n 1, 1) := by decide +kernel
theorem dX9_dueDay_2 : decode cX9_dueDay 2 = .ok (.invokevirtual 270, 3) := by decide +kernel
theorem dX9_dueDay_5 : decode cX9_dueDay 5 = .ok (.ifCond .eq 16, 3) := by decide +kernel
theorem dX9_dueDay_8 : decode cX9_dueDay 8 = .ok (.aload_n 0, 1) := by decide +kernel
theorem dX9_dueDay_9 : decode cX9_dueDay 9 = .ok (.iload_n 1, 1) := by decide +kernel
theorem dX9_dueDay_10 : decode cX9_dueDay 10 = .ok (.invokestatic 254, 3) := by decide +kernel
theorem dX9_dueDay_13 : decode cX9_dueDay 13 = .ok (.iconst 4, 1) := by decide +kernel
theorem dX9_dueDay_14 : decode cX9_dueDay 14 = .ok (.iadd, 1) := by decide +kernel
theorem dX9_dueDay_15 : decode cX9_dueDay 15 = .ok (.invokevirtual 187, 3) := by decide +kernel
theorem dX9_dueDay_18 : decode cX9_dueDay 18 = .ok (.goto 4, 3) := by decide +kernel
theorem dX9_dueDay_21 : decode cX9_dueDay 21 = .ok (.iconst 0, 1) := by decide +kernel
theorem dX9_dueDay_22 : decode cX9_dueDay 22 = .ok (.ireturn, 1) := by decide +kernel
theorem dX9_isHeld_0 : decode cX9_isHeld 0 = .ok (.aload_n 0, 1) := by decide +kernel
theorem dX9_isHeld_1 : decode cX9_isHeld 1 = .ok (.iload_n 1, 1) := by decide +kernel
theorem dX9_isHeld_2 : decode cX9_isHeld 2 = .ok (.invokestatic 254, 3) := by decide +kernel
theorem dX9_isHeld_5 : decode cX9_isHeld 5 = .ok (.invokevirtual 187, 3) := by decide +kernel
theorem dX9_isHeld_8 : decode cX9_isHeld 8 = .ok (.istore_n 2, 1) := by decide +kernel
theorem dX9_isHeld_9 : decode cX9_isHeld 9 = .ok (.aload_n 0, 1) := by decide +kernel
theorem dX9_isHeld_10 : decode cX9_isHeld 10 = .ok (.aload_n 0, 1) := by decide +kernel
theorem dX9_isHeld_11 : decode cX9_isHeld 11 = .ok (.iload_n 2, 1) := by decide +kernel
theorem dX9_isHeld_12 : decode cX9_isHeld 12 = .ok (.invokevirtual 201, 3) := by decide +kernel
theorem dX9_isHeld_15 : decode cX9_isHeld 15 = .ok (.iconst 5, 1) := by decide +kernel
theorem dX9_isHeld_16 : decode cX9_isHeld 16 = .ok (.iadd, 1) := by decide +kernel
theorem dX9_isHeld_17 : decode cX9_isHeld 17 = .ok (.invokevirtual 38, 3) := by decide +kernel
theorem dX9_isHeld_20 : decode cX9_isHeld 20 = .ok (.lconst 0, 1) := by decide +kernel
theorem dX9_isHeld_21 : decode cX9_isHeld 21 = .ok (.lcmp, 1) := by decide +kernel
theorem dX9_isHeld_22 : decode cX9_isHeld 22 = .ok (.ifCond .ne 5, 3) := by decide +kernel
theorem dX9_isHeld_25 : decode cX9_isHeld 25 = .ok (.iconst 0, 1) := by decide +kernel
theorem dX9_isHeld_26 : decode cX9_isHeld 26 = .ok (.ireturn, 1) := by decide +kernel
theorem dX9_isHeld_27 : decode cX9_isHeld 27 = .ok (.iconst 0, 1) := by decide +kernel
theorem dX9_isHeld_28 : decode cX9_isHeld 28 = .ok (.istore_n 3, 1) := by decide +kernel
theorem dX9_isHeld_29 : decode cX9_isHeld 29 = .ok (.iload_n 3, 1) := by decide +kernel
theorem dX9_isHeld_30 : decode cX9_isHeld 30 = .ok (.i2l, 1) := by decide +kernel
theorem dX9_isHeld_31 : decode cX9_isHeld 31 = .ok (.aload_n 0, 1) := by decide +kernel
theorem dX9_isHeld_32 : decode cX9_isHeld 32 = .ok (.iconst 5, 1) := by decide +kernel
theorem dX9_isHeld_33 : decode cX9_isHeld 33 = .ok (.invokevirtual 38, 3) := by decide +kernel
theorem dX9_isHeld_36 : decode cX9_isHeld 36 = .ok (.lcmp, 1) := by decide +kernel
theorem dX9_isHeld_37 : decode cX9_isHeld 37 = .ok (.ifCond .ge 68, 3) := by decide +kernel
theorem dX9_isHeld_40 : decode cX9_isHeld 40 = .ok (.aload_n 0, 1) := by decide +kernel
theorem dX9_isHeld_41 : decode cX9_isHeld 41 = .ok (.iload_n 3, 1) := by decide +kernel
theorem dX9_isHeld_42 : decode cX9_isHeld 42 = .ok (.invokestatic 254, 3) := by decide +kernel
theorem dX9_isHeld_45 : decode cX9_isHeld 45 = .ok (.invokevirtual 38, 3) := by decide +kernel
theorem dX9_isHeld_48 : decode cX9_isHeld 48 = .ok (.aload_n 0, 1) := by decide +kernel
theorem dX9_isHeld_49 : decode cX9_isHeld 49 = .ok (.aload_n 0, 1) := by decide +kernel
theorem dX9_isHeld_50 : decode cX9_isHeld 50 = .ok (.iload_n 2, 1) := by decide +kernel
theorem dX9_isHeld_51 : decode cX9_isHeld 51 = .ok (.invokevirtual 201, 3) := by decide +kernel
theorem dX9_isHeld_54 : decode cX9_isHeld 54 = .ok (.iconst 0, 1) := by decide +kernel
theorem dX9_isHeld_55 : decode cX9_isHeld 55 = .ok (.iadd, 1) := by decide +kernel
theorem dX9_isHeld_56 : decode cX9_isHeld 56 = .ok (.invokevirtual 38, 3) := by decide +kernel
theorem dX9_isHeld_59 : decode cX9_isHeld 59 = .ok (.lcmp, 1) := by decide +kernel
theorem dX9_isHeld_60 : decode cX9_isHeld 60 = .ok (.ifCond .ne 39, 3) := by decide +kernel
theorem dX9_isHeld_63 : decode cX9_isHeld 63 = .ok (.aload_n 0, 1) := by decide +kernel
theorem dX9_isHeld_64 : decode cX9_isHeld 64 = .ok (.iload_n 3, 1) := by decide +kernel
theorem dX9_isHeld_65 : decode cX9_isHeld 65 = .ok (.invokevirtual 257, 3) := by decide +kernel
theorem dX9_isHeld_68 : decode cX9_isHeld 68 = .ok (.lconst 0, 1) := by decide +kernel
theorem dX9_isHeld_69 : decode cX9_isHeld 69 = .ok (.lcmp, 1) := by decide +kernel
theorem dX9_isHeld_70 : decode cX9_isHeld 70 = .ok (.ifCond .le 29, 3) := by decide +kernel
theorem dX9_isHeld_73 : decode cX9_isHeld 73 = .ok (.aload_n 0, 1) := by decide +kernel
theorem dX9_isHeld_74 : decode cX9_isHeld 74 = .ok (.iload_n 3, 1) := by decide +kernel
theorem dX9_isHeld_75 : decode cX9_isHeld 75 = .ok (.invokestatic 254, 3) := by decide +kernel
theorem dX9_isHeld_78 : decode cX9_isHeld 78 = .ok (.iconst 3, 1) := by decide +kernel
theorem dX9_isHeld_79 : decode cX9_isHeld 79 = .ok (.iadd, 1) := by decide +kernel
theorem dX9_isHeld_80 : decode cX9_isHeld 80 = .ok (.invokevirtual 38, 3) := by decide +kernel
theorem dX9_isHeld_83 : decode cX9_isHeld 83 = .ok (.aload_n 0, 1) := by decide +kernel
theorem dX9_isHeld_84 : decode cX9_isHeld 84 = .ok (.iload_n 1, 1) := by decide +kernel
theorem dX9_isHeld_85 : decode cX9_isHeld 85 = .ok (.invokestatic 254, 3) := by decide +kernel
theorem dX9_isHeld_88 : decode cX9_isHeld 88 = .ok (.iconst 3, 1) := by decide +kernel
theorem dX9_isHeld_89 : decode cX9_isHeld 89 = .ok (.iadd, 1) := by decide +kernel
theorem dX9_isHeld_90 : decode cX9_isHeld 90 = .ok (.invokevirtual 38, 3) := by decide +kernel
theorem dX9_isHeld_93 : decode cX9_isHeld 93 = .ok (.lcmp, 1) := by decide +kernel
theorem dX9_isHeld_94 : decode cX9_isHeld 94 = .ok (.ifCond .gt 5, 3) := by decide +kernel
theorem dX9_isHeld_97 : decode cX9_isHeld 97 = .ok (.iconst 1, 1) := by decide +kernel
theorem dX9_isHeld_98 : decode cX9_isHeld 98 = .ok (.ireturn, 1) := by decide +kernel
theorem dX9_isHeld_99 : decode cX9_isHeld 99 = .ok (.iinc 3 1, 3) := by decide +kernel
theorem dX9_isHeld_102 : decode cX9_isHeld 102 = .ok (.goto (-73), 3) := by decide +kernel
theorem dX9_isHeld_105 : decode cX9_isHeld 105 = .ok (.iconst 0, 1) := by decide +kernel
theorem dX9_isHeld_106 : decode cX9_isHeld 106 = .ok (.ireturn, 1) := by decide +kernel
theorem dX9_isBlocked_0 : decode cX9_isBlocked 0 = .ok (.aload_n 0, 1) := by decide +kernel
theorem dX9_isBlocked_1 : decode cX9_isBlocked 1 = .ok (.iload_n 1, 1) := by decide +kernel
theorem dX9_isBlocked_2 : decode cX9_isBlocked 2 = .ok (.invokevirtual 270, 3) := by decide +kernel
theorem dX9_isBlocked_5 : decode cX9_isBlocked 5 = .ok (.ifCond .eq 15, 3) := by decide +kernel
theorem dX9_isBlocked_8 : decode cX9_isBlocked 8 = .ok (.aload_n 0, 1) := by decide +kernel
theorem dX9_isBlocked_9 : decode cX9_isBlocked 9 = .ok (.iload_n 1, 1) := by decide +kernel
theorem dX9_isBlocked_10 : decode cX9_isBlocked 10 = .ok (.invokevirtual 273, 3) := by decide +kernel
theorem dX9_isBlocked_13 : decode cX9_isBlocked 13 = .ok (.ifCond .eq 7, 3) := by decide +kernel
theorem dX9_isBlocked_16 : decode cX9_isBlocked 16 = .ok (.iconst 1, 1) := by decide +kernel
theorem dX9_isBlocked_17 : decode cX9_isBlocked 17 = .ok (.goto 4, 3) := by decide +kernel
theorem dX9_isBlocked_20 : decode cX9_isBlocked 20 = .ok (.iconst 0, 1) := by decide +kernel
theorem dX9_isBlocked_21 : decode cX9_isBlocked 21 = .ok (.ireturn, 1) := by decide +kernel
theorem dX9_dueBetween_0 : decode cX9_dueBetween 0 = .ok (.aload_n 0, 1) := by decide +kernel
theorem dX9_dueBetween_1 : decode cX9_dueBetween 1 = .ok (.iconst 0, 1) := by decide +kernel
theorem dX9_dueBetween_2 : decode cX9_dueBetween 2 = .ok (.putfield 32, 3) := by decide +kernel
theorem dX9_dueBetween_5 : decode cX9_dueBetween 5 = .ok (.lconst 0, 1) := by decide +kernel
theorem dX9_dueBetween_6 : decode cX9_dueBetween 6 = .ok (.lstore_n 3, 1) := by decide +kernel
theorem dX9_dueBetween_7 : decode cX9_dueBetween 7 = .ok (.iconst 0, 1) := by decide +kernel
theorem dX9_dueBetween_8 : decode cX9_dueBetween 8 = .ok (.istore 5, 2) := by decide +kernel
theorem dX9_dueBetween_10 : decode cX9_dueBetween 10 = .ok (.iload 5, 2) := by decide +kernel
theorem dX9_dueBetween_12 : decode cX9_dueBetween 12 = .ok (.i2l, 1) := by decide +kernel
theorem dX9_dueBetween_13 : decode cX9_dueBetween 13 = .ok (.aload_n 0, 1) := by decide +kernel
theorem dX9_dueBetween_14 : decode cX9_dueBetween 14 = .ok (.iconst 5, 1) := by decide +kernel
theorem dX9_dueBetween_15 : decode cX9_dueBetween 15 = .ok (.invokevirtual 38, 3) := by decide +kernel
theorem dX9_dueBetween_18 : decode cX9_dueBetween 18 = .ok (.lcmp, 1) := by decide +kernel
theorem dX9_dueBetween_19 : decode cX9_dueBetween 19 = .ok (.ifCond .ge 43, 3) := by decide +kernel
theorem dX9_dueBetween_22 : decode cX9_dueBetween 22 = .ok (.lload_n 3, 1) := by decide +kernel
theorem dX9_dueBetween_23 : decode cX9_dueBetween 23 = .ok (.aload_n 0, 1) := by decide +kernel
theorem dX9_dueBetween_24 : decode cX9_dueBetween 24 = .ok (.iload 5, 2) := by decide +kernel
theorem dX9_dueBetween_26 : decode cX9_dueBetween 26 = .ok (.invokestatic 254, 3) := by decide +kernel
theorem dX9_dueBetween_29 : decode cX9_dueBetween 29 = .ok (.iconst 4, 1) := by decide +kernel
theorem dX9_dueBetween_30 : decode cX9_dueBetween 30 = .ok (.iadd, 1) := by decide +kernel
theorem dX9_dueBetween_31 : decode cX9_dueBetween 31 = .ok (.invokevirtual 38, 3) := by decide +kernel
theorem dX9_dueBetween_34 : decode cX9_dueBetween 34 = .ok (.iload_n 1, 1) := by decide +kernel
theorem dX9_dueBetween_35 : decode cX9_dueBetween 35 = .ok (.i2l, 1) := by decide +kernel
theorem dX9_dueBetween_36 : decode cX9_dueBetween 36 = .ok (.iload_n 2, 1) := by decide +kernel
theorem dX9_dueBetween_37 : decode cX9_dueBetween 37 = .ok (.i2l, 1) := by decide +kernel
theorem dX9_dueBetween_38 : decode cX9_dueBetween 38 = .ok (.invokestatic 98, 3) := by decide +kernel
theorem dX9_dueBetween_41 : decode cX9_dueBetween 41 = .ok (.ifCond .eq 12, 3) := by decide +kernel
theorem dX9_dueBetween_44 : decode cX9_dueBetween 44 = .ok (.aload_n 0, 1) := by decide +kernel
theorem dX9_dueBetween_45 : decode cX9_dueBetween 45 = .ok (.iload 5, 2) := by decide +kernel
theorem dX9_dueBetween_47 : decode cX9_dueBetween 47 = .ok (.invokevirtual 257, 3) := by decide +kernel
theorem dX9_dueBetween_50 : decode cX9_dueBetween 50 = .ok (.goto 4, 3) := by decide +kernel
theorem dX9_dueBetween_53 : decode cX9_dueBetween 53 = .ok (.lconst 0, 1) := by decide +kernel
theorem dX9_dueBetween_54 : decode cX9_dueBetween 54 = .ok (.ladd, 1) := by decide +kernel
theorem dX9_dueBetween_55 : decode cX9_dueBetween 55 = .ok (.lstore_n 3, 1) := by decide +kernel
theorem dX9_dueBetween_56 : decode cX9_dueBetween 56 = .ok (.iinc 5 1, 3) := by decide +kernel
theorem dX9_dueBetween_59 : decode cX9_dueBetween 59 = .ok (.goto (-49), 3) := by decide +kernel
theorem dX9_dueBetween_62 : decode cX9_dueBetween 62 = .ok (.lload_n 3, 1) := by decide +kernel
theorem dX9_dueBetween_63 : decode cX9_dueBetween 63 = .ok (.lreturn, 1) := by decide +kernel
theorem dX9_payerOf_0 : decode cX9_payerOf 0 = .ok (.bipush 9, 2) := by decide +kernel
theorem dX9_payerOf_2 : decode cX9_payerOf 2 = .ok (.aload_n 0, 1) := by decide +kernel
theorem dX9_payerOf_3 : decode cX9_payerOf 3 = .ok (.aload_n 0, 1) := by decide +kernel
theorem dX9_payerOf_4 : decode cX9_payerOf 4 = .ok (.aload_n 0, 1) := by decide +kernel
theorem dX9_payerOf_5 : decode cX9_payerOf 5 = .ok (.iload_n 1, 1) := by decide +kernel
theorem dX9_payerOf_6 : decode cX9_payerOf 6 = .ok (.invokestatic 254, 3) := by decide +kernel
theorem dX9_payerOf_9 : decode cX9_payerOf 9 = .ok (.invokevirtual 187, 3) := by decide +kernel
theorem dX9_payerOf_12 : decode cX9_payerOf 12 = .ok (.invokevirtual 201, 3) := by decide +kernel
theorem dX9_payerOf_15 : decode cX9_payerOf 15 = .ok (.iconst 0, 1) := by decide +kernel
theorem dX9_payerOf_16 : decode cX9_payerOf 16 = .ok (.iadd, 1) := by decide +kernel
theorem dX9_payerOf_17 : decode cX9_payerOf 17 = .ok (.invokevirtual 187, 3) := by decide +kernel
theorem dX9_payerOf_20 : decode cX9_payerOf 20 = .ok (.iadd, 1) := by decide +kernel
theorem dX9_payerOf_21 : decode cX9_payerOf 21 = .ok (.ireturn, 1) := by decide +kernel
theorem dX9_pays_0 : decode cX9_pays 0 = .ok (.aload_n 0, 1) := by decide +kernel
theorem dX9_pays_1 : decode cX9_pays 1 = .ok (.iload_n 1, 1) := by decide +kernel
theorem dX9_pays_2 : decode cX9_pays 2 = .ok (.invokevirtual 276, 3) := by decide +kernel
theorem dX9_pays_5 : decode cX9_pays 5 = .ok (.istore 4, 2) := by decide +kernel
theorem dX9_pays_7 : decode cX9_pays 7 = .ok (.bipush 9, 2) := by decide +kernel
theorem dX9_pays_9 : decode cX9_pays 9 = .ok (.aload_n 0, 1) := by decide +kernel
theorem dX9_pays_10 : decode cX9_pays 10 = .ok (.iload_n 1, 1) := by decide +kernel
theorem dX9_pays_11 : decode cX9_pays 11 = .ok (.invokestatic 254, 3) := by decide +kernel
theorem dX9_pays_14 : decode cX9_pays 14 = .ok (.invokevirtual 187, 3) := by decide +kernel
theorem dX9_pays_17 : decode cX9_pays 17 = .ok (.iadd, 1) := by decide +kernel
theorem dX9_pays_18 : decode cX9_pays 18 = .ok (.istore 5, 2) := by decide +kernel
theorem dX9_pays_20 : decode cX9_pays 20 = .ok (.aload_n 0, 1) := by decide +kernel
theorem dX9_pays_21 : decode cX9_pays 21 = .ok (.iload 4, 2) := by decide +kernel
theorem dX9_pays_23 : decode cX9_pays 23 = .ok (.aload_n 0, 1) := by decide +kernel
theorem dX9_pays_24 : decode cX9_pays 24 = .ok (.iload 4, 2) := by decide +kernel
theorem dX9_pays_26 : decode cX9_pays 26 = .ok (.invokevirtual 38, 3) := by decide +kernel
theorem dX9_pays_29 : decode cX9_pays 29 = .ok (.lload_n 2, 1) := by decide +kernel
theorem dX9_pays_30 : decode cX9_pays 30 = .ok (.lsub, 1) := by decide +kernel
theorem dX9_pays_31 : decode cX9_pays 31 = .ok (.invokevirtual 183, 3) := by decide +kernel
theorem dX9_pays_34 : decode cX9_pays 34 = .ok (.aload_n 0, 1) := by decide +kernel
theorem dX9_pays_35 : decode cX9_pays 35 = .ok (.iload 5, 2) := by decide +kernel
theorem dX9_pays_37 : decode cX9_pays 37 = .ok (.aload_n 0, 1) := by decide +kernel
theorem dX9_pays_38 : decode cX9_pays 38 = .ok (.iload 5, 2) := by decide +kernel
theorem dX9_pays_40 : decode cX9_pays 40 = .ok (.invokevirtual 38, 3) := by decide +kernel
theorem dX9_pays_43 : decode cX9_pays 43 = .ok (.lload_n 2, 1) := by decide +kernel
theorem dX9_pays_44 : decode cX9_pays 44 = .ok (.ladd, 1) := by decide +kernel
theorem dX9_pays_45 : decode cX9_pays 45 = .ok (.invokevirtual 183, 3) := by decide +kernel
theorem dX9_pays_48 : decode cX9_pays 48 = .ok (.aload_n 0, 1) := by decide +kernel
theorem dX9_pays_49 : decode cX9_pays 49 = .ok (.iload_n 1, 1) := by decide +kernel
theorem dX9_pays_50 : decode cX9_pays 50 = .ok (.invokestatic 254, 3) := by decide +kernel
theorem dX9_pays_53 : decode cX9_pays 53 = .ok (.iconst 2, 1) := by decide +kernel
theorem dX9_pays_54 : decode cX9_pays 54 = .ok (.iadd, 1) := by decide +kernel
theorem dX9_pays_55 : decode cX9_pays 55 = .ok (.aload_n 0, 1) := by decide +kernel
theorem dX9_pays_56 : decode cX9_pays 56 = .ok (.iload_n 1, 1) := by decide +kernel
theorem dX9_pays_57 : decode cX9_pays 57 = .ok (.invokestatic 254, 3) := by decide +kernel
theorem dX9_pays_60 : decode cX9_pays 60 = .ok (.iconst 2, 1) := by decide +kernel
theorem dX9_pays_61 : decode cX9_pays 61 = .ok (.iadd, 1) := by decide +kernel
theorem dX9_pays_62 : decode cX9_pays 62 = .ok (.invokevirtual 38, 3) := by decide +kernel
theorem dX9_pays_65 : decode cX9_pays 65 = .ok (.lload_n 2, 1) := by decide +kernel
theorem dX9_pays_66 : decode cX9_pays 66 = .ok (.ladd, 1) := by decide +kernel
theorem dX9_pays_67 : decode cX9_pays 67 = .ok (.invokevirtual 183, 3) := by decide +kernel
theorem dX9_pays_70 : decode cX9_pays 70 = .ok (.return_, 1) := by decide +kernel
theorem dX9_dueNext_0 : decode cX9_dueNext 0 = .ok (.iconst (-1), 1) := by decide +kernel
theorem dX9_dueNext_1 : decode cX9_dueNext 1 = .ok (.istore 6, 2) := by decide +kernel
theorem dX9_dueNext_3 : decode cX9_dueNext 3 = .ok (.iconst 0, 1) := by decide +kernel
theorem dX9_dueNext_4 : decode cX9_dueNext 4 = .ok (.istore 7, 2) := by decide +kernel
theorem dX9_dueNext_6 : decode cX9_dueNext 6 = .ok (.iload 7, 2) := by decide +kernel
theorem dX9_dueNext_8 : decode cX9_dueNext 8 = .ok (.i2l, 1) := by decide +kernel
theorem dX9_dueNext_9 : decode cX9_dueNext 9 = .ok (.aload_n 0, 1) := by decide +kernel
theorem dX9_dueNext_10 : decode cX9_dueNext 10 = .ok (.iconst 5, 1) := by decide +kernel
theorem dX9_dueNext_11 : decode cX9_dueNext 11 = .ok (.invokevirtual 38, 3) := by decide +kernel
theorem dX9_dueNext_14 : decode cX9_dueNext 14 = .ok (.lcmp, 1) := by decide +kernel
theorem dX9_dueNext_15 : decode cX9_dueNext 15 = .ok (.ifCond .ge 80, 3) := by decide +kernel
theorem dX9_dueNext_18 : decode cX9_dueNext 18 = .ok (.aload_n 0, 1) := by decide +kernel
theorem dX9_dueNext_19 : decode cX9_dueNext 19 = .ok (.iload 7, 2) := by decide +kernel
theorem dX9_dueNext_21 : decode cX9_dueNext 21 = .ok (.invokestatic 254, 3) := by decide +kernel
theorem dX9_dueNext_24 : decode cX9_dueNext 24 = .ok (.iconst 4, 1) := by decide +kernel
theorem dX9_dueNext_25 : decode cX9_dueNext 25 = .ok (.iadd, 1) := by decide +kernel
theorem dX9_dueNext_26 : decode cX9_dueNext 26 = .ok (.invokevirtual 38, 3) := by decide +kernel
theorem dX9_dueNext_29 : decode cX9_dueNext 29 = .ok (.lstore 8, 2) := by decide +kernel
theorem dX9_dueNext_31 : decode cX9_dueNext 31 = .ok (.lload 8, 2) := by decide +kernel
theorem dX9_dueNext_33 : decode cX9_dueNext 33 = .ok (.lload 4, 2) := by decide +kernel
theorem dX9_dueNext_35 : decode cX9_dueNext 35 = .ok (.lcmp, 1) := by decide +kernel
theorem dX9_dueNext_36 : decode cX9_dueNext 36 = .ok (.ifCond .gt 53, 3) := by decide +kernel
theorem dX9_dueNext_39 : decode cX9_dueNext 39 = .ok (.lload 8, 2) := by decide +kernel
theorem dX9_dueNext_41 : decode cX9_dueNext 41 = .ok (.lload_n 1, 1) := by decide +kernel
theorem dX9_dueNext_42 : decode cX9_dueNext 42 = .ok (.lcmp, 1) := by decide +kernel
theorem dX9_dueNext_43 : decode cX9_dueNext 43 = .ok (.ifCond .lt 46, 3) := by decide +kernel
theorem dX9_dueNext_46 : decode cX9_dueNext 46 = .ok (.lload 8, 2) := by decide +kernel
theorem dX9_dueNext_48 : decode cX9_dueNext 48 = .ok (.lload_n 1, 1) := by decide +kernel
theorem dX9_dueNext_49 : decode cX9_dueNext 49 = .ok (.lcmp, 1) := by decide +kernel
theorem dX9_dueNext_50 : decode cX9_dueNext 50 = .ok (.ifCond .ne 12, 3) := by decide +kernel
theorem dX9_dueNext_53 : decode cX9_dueNext 53 = .ok (.iload 7, 2) := by decide +kernel
theorem dX9_dueNext_55 : decode cX9_dueNext 55 = .ok (.iload_n 3, 1) := by decide +kernel
theorem dX9_dueNext_56 : decode cX9_dueNext 56 = .ok (.if_icmp .gt 6, 3) := by decide +kernel
theorem dX9_dueNext_59 : decode cX9_dueNext 59 = .ok (.goto 30, 3) := by decide +kernel
theorem dX9_dueNext_62 : decode cX9_dueNext 62 = .ok (.iload 6, 2) := by decide +kernel
theorem dX9_dueNext_64 : decode cX9_dueNext 64 = .ok (.iconst (-1), 1) := by decide +kernel
theorem dX9_dueNext_65 : decode cX9_dueNext 65 = .ok (.if_icmp .eq 20, 3) := by decide +kernel
theorem dX9_dueNext_68 : decode cX9_dueNext 68 = .ok (.lload 8, 2) := by decide +kernel
theorem dX9_dueNext_70 : decode cX9_dueNext 70 = .ok (.aload_n 0, 1) := by decide +kernel
theorem dX9_dueNext_71 : decode cX9_dueNext 71 = .ok (.iload 6, 2) := by decide +kernel
theorem dX9_dueNext_73 : decode cX9_dueNext 73 = .ok (.invokestatic 254, 3) := by decide +kernel
theorem dX9_dueNext_76 : decode cX9_dueNext 76 = .ok (.iconst 4, 1) := by decide +kernel
theorem dX9_dueNext_77 : decode cX9_dueNext 77 = .ok (.iadd, 1) := by decide +kernel
theorem dX9_dueNext_78 : decode cX9_dueNext 78 = .ok (.invokevirtual 38, 3) := by decide +kernel
theorem dX9_dueNext_81 : decode cX9_dueNext 81 = .ok (.lcmp, 1) := by decide +kernel
theorem dX9_dueNext_82 : decode cX9_dueNext 82 = .ok (.ifCond .ge 7, 3) := by decide +kernel
theorem dX9_dueNext_85 : decode cX9_dueNext 85 = .ok (.iload 7, 2) := by decide +kernel
theorem dX9_dueNext_87 : decode cX9_dueNext 87 = .ok (.istore 6, 2) := by decide +kernel
theorem dX9_dueNext_89 : decode cX9_dueNext 89 = .ok (.iinc 7 1, 3) := by decide +kernel
theorem dX9_dueNext_92 : decode cX9_dueNext 92 = .ok (.goto (-86), 3) := by decide +kernel
theorem dX9_dueNext_95 : decode cX9_dueNext 95 = .ok (.iload 6, 2) := by decide +kernel
theorem dX9_dueNext_97 : decode cX9_dueNext 97 = .ok (.ireturn, 1) := by decide +kernel
theorem dX9_settles_0 : decode cX9_settles 0 = .ok (.lconst 0, 1) := by decide +kernel
theorem dX9_settles_1 : decode cX9_settles 1 = .ok (.lstore_n 1, 1) := by decide +kernel
theorem dX9_settles_2 : decode cX9_settles 2 = .ok (.aload_n 0, 1) := by decide +kernel
theorem dX9_settles_3 : decode cX9_settles 3 = .ok (.iconst 1, 1) := by decide +kernel
theorem dX9_settles_4 : decode cX9_settles 4 = .ok (.invokevirtual 38, 3) := by decide +kernel
theorem dX9_settles_7 : decode cX9_settles 7 = .ok (.lstore_n 3, 1) := by decide +kernel
theorem dX9_settles_8 : decode cX9_settles 8 = .ok (.aload_n 0, 1) := by decide +kernel
theorem dX9_settles_9 : decode cX9_settles 9 = .ok (.lconst 0, 1) := by decide +kernel
theorem dX9_settles_10 : decode cX9_settles 10 = .ok (.iconst (-1), 1) := by decide +kernel
theorem dX9_settles_11 : decode cX9_settles 11 = .ok (.lload_n 3, 1) := by decide +kernel
theorem dX9_settles_12 : decode cX9_settles 12 = .ok (.invokevirtual 279, 3) := by decide +kernel
theorem dX9_settles_15 : decode cX9_settles 15 = .ok (.istore 5, 2) := by decide +kernel
theorem dX9_settles_17 : decode cX9_settles 17 = .ok (.iload 5, 2) := by decide +kernel
theorem dX9_settles_19 : decode cX9_settles 19 = .ok (.iconst (-1), 1) := by decide +kernel
theorem dX9_settles_20 : decode cX9_settles 20 = .ok (.if_icmp .eq 72, 3) := by decide +kernel
theorem dX9_settles_23 : decode cX9_settles 23 = .ok (.aload_n 0, 1) := by decide +kernel
theorem dX9_settles_24 : decode cX9_settles 24 = .ok (.iload 5, 2) := by decide +kernel
theorem dX9_settles_26 : decode cX9_settles 26 = .ok (.invokevirtual 273, 3) := by decide +kernel
theorem dX9_settles_29 : decode cX9_settles 29 = .ok (.ifCond .eq 6, 3) := by decide +kernel
theorem dX9_settles_32 : decode cX9_settles 32 = .ok (.goto 37, 3) := by decide +kernel
theorem dX9_settles_35 : decode cX9_settles 35 = .ok (.aload_n 0, 1) := by decide +kernel
theorem dX9_settles_36 : decode cX9_settles 36 = .ok (.iload 5, 2) := by decide +kernel
theorem dX9_settles_38 : decode cX9_settles 38 = .ok (.invokevirtual 257, 3) := by decide +kernel
theorem dX9_settles_41 : decode cX9_settles 41 = .ok (.aload_n 0, 1) := by decide +kernel
theorem dX9_settles_42 : decode cX9_settles 42 = .ok (.aload_n 0, 1) := by decide +kernel
theorem dX9_settles_43 : decode cX9_settles 43 = .ok (.iload 5, 2) := by decide +kernel
theorem dX9_settles_45 : decode cX9_settles 45 = .ok (.invokevirtual 276, 3) := by decide +kernel
theorem dX9_settles_48 : decode cX9_settles 48 = .ok (.invokevirtual 38, 3) := by decide +kernel
theorem dX9_settles_51 : decode cX9_settles 51 = .ok (.invokestatic 246, 3) := by decide +kernel
theorem dX9_settles_54 : decode cX9_settles 54 = .ok (.lstore 6, 2) := by decide +kernel
theorem dX9_settles_56 : decode cX9_settles 56 = .ok (.aload_n 0, 1) := by decide +kernel
theorem dX9_settles_57 : decode cX9_settles 57 = .ok (.iload 5, 2) := by decide +kernel
theorem dX9_settles_59 : decode cX9_settles 59 = .ok (.lload 6, 2) := by decide +kernel
theorem dX9_settles_61 : decode cX9_settles 61 = .ok (.invokevirtual 283, 3) := by decide +kernel
theorem dX9_settles_64 : decode cX9_settles 64 = .ok (.lload_n 1, 1) := by decide +kernel
theorem dX9_settles_65 : decode cX9_settles 65 = .ok (.lload 6, 2) := by decide +kernel
theorem dX9_settles_67 : decode cX9_settles 67 = .ok (.ladd, 1) := by decide +kernel
theorem dX9_settles_68 : decode cX9_settles 68 = .ok (.lstore_n 1, 1) := by decide +kernel
theorem dX9_settles_69 : decode cX9_settles 69 = .ok (.aload_n 0, 1) := by decide +kernel
theorem dX9_settles_70 : decode cX9_settles 70 = .ok (.aload_n 0, 1) := by decide +kernel
theorem dX9_settles_71 : decode cX9_settles 71 = .ok (.iload 5, 2) := by decide +kernel
theorem dX9_settles_73 : decode cX9_settles 73 = .ok (.invokestatic 254, 3) := by decide +kernel
theorem dX9_settles_76 : decode cX9_settles 76 = .ok (.iconst 4, 1) := by decide +kernel
theorem dX9_settles_77 : decode cX9_settles 77 = .ok (.iadd, 1) := by decide +kernel
theorem dX9_settles_78 : decode cX9_settles 78 = .ok (.invokevirtual 38, 3) := by decide +kernel
theorem dX9_settles_81 : decode cX9_settles 81 = .ok (.iload 5, 2) := by decide +kernel
theorem dX9_settles_83 : decode cX9_settles 83 = .ok (.lload_n 3, 1) := by decide +kernel
theorem dX9_settles_84 : decode cX9_settles 84 = .ok (.invokevirtual 279, 3) := by decide +kernel
theorem dX9_settles_87 : decode cX9_settles 87 = .ok (.istore 5, 2) := by decide +kernel
theorem dX9_settles_89 : decode cX9_settles 89 = .ok (.goto (-72), 3) := by decide +kernel
theorem dX9_settles_92 : decode cX9_settles 92 = .ok (.aload_n 0, 1) := by decide +kernel
theorem dX9_settles_93 : decode cX9_settles 93 = .ok (.iconst 1, 1) := by decide +kernel
theorem dX9_settles_94 : decode cX9_settles 94 = .ok (.lload_n 3, 1) := by decide +kernel
theorem dX9_settles_95 : decode cX9_settles 95 = .ok (.lconst 1, 1) := by decide +kernel
theorem dX9_settles_96 : decode cX9_settles 96 = .ok (.ladd, 1) := by decide +kernel
theorem dX9_settles_97 : decode cX9_settles 97 = .ok (.invokevirtual 183, 3) := by decide +kernel
theorem dX9_settles_100 : decode cX9_settles 100 = .ok (.lload_n 1, 1) := by decide +kernel
theorem dX9_settles_101 : decode cX9_settles 101 = .ok (.lreturn, 1) := by decide +kernel
theorem dX9_settleDays_0 : decode cX9_settleDays 0 = .ok (.aload_n 0, 1) := by decide +kernel
theorem dX9_settleDays_1 : decode cX9_settleDays 1 = .ok (.iload_n 1, 1) := by decide +kernel
theorem dX9_settleDays_2 : decode cX9_settleDays 2 = .ok (.invokevirtual 270, 3) := by decide +kernel
theorem dX9_settleDays_5 : decode cX9_settleDays 5 = .ok (.ifCond .eq 20, 3) := by decide +kernel
theorem dX9_settleDays_8 : decode cX9_settleDays 8 = .ok (.aload_n 0, 1) := by decide +kernel
theorem dX9_settleDays_9 : decode cX9_settleDays 9 = .ok (.iload_n 2, 1) := by decide +kernel
theorem dX9_settleDays_10 : decode cX9_settleDays 10 = .ok (.i2l, 1) := by decide +kernel
theorem dX9_settleDays_11 : decode cX9_settleDays 11 = .ok (.lconst 0, 1) := by decide +kernel
theorem dX9_settleDays_12 : decode cX9_settleDays 12 = .ok (.ldc2_w 286, 3) := by decide +kernel
theorem dX9_settleDays_15 : decode cX9_settleDays 15 = .ok (.invokestatic 98, 3) := by decide +kernel
theorem dX9_settleDays_18 : decode cX9_settleDays 18 = .ok (.iconst 2, 1) := by decide +kernel
theorem dX9_settleDays_19 : decode cX9_settleDays 19 = .ok (.invokevirtual 173, 3) := by decide +kernel
theorem dX9_settleDays_22 : decode cX9_settleDays 22 = .ok (.ifCond .ne 5, 3) := by decide +kernel
theorem dX9_settleDays_25 : decode cX9_settleDays 25 = .ok (.iconst 0, 1) := by decide +kernel
theorem dX9_settleDays_26 : decode cX9_settleDays 26 = .ok (.ireturn, 1) := by decide +kernel
theorem dX9_settleDays_27 : decode cX9_settleDays 27 = .ok (.iconst 0, 1) := by decide +kernel
theorem dX9_settleDays_28 : decode cX9_settleDays 28 = .ok (.istore_n 3, 1) := by decide +kernel
theorem dX9_settleDays_29 : decode cX9_settleDays 29 = .ok (.iload_n 3, 1) := by decide +kernel
theorem dX9_settleDays_30 : decode cX9_settleDays 30 = .ok (.sipush 2500, 3) := by decide +kernel
theorem dX9_settleDays_33 : decode cX9_settleDays 33 = .ok (.if_icmp .ge 20, 3) := by decide +kernel
theorem dX9_settleDays_36 : decode cX9_settleDays 36 = .ok (.aload_n 0, 1) := by decide +kernel
theorem dX9_settleDays_37 : decode cX9_settleDays 37 = .ok (.getfield 16, 3) := by decide +kernel
theorem dX9_settleDays_40 : decode cX9_settleDays 40 = .ok (.iload_n 3, 1) := by decide +kernel
theorem dX9_settleDays_41 : decode cX9_settleDays 41 = .ok (.aload_n 0, 1) := by decide +kernel
theorem dX9_settleDays_42 : decode cX9_settleDays 42 = .ok (.iload_n 3, 1) := by decide +kernel
theorem dX9_settleDays_43 : decode cX9_settleDays 43 = .ok (.invokevirtual 38, 3) := by decide +kernel
theorem dX9_settleDays_46 : decode cX9_settleDays 46 = .ok (.lastore, 1) := by decide +kernel
theorem dX9_settleDays_47 : decode cX9_settleDays 47 = .ok (.iinc 3 1, 3) := by decide +kernel
theorem dX9_settleDays_50 : decode cX9_settleDays 50 = .ok (.goto (-21), 3) := by decide +kernel
theorem dX9_settleDays_53 : decode cX9_settleDays 53 = .ok (.iconst 0, 1) := by decide +kernel
theorem dX9_settleDays_54 : decode cX9_settleDays 54 = .ok (.istore_n 3, 1) := by decide +kernel
theorem dX9_settleDays_55 : decode cX9_settleDays 55 = .ok (.iload_n 3, 1) := by decide +kernel
theorem dX9_settleDays_56 : decode cX9_settleDays 56 = .ok (.iload_n 2, 1) := by decide +kernel
theorem dX9_settleDays_57 : decode cX9_settleDays 57 = .ok (.if_icmp .ge 24, 3) := by decide +kernel
theorem dX9_settleDays_60 : decode cX9_settleDays 60 = .ok (.aload_n 0, 1) := by decide +kernel
theorem dX9_settleDays_61 : decode cX9_settleDays 61 = .ok (.iload_n 1, 1) := by decide +kernel
theorem dX9_settleDays_62 : decode cX9_settleDays 62 = .ok (.invokevirtual 257, 3) := by decide +kernel
theorem dX9_settleDays_65 : decode cX9_settleDays 65 = .ok (.lconst 0, 1) := by decide +kernel
theorem dX9_settleDays_66 : decode cX9_settleDays 66 = .ok (.lcmp, 1) := by decide +kernel
theorem dX9_settleDays_67 : decode cX9_settleDays 67 = .ok (.ifCond .le 14, 3) := by decide +kernel
theorem dX9_settleDays_70 : decode cX9_settleDays 70 = .ok (.aload_n 0, 1) := by decide +kernel
theorem dX9_settleDays_71 : decode cX9_settleDays 71 = .ok (.invokevirtual 288, 3) := by decide +kernel
theorem dX9_settleDays_74 : decode cX9_settleDays 74 = .ok (.pop2, 1) := by decide +kernel
theorem dX9_settleDays_75 : decode cX9_settleDays 75 = .ok (.iinc 3 1, 3) := by decide +kernel
theorem dX9_settleDays_78 : decode cX9_settleDays 78 = .ok (.goto (-23), 3) := by decide +kernel
theorem dX9_settleDays_81 : decode cX9_settleDays 81 = .ok (.aload_n 0, 1) := by decide +kernel
theorem dX9_settleDays_82 : decode cX9_settleDays 82 = .ok (.iload_n 1, 1) := by decide +kernel
theorem dX9_settleDays_83 : decode cX9_settleDays 83 = .ok (.invokevirtual 257, 3) := by decide +kernel
theorem dX9_settleDays_86 : decode cX9_settleDays 86 = .ok (.lconst 0, 1) := by decide +kernel
theorem dX9_settleDays_87 : decode cX9_settleDays 87 = .ok (.lcmp, 1) := by decide +kernel
theorem dX9_settleDays_88 : decode cX9_settleDays 88 = .ok (.ifCond .le 7, 3) := by decide +kernel
theorem dX9_settleDays_91 : decode cX9_settleDays 91 = .ok (.iconst (-1), 1) := by decide +kernel
theorem dX9_settleDays_92 : decode cX9_settleDays 92 = .ok (.goto 4, 3) := by decide +kernel
theorem dX9_settleDays_95 : decode cX9_settleDays 95 = .ok (.iload_n 3, 1) := by decide +kernel
theorem dX9_settleDays_96 : decode cX9_settleDays 96 = .ok (.istore 4, 2) := by decide +kernel
theorem dX9_settleDays_98 : decode cX9_settleDays 98 = .ok (.iconst 0, 1) := by decide +kernel
theorem dX9_settleDays_99 : decode cX9_settleDays 99 = .ok (.istore 5, 2) := by decide +kernel
theorem dX9_settleDays_101 : decode cX9_settleDays 101 = .ok (.iload 5, 2) := by decide +kernel
theorem dX9_settleDays_103 : decode cX9_settleDays 103 = .ok (.sipush 2500, 3) := by decide +kernel
theorem dX9_settleDays_106 : decode cX9_settleDays 106 = .ok (.if_icmp .ge 22, 3) := by decide +kernel
theorem dX9_settleDays_109 : decode cX9_settleDays 109 = .ok (.aload_n 0, 1) := by decide +kernel
theorem dX9_settleDays_110 : decode cX9_settleDays 110 = .ok (.iload 5, 2) := by decide +kernel
theorem dX9_settleDays_112 : decode cX9_settleDays 112 = .ok (.aload_n 0, 1) := by decide +kernel
theorem dX9_settleDays_113 : decode cX9_settleDays 113 = .ok (.getfield 16, 3) := by decide +kernel
theorem dX9_settleDays_116 : decode cX9_settleDays 116 = .ok (.iload 5, 2) := by decide +kernel
theorem dX9_settleDays_118 : decode cX9_settleDays 118 = .ok (.laload, 1) := by decide +kernel
theorem dX9_settleDays_119 : decode cX9_settleDays 119 = .ok (.invokevirtual 183, 3) := by decide +kernel
theorem dX9_settleDays_122 : decode cX9_settleDays 122 = .ok (.iinc 5 1, 3) := by decide +kernel
theorem dX9_settleDays_125 : decode cX9_settleDays 125 = .ok (.goto (-24), 3) := by decide +kernel
theorem dX9_settleDays_128 : decode cX9_settleDays 128 = .ok (.iload 4, 2) := by decide +kernel
theorem dX9_settleDays_130 : decode cX9_settleDays 130 = .ok (.ireturn, 1) := by decide +kernel
theorem dX9_variationCount_0 : decode cX9_variationCount 0 = .ok (.aload_n 0, 1) := by decide +kernel
theorem dX9_variationCount_1 : decode cX9_variationCount 1 = .ok (.iconst 0, 1) := by decide +kernel
theorem dX9_variationCount_2 : decode cX9_variationCount 2 = .ok (.putfield 32, 3) := by decide +kernel
theorem dX9_variationCount_5 : decode cX9_variationCount 5 = .ok (.aload_n 0, 1) := by decide +kernel
theorem dX9_variationCount_6 : decode cX9_variationCount 6 = .ok (.iconst 4, 1) := by decide +kernel
theorem dX9_variationCount_7 : decode cX9_variationCount 7 = .ok (.invokevirtual 187, 3) := by decide +kernel
theorem dX9_variationCount_10 : decode cX9_variationCount 10 = .ok (.ireturn, 1) := by decide +kernel
theorem dX9_isVariation_0 : decode cX9_isVariation 0 = .ok (.aload_n 0, 1) := by decide +kernel
theorem dX9_isVariation_1 : decode cX9_isVariation 1 = .ok (.iconst 0, 1) := by decide +kernel
theorem dX9_isVariation_2 : decode cX9_isVariation 2 = .ok (.putfield 32, 3) := by decide +kernel
theorem dX9_isVariation_5 : decode cX9_isVariation 5 = .ok (.aload_n 0, 1) := by decide +kernel
theorem dX9_isVariation_6 : decode cX9_isVariation 6 = .ok (.iload_n 1, 1) := by decide +kernel
theorem dX9_isVariation_7 : decode cX9_isVariation 7 = .ok (.i2l, 1) := by decide +kernel
theorem dX9_isVariation_8 : decode cX9_isVariation 8 = .ok (.lconst 0, 1) := by decide +kernel
theorem dX9_isVariation_9 : decode cX9_isVariation 9 = .ok (.aload_n 0, 1) := by decide +kernel
theorem dX9_isVariation_10 : decode cX9_isVariation 10 = .ok (.iconst 4, 1) := by decide +kernel
theorem dX9_isVariation_11 : decode cX9_isVariation 11 = .ok (.invokevirtual 38, 3) := by decide +kernel
theorem dX9_isVariation_14 : decode cX9_isVariation 14 = .ok (.lconst 1, 1) := by decide +kernel
theorem dX9_isVariation_15 : decode cX9_isVariation 15 = .ok (.lsub, 1) := by decide +kernel
theorem dX9_isVariation_16 : decode cX9_isVariation 16 = .ok (.invokestatic 98, 3) := by decide +kernel
theorem dX9_isVariation_19 : decode cX9_isVariation 19 = .ok (.iconst 1, 1) := by decide +kernel
theorem dX9_isVariation_20 : decode cX9_isVariation 20 = .ok (.invokevirtual 173, 3) := by decide +kernel
theorem dX9_isVariation_23 : decode cX9_isVariation 23 = .ok (.ireturn, 1) := by decide +kernel
theorem dX9_isApproved_0 : decode cX9_isApproved 0 = .ok (.aload_n 0, 1) := by decide +kernel
theorem dX9_isApproved_1 : decode cX9_isApproved 1 = .ok (.iload_n 1, 1) := by decide +kernel
theorem dX9_isApproved_2 : decode cX9_isApproved 2 = .ok (.invokevirtual 292, 3) := by decide +kernel
theorem dX9_isApproved_5 : decode cX9_isApproved 5 = .ok (.ifCond .eq 25, 3) := by decide +kernel
theorem dX9_isApproved_8 : decode cX9_isApproved 8 = .ok (.aload_n 0, 1) := by decide +kernel
theorem dX9_isApproved_9 : decode cX9_isApproved 9 = .ok (.sipush 230, 3) := by decide +kernel
theorem dX9_isApproved_12 : decode cX9_isApproved 12 = .ok (.iconst 4, 1) := by decide +kernel
theorem dX9_isApproved_13 : decode cX9_isApproved 13 = .ok (.iload_n 1, 1) := by decide +kernel
theorem dX9_isApproved_14 : decode cX9_isApproved 14 = .ok (.imul, 1) := by decide +kernel
theorem dX9_isApproved_15 : decode cX9_isApproved 15 = .ok (.iadd, 1) := by decide +kernel
theorem dX9_isApproved_16 : decode cX9_isApproved 16 = .ok (.iconst 3, 1) := by decide +kernel
theorem dX9_isApproved_17 : decode cX9_isApproved 17 = .ok (.iadd, 1) := by decide +kernel
theorem dX9_isApproved_18 : decode cX9_isApproved 18 = .ok (.invokevirtual 38, 3) := by decide +kernel
theorem dX9_isApproved_21 : decode cX9_isApproved 21 = .ok (.lconst 1, 1) := by decide +kernel
theorem dX9_isApproved_22 : decode cX9_isApproved 22 = .ok (.lcmp, 1) := by decide +kernel
theorem dX9_isApproved_23 : decode cX9_isApproved 23 = .ok (.ifCond .ne 7, 3) := by decide +kernel
theorem dX9_isApproved_26 : decode cX9_isApproved 26 = .ok (.iconst 1, 1) := by decide +kernel
theorem dX9_isApproved_27 : decode cX9_isApproved 27 = .ok (.goto 4, 3) := by decide +kernel
theorem dX9_isApproved_30 : decode cX9_isApproved 30 = .ok (.iconst 0, 1) := by decide +kernel
theorem dX9_isApproved_31 : decode cX9_isApproved 31 = .ok (.ireturn, 1) := by decide +kernel
theorem dX9_quantityBy_0 : decode cX9_quantityBy 0 = .ok (.sipush 230, 3) := by decide +kernel
theorem dX9_quantityBy_3 : decode cX9_quantityBy 3 = .ok (.iconst 4, 1) := by decide +kernel
theorem dX9_quantityBy_4 : decode cX9_quantityBy 4 = .ok (.iload_n 1, 1) := by decide +kernel
theorem dX9_quantityBy_5 : decode cX9_quantityBy 5 = .ok (.imul, 1) := by decide +kernel
theorem dX9_quantityBy_6 : decode cX9_quantityBy 6 = .ok (.iadd, 1) := by decide +kernel
theorem dX9_quantityBy_7 : decode cX9_quantityBy 7 = .ok (.istore_n 2, 1) := by decide +kernel
theorem dX9_quantityBy_8 : decode cX9_quantityBy 8 = .ok (.aload_n 0, 1) := by decide +kernel
theorem dX9_quantityBy_9 : decode cX9_quantityBy 9 = .ok (.aload_n 0, 1) := by decide +kernel
theorem dX9_quantityBy_10 : decode cX9_quantityBy 10 = .ok (.iload_n 2, 1) := by decide +kernel
theorem dX9_quantityBy_11 : decode cX9_quantityBy 11 = .ok (.invokevirtual 187, 3) := by decide +kernel
theorem dX9_quantityBy_14 : decode cX9_quantityBy 14 = .ok (.aload_n 0, 1) := by decide +kernel
theorem dX9_quantityBy_15 : decode cX9_quantityBy 15 = .ok (.iload_n 2, 1) := by decide +kernel
theorem dX9_quantityBy_16 : decode cX9_quantityBy 16 = .ok (.iconst 1, 1) := by decide +kernel
theorem dX9_quantityBy_17 : decode cX9_quantityBy 17 = .ok (.iadd, 1) := by decide +kernel
theorem dX9_quantityBy_18 : decode cX9_quantityBy 18 = .ok (.invokevirtual 187, 3) := by decide +kernel
theorem dX9_quantityBy_21 : decode cX9_quantityBy 21 = .ok (.invokevirtual 224, 3) := by decide +kernel
theorem dX9_quantityBy_24 : decode cX9_quantityBy 24 = .ok (.aload_n 0, 1) := by decide +kernel
theorem dX9_quantityBy_25 : decode cX9_quantityBy 25 = .ok (.iload_n 2, 1) := by decide +kernel
theorem dX9_quantityBy_26 : decode cX9_quantityBy 26 = .ok (.iconst 2, 1) := by decide +kernel
theorem dX9_quantityBy_27 : decode cX9_quantityBy 27 = .ok (.iadd, 1) := by decide +kernel
theorem dX9_quantityBy_28 : decode cX9_quantityBy 28 = .ok (.invokevirtual 38, 3) := by decide +kernel
theorem dX9_quantityBy_31 : decode cX9_quantityBy 31 = .ok (.ladd, 1) := by decide +kernel
theorem dX9_quantityBy_32 : decode cX9_quantityBy 32 = .ok (.lreturn, 1) := by decide +kernel
theorem dX9_variationWorth_0 : decode cX9_variationWorth 0 = .ok (.aload_n 0, 1) := by decide +kernel
theorem dX9_variationWorth_1 : decode cX9_variationWorth 1 = .ok (.iload_n 1, 1) := by decide +kernel
theorem dX9_variationWorth_2 : decode cX9_variationWorth 2 = .ok (.invokevirtual 292, 3) := by decide +kernel
theorem dX9_variationWorth_5 : decode cX9_variationWorth 5 = .ok (.ifCond .ne 5, 3) := by decide +kernel
theorem dX9_variationWorth_8 : decode cX9_variationWorth 8 = .ok (.lconst 0, 1) := by decide +kernel
theorem dX9_variationWorth_9 : decode cX9_variationWorth 9 = .ok (.lreturn, 1) := by decide +kernel
theorem dX9_variationWorth_10 : decode cX9_variationWorth 10 = .ok (.sipush 230, 3) := by decide +kernel
theorem dX9_variationWorth_13 : decode cX9_variationWorth 13 = .ok (.iconst 4, 1) := by decide +kernel
theorem dX9_variationWorth_14 : decode cX9_variationWorth 14 = .ok (.iload_n 1, 1) := by decide +kernel
theorem dX9_variationWorth_15 : decode cX9_variationWorth 15 = .ok (.imul, 1) := by decide +kernel
theorem dX9_variationWorth_16 : decode cX9_variationWorth 16 = .ok (.iadd, 1) := by decide +kernel
theorem dX9_variationWorth_17 : decode cX9_variationWorth 17 = .ok (.istore_n 2, 1) := by decide +kernel
theorem dX9_variationWorth_18 : decode cX9_variationWorth 18 = .ok (.aload_n 0, 1) := by decide +kernel
theorem dX9_variationWorth_19 : decode cX9_variationWorth 19 = .ok (.iload_n 2, 1) := by decide +kernel
theorem dX9_variationWorth_20 : decode cX9_variationWorth 20 = .ok (.iconst 3, 1) := by decide +kernel
theorem dX9_variationWorth_21 : decode cX9_variationWorth 21 = .ok (.iadd, 1) := by decide +kernel
theorem dX9_variationWorth_22 : decode cX9_variationWorth 22 = .ok (.invokevirtual 38, 3) := by decide +kernel
theorem dX9_variationWorth_25 : decode cX9_variationWorth 25 = .ok (.lconst 1, 1) := by decide +kernel
theorem dX9_variationWorth_26 : decode cX9_variationWorth 26 = .ok (.lcmp, 1) := by decide +kernel
theorem dX9_variationWorth_27 : decode cX9_variationWorth 27 = .ok (.ifCond .eq 13, 3) := by decide +kernel
theorem dX9_variationWorth_30 : decode cX9_variationWorth 30 = .ok (.aload_n 0, 1) := by decide +kernel
theorem dX9_variationWorth_31 : decode cX9_variationWorth 31 = .ok (.iload_n 1, 1) := by decide +kernel
theorem dX9_variationWorth_32 : decode cX9_variationWorth 32 = .ok (.invokevirtual 295, 3) := by decide +kernel
theorem dX9_variationWorth_35 : decode cX9_variationWorth 35 = .ok (.lconst 0, 1) := by decide +kernel
theorem dX9_variationWorth_36 : decode cX9_variationWorth 36 = .ok (.lcmp, 1) := by decide +kernel
theorem dX9_variationWorth_37 : decode cX9_variationWorth 37 = .ok (.ifCond .ge 5, 3) := by decide +kernel
theorem dX9_variationWorth_40 : decode cX9_variationWorth 40 = .ok (.lconst 0, 1) := by decide +kernel
theorem dX9_variationWorth_41 : decode cX9_variationWorth 41 = .ok (.lreturn, 1) := by decide +kernel
theorem dX9_variationWorth_42 : decode cX9_variationWorth 42 = .ok (.aload_n 0, 1) := by decide +kernel
theorem dX9_variationWorth_43 : decode cX9_variationWorth 43 = .ok (.aload_n 0, 1) := by decide +kernel
theorem dX9_variationWorth_44 : decode cX9_variationWorth 44 = .ok (.iload_n 2, 1) := by decide +kernel
theorem dX9_variationWorth_45 : decode cX9_variationWorth 45 = .ok (.invokevirtual 187, 3) := by decide +kernel
theorem dX9_variationWorth_48 : decode cX9_variationWorth 48 = .ok (.aload_n 0, 1) := by decide +kernel
theorem dX9_variationWorth_49 : decode cX9_variationWorth 49 = .ok (.iload_n 2, 1) := by decide +kernel
theorem dX9_variationWorth_50 : decode cX9_variationWorth 50 = .ok (.iconst 1, 1) := by decide +kernel
theorem dX9_variationWorth_51 : decode cX9_variationWorth 51 = .ok (.iadd, 1) := by decide +kernel
theorem dX9_variationWorth_52 : decode cX9_variationWorth 52 = .ok (.invokevirtual 187, 3) := by decide +kernel
theorem dX9_variationWorth_55 : decode cX9_variationWorth 55 = .ok (.aload_n 0, 1) := by decide +kernel
theorem dX9_variationWorth_56 : decode cX9_variationWorth 56 = .ok (.iload_n 1, 1) := by decide +kernel
theorem dX9_variationWorth_57 : decode cX9_variationWorth 57 = .ok (.invokevirtual 295, 3) := by decide +kernel
theorem dX9_variationWorth_60 : decode cX9_variationWorth 60 = .ok (.invokevirtual 227, 3) := by decide +kernel
theorem dX9_variationWorth_63 : decode cX9_variationWorth 63 = .ok (.aload_n 0, 1) := by decide +kernel
theorem dX9_variationWorth_64 : decode cX9_variationWorth 64 = .ok (.aload_n 0, 1) := by decide +kernel
theorem dX9_variationWorth_65 : decode cX9_variationWorth 65 = .ok (.iload_n 2, 1) := by decide +kernel
theorem dX9_variationWorth_66 : decode cX9_variationWorth 66 = .ok (.invokevirtual 187, 3) := by decide +kernel
theorem dX9_variationWorth_69 : decode cX9_variationWorth 69 = .ok (.aload_n 0, 1) := by decide +kernel
theorem dX9_variationWorth_70 : decode cX9_variationWorth 70 = .ok (.iload_n 2, 1) := by decide +kernel
theorem dX9_variationWorth_71 : decode cX9_variationWorth 71 = .ok (.iconst 1, 1) := by decide +kernel
theorem dX9_variationWorth_72 : decode cX9_variationWorth 72 = .ok (.iadd, 1) := by decide +kernel
theorem dX9_variationWorth_73 : decode cX9_variationWorth 73 = .ok (.invokevirtual 187, 3) := by decide +kernel
theorem dX9_variationWorth_76 : decode cX9_variationWorth 76 = .ok (.aload_n 0, 1) := by decide +kernel
theorem dX9_variationWorth_77 : decode cX9_variationWorth 77 = .ok (.aload_n 0, 1) := by decide +kernel
theorem dX9_variationWorth_78 : decode cX9_variationWorth 78 = .ok (.iload_n 2, 1) := by decide +kernel
theorem dX9_variationWorth_79 : decode cX9_variationWorth 79 = .ok (.invokevirtual 187, 3) := by decide +kernel
theorem dX9_variationWorth_82 : decode cX9_variationWorth 82 = .ok (.aload_n 0, 1) := by decide +kernel
theorem dX9_variationWorth_83 : decode cX9_variationWorth 83 = .ok (.iload_n 2, 1) := by decide +kernel
theorem dX9_variationWorth_84 : decode cX9_variationWorth 84 = .ok (.iconst 1, 1) := by decide +kernel
theorem dX9_variationWorth_85 : decode cX9_variationWorth 85 = .ok (.iadd, 1) := by decide +kernel
theorem dX9_variationWorth_86 : decode cX9_variationWorth 86 = .ok (.invokevirtual 187, 3) := by decide +kernel
theorem dX9_variationWorth_89 : decode cX9_variationWorth 89 = .ok (.invokevirtual 224, 3) := by decide +kernel
theorem dX9_variationWorth_92 : decode cX9_variationWorth 92 = .ok (.invokevirtual 227, 3) := by decide +kernel
theorem dX9_variationWorth_95 : decode cX9_variationWorth 95 = .ok (.lsub, 1) := by decide +kernel
theorem dX9_variationWorth_96 : decode cX9_variationWorth 96 = .ok (.lreturn, 1) := by decide +kernel
theorem dX9_lien_0 : decode cX9_lien 0 = .ok (.sipush 530, 3) := by decide +kernel
theorem dX9_lien_3 : decode cX9_lien 3 = .ok (.iconst 4, 1) := by decide +kernel
theorem dX9_lien_4 : decode cX9_lien 4 = .ok (.iload_n 0, 1) := by decide +kernel
theorem dX9_lien_5 : decode cX9_lien 5 = .ok (.imul, 1) := by decide +kernel
theorem dX9_lien_6 : decode cX9_lien 6 = .ok (.iadd, 1) := by decide +kernel
theorem dX9_lien_7 : decode cX9_lien 7 = .ok (.ireturn, 1) := by decide +kernel
theorem dX9_lienCount_0 : decode cX9_lienCount 0 = .ok (.aload_n 0, 1) := by decide +kernel
theorem dX9_lienCount_1 : decode cX9_lienCount 1 = .ok (.iconst 0, 1) := by decide +kernel
theorem dX9_lienCount_2 : decode cX9_lienCount 2 = .ok (.putfield 32, 3) := by decide +kernel
theorem dX9_lienCount_5 : decode cX9_lienCount 5 = .ok (.aload_n 0, 1) := by decide +kernel
theorem dX9_lienCount_6 : decode cX9_lienCount 6 = .ok (.bipush 6, 2) := by decide +kernel
theorem dX9_lienCount_8 : decode cX9_lienCount 8 = .ok (.invokevirtual 187, 3) := by decide +kernel
theorem dX9_lienCount_11 : decode cX9_lienCount 11 = .ok (.ireturn, 1) := by decide +kernel
theorem dX9_isLien_0 : decode cX9_isLien 0 = .ok (.aload_n 0, 1) := by decide +kernel
theorem dX9_isLien_1 : decode cX9_isLien 1 = .ok (.iconst 0, 1) := by decide +kernel
theorem dX9_isLien_2 : decode cX9_isLien 2 = .ok (.putfield 32, 3) := by decide +kernel
theorem dX9_isLien_5 : decode cX9_isLien 5 = .ok (.aload_n 0, 1) := by decide +kernel
theorem dX9_isLien_6 : decode cX9_isLien 6 = .ok (.iload_n 1, 1) := by decide +kernel
theorem dX9_isLien_7 : decode cX9_isLien 7 = .ok (.i2l, 1) := by decide +kernel
theorem dX9_isLien_8 : decode cX9_isLien 8 = .ok (.lconst 0, 1) := by decide +kernel
theorem dX9_isLien_9 : decode cX9_isLien 9 = .ok (.aload_n 0, 1) := by decide +kernel
theorem dX9_isLien_10 : decode cX9_isLien 10 = .ok (.bipush 6, 2) := by decide +kernel
theorem dX9_isLien_12 : decode cX9_isLien 12 = .ok (.invokevirtual 38, 3) := by decide +kernel
theorem dX9_isLien_15 : decode cX9_isLien 15 = .ok (.lconst 1, 1) := by decide +kernel
theorem dX9_isLien_16 : decode cX9_isLien 16 = .ok (.lsub, 1) := by decide +kernel
theorem dX9_isLien_17 : decode cX9_isLien 17 = .ok (.invokestatic 98, 3) := by decide +kernel
theorem dX9_isLien_20 : decode cX9_isLien 20 = .ok (.iconst 1, 1) := by decide +kernel
theorem dX9_isLien_21 : decode cX9_isLien 21 = .ok (.invokevirtual 173, 3) := by decide +kernel
theorem dX9_isLien_24 : decode cX9_isLien 24 = .ok (.ireturn, 1) := by decide +kernel
theorem dX9_claimOf_0 : decode cX9_claimOf 0 = .ok (.aload_n 0, 1) := by decide +kernel
theorem dX9_claimOf_1 : decode cX9_claimOf 1 = .ok (.iload_n 1, 1) := by decide +kernel
theorem dX9_claimOf_2 : decode cX9_claimOf 2 = .ok (.invokestatic 298, 3) := by decide +kernel
theorem dX9_claimOf_5 : decode cX9_claimOf 5 = .ok (.iconst 3, 1) := by decide +kernel
theorem dX9_claimOf_6 : decode cX9_claimOf 6 = .ok (.iadd, 1) := by decide +kernel
theorem dX9_claimOf_7 : decode cX9_claimOf 7 = .ok (.invokevirtual 38, 3) := by decide +kernel
theorem dX9_claimOf_10 : decode cX9_claimOf 10 = .ok (.lconst 1, 1) := by decide +kernel
theorem dX9_claimOf_11 : decode cX9_claimOf 11 = .ok (.lcmp, 1) := by decide +kernel
theorem dX9_claimOf_12 : decode cX9_claimOf 12 = .ok (.ifCond .ne 7, 3) := by decide +kernel
theorem dX9_claimOf_15 : decode cX9_claimOf 15 = .ok (.lconst 0, 1) := by decide +kernel
theorem dX9_claimOf_16 : decode cX9_claimOf 16 = .ok (.goto 28, 3) := by decide +kernel
theorem dX9_claimOf_19 : decode cX9_claimOf 19 = .ok (.aload_n 0, 1) := by decide +kernel
theorem dX9_claimOf_20 : decode cX9_claimOf 20 = .ok (.iload_n 1, 1) := by decide +kernel
theorem dX9_claimOf_21 : decode cX9_claimOf 21 = .ok (.invokestatic 298, 3) := by decide +kernel
theorem dX9_claimOf_24 : decode cX9_claimOf 24 = .ok (.iconst 1, 1) := by decide +kernel
theorem dX9_claimOf_25 : decode cX9_claimOf 25 = .ok (.iadd, 1) := by decide +kernel
theorem dX9_claimOf_26 : decode cX9_claimOf 26 = .ok (.invokevirtual 38, 3) := by decide +kernel
theorem dX9_claimOf_29 : decode cX9_claimOf 29 = .ok (.aload_n 0, 1) := by decide +kernel
theorem dX9_claimOf_30 : decode cX9_claimOf 30 = .ok (.aload_n 0, 1) := by decide +kernel
theorem dX9_claimOf_31 : decode cX9_claimOf 31 = .ok (.iload_n 1, 1) := by decide +kernel
theorem dX9_claimOf_32 : decode cX9_claimOf 32 = .ok (.invokestatic 298, 3) := by decide +kernel
theorem dX9_claimOf_35 : decode cX9_claimOf 35 = .ok (.invokevirtual 187, 3) := by decide +kernel
theorem dX9_claimOf_38 : decode cX9_claimOf 38 = .ok (.invokevirtual 267, 3) := by decide +kernel
theorem dX9_claimOf_41 : decode cX9_claimOf 41 = .ok (.invokestatic 246, 3) := by decide +kernel
theorem dX9_claimOf_44 : decode cX9_claimOf 44 = .ok (.lreturn, 1) := by decide +kernel
theorem dX9_claim_0 : decode cX9_claim 0 = .ok (.aload_n 0, 1) := by decide +kernel
theorem dX9_claim_1 : decode cX9_claim 1 = .ok (.iload_n 1, 1) := by decide +kernel
theorem dX9_claim_2 : decode cX9_claim 2 = .ok (.invokevirtual 301, 3) := by decide +kernel
theorem dX9_claim_5 : decode cX9_claim 5 = .ok (.ifCond .eq 11, 3) := by decide +kernel
theorem dX9_claim_8 : decode cX9_claim 8 = .ok (.aload_n 0, 1) := by decide +kernel
theorem dX9_claim_9 : decode cX9_claim 9 = .ok (.iload_n 1, 1) := by decide +kernel
theorem dX9_claim_10 : decode cX9_claim 10 = .ok (.invokevirtual 304, 3) := by decide +kernel
theorem dX9_claim_13 : decode cX9_claim 13 = .ok (.goto 4, 3) := by decide +kernel
theorem dX9_claim_16 : decode cX9_claim 16 = .ok (.lconst 0, 1) := by decide +kernel
theorem dX9_claim_17 : decode cX9_claim 17 = .ok (.lreturn, 1) := by decide +kernel
theorem dX9_rankOf_0 : decode cX9_rankOf 0 = .ok (.aload_n 0, 1) := by decide +kernel
theorem dX9_rankOf_1 : decode cX9_rankOf 1 = .ok (.aload_n 0, 1) := by decide +kernel
theorem dX9_rankOf_2 : decode cX9_rankOf 2 = .ok (.aload_n 0, 1) := by decide +kernel
theorem dX9_rankOf_3 : decode cX9_rankOf 3 = .ok (.iload_n 1, 1) := by decide +kernel
theorem dX9_rankOf_4 : decode cX9_rankOf 4 = .ok (.invokestatic 298, 3) := by decide +kernel
theorem dX9_rankOf_7 : decode cX9_rankOf 7 = .ok (.invokevirtual 187, 3) := by decide +kernel
theorem dX9_rankOf_10 : decode cX9_rankOf 10 = .ok (.invokevirtual 201, 3) := by decide +kernel
theorem dX9_rankOf_13 : decode cX9_rankOf 13 = .ok (.iconst 4, 1) := by decide +kernel
theorem dX9_rankOf_14 : decode cX9_rankOf 14 = .ok (.iadd, 1) := by decide +kernel
theorem dX9_rankOf_15 : decode cX9_rankOf 15 = .ok (.invokevirtual 38, 3) := by decide +kernel
theorem dX9_rankOf_18 : decode cX9_rankOf 18 = .ok (.lreturn, 1) := by decide +kernel
theorem dX9_isAhead_0 : decode cX9_isAhead 0 = .ok (.aload_n 0, 1) := by decide +kernel
theorem dX9_isAhead_1 : decode cX9_isAhead 1 = .ok (.iload_n 1, 1) := by decide +kernel
theorem dX9_isAhead_2 : decode cX9_isAhead 2 = .ok (.invokevirtual 307, 3) := by decide +kernel
theorem dX9_isAhead_5 : decode cX9_isAhead 5 = .ok (.aload_n 0, 1) := by decide +kernel
theorem dX9_isAhead_6 : decode cX9_isAhead 6 = .ok (.iload_n 2, 1) := by decide +kernel
theorem dX9_isAhead_7 : decode cX9_isAhead 7 = .ok (.invokevirtual 307, 3) := by decide +kernel
theorem dX9_isAhead_10 : decode cX9_isAhead 10 = .ok (.lcmp, 1) := by decide +kernel
theorem dX9_isAhead_11 : decode cX9_isAhead 11 = .ok (.ifCond .eq 23, 3) := by decide +kernel
theorem dX9_isAhead_14 : decode cX9_isAhead 14 = .ok (.aload_n 0, 1) := by decide +kernel
theorem dX9_isAhead_15 : decode cX9_isAhead 15 = .ok (.iload_n 1, 1) := by decide +kernel
theorem dX9_isAhead_16 : decode cX9_isAhead 16 = .ok (.invokevirtual 307, 3) := by decide +kernel
theorem dX9_isAhead_19 : decode cX9_isAhead 19 = .ok (.aload_n 0, 1) := by decide +kernel
theorem dX9_isAhead_20 : decode cX9_isAhead 20 = .ok (.iload_n 2, 1) := by decide +kernel
theorem dX9_isAhead_21 : decode cX9_isAhead 21 = .ok (.invokevirtual 307, 3) := by decide +kernel
theorem dX9_isAhead_24 : decode cX9_isAhead 24 = .ok (.lcmp, 1) := by decide +kernel
theorem dX9_isAhead_25 : decode cX9_isAhead 25 = .ok (.ifCond .ge 7, 3) := by decide +kernel
theorem dX9_isAhead_28 : decode cX9_isAhead 28 = .ok (.iconst 1, 1) := by decide +kernel
theorem dX9_isAhead_29 : decode cX9_isAhead 29 = .ok (.goto 4, 3) := by decide +kernel
theorem dX9_isAhead_32 : decode cX9_isAhead 32 = .ok (.iconst 0, 1) := by decide +kernel
theorem dX9_isAhead_33 : decode cX9_isAhead 33 = .ok (.ireturn, 1) := by decide +kernel
theorem dX9_isAhead_34 : decode cX9_isAhead 34 = .ok (.aload_n 0, 1) := by decide +kernel
theorem dX9_isAhead_35 : decode cX9_isAhead 35 = .ok (.iload_n 1, 1) := by decide +kernel
theorem dX9_isAhead_36 : decode cX9_isAhead 36 = .ok (.invokestatic 298, 3) := by decide +kernel
theorem dX9_isAhead_39 : decode cX9_isAhead 39 = .ok (.iconst 2, 1) := by decide +kernel
theorem dX9_isAhead_40 : decode cX9_isAhead 40 = .ok (.iadd, 1) := by decide +kernel
theorem dX9_isAhead_41 : decode cX9_isAhead 41 = .ok (.invokevirtual 38, 3) := by decide +kernel
theorem dX9_isAhead_44 : decode cX9_isAhead 44 = .ok (.aload_n 0, 1) := by decide +kernel
theorem dX9_isAhead_45 : decode cX9_isAhead 45 = .ok (.iload_n 2, 1) := by decide +kernel
theorem dX9_isAhead_46 : decode cX9_isAhead 46 = .ok (.invokestatic 298, 3) := by decide +kernel
theorem dX9_isAhead_49 : decode cX9_isAhead 49 = .ok (.iconst 2, 1) := by decide +kernel
theorem dX9_isAhead_50 : decode cX9_isAhead 50 = .ok (.iadd, 1) := by decide +kernel
theorem dX9_isAhead_51 : decode cX9_isAhead 51 = .ok (.invokevirtual 38, 3) := by decide +kernel
theorem dX9_isAhead_54 : decode cX9_isAhead 54 = .ok (.lcmp, 1) := by decide +kernel
theorem dX9_isAhead_55 : decode cX9_isAhead 55 = .ok (.ifCond .ne 16, 3) := by decide +kernel
theorem dX9_isAhead_58 : decode cX9_isAhead 58 = .ok (.iload_n 1, 1) := by decide +kernel
theorem dX9_isAhead_59 : decode cX9_isAhead 59 = .ok (.iload_n 2, 1) := by decide +kernel
theorem dX9_isAhead_60 : decode cX9_isAhead 60 = .ok (.if_icmp .ge 7, 3) := by decide +kernel
theorem dX9_isAhead_63 : decode cX9_isAhead 63 = .ok (.iconst 1, 1) := by decide +kernel
theorem dX9_isAhead_64 : decode cX9_isAhead 64 = .ok (.goto 36, 3) := by decide +kernel
theorem dX9_isAhead_67 : decode cX9_isAhead 67 = .ok (.iconst 0, 1) := by decide +kernel
theorem dX9_isAhead_68 : decode cX9_isAhead 68 = .ok (.goto 32, 3) := by decide +kernel
theorem dX9_isAhead_71 : decode cX9_isAhead 71 = .ok (.aload_n 0, 1) := by decide +kernel
theorem dX9_isAhead_72 : decode cX9_isAhead 72 = .ok (.iload_n 1, 1) := by decide +kernel
theorem dX9_isAhead_73 : decode cX9_isAhead 73 = .ok (.invokestatic 298, 3) := by decide +kernel
theorem dX9_isAhead_76 : decode cX9_isAhead 76 = .ok (.iconst 2, 1) := by decide +kernel
theorem dX9_isAhead_77 : decode cX9_isAhead 77 = .ok (.iadd, 1) := by decide +kernel
theorem dX9_isAhead_78 : decode cX9_isAhead 78 = .ok (.invokevirtual 38, 3) := by decide +kernel
theorem dX9_isAhead_81 : decode cX9_isAhead 81 = .ok (.aload_n 0, 1) := by decide +kernel
theorem dX9_isAhead_82 : decode cX9_isAhead 82 = .ok (.iload_n 2, 1) := by decide +kernel
theorem dX9_isAhead_83 : decode cX9_isAhead 83 = .ok (.invokestatic 298, 3) := by decide +kernel
theorem dX9_isAhead_86 : decode cX9_isAhead 86 = .ok (.iconst 2, 1) := by decide +kernel
theorem dX9_isAhead_87 : decode cX9_isAhead 87 = .ok (.iadd, 1) := by decide +kernel
theorem dX9_isAhead_88 : decode cX9_isAhead 88 = .ok (.invokevirtual 38, 3) := by decide +kernel
theorem dX9_isAhead_91 : decode cX9_isAhead 91 = .ok (.lcmp, 1) := by decide +kernel
theorem dX9_isAhead_92 : decode cX9_isAhead 92 = .ok (.ifCond .ge 7, 3) := by decide +kernel
theorem dX9_isAhead_95 : decode cX9_isAhead 95 = .ok (.iconst 1, 1) := by decide +kernel
theorem dX9_isAhead_96 : decode cX9_isAhead 96 = .ok (.goto 4, 3) := by decide +kernel
theorem dX9_isAhead_99 : decode cX9_isAhead 99 = .ok (.iconst 0, 1) := by decide +kernel
theorem dX9_isAhead_100 : decode cX9_isAhead 100 = .ok (.ireturn, 1) := by decide +kernel
theorem dX9_placeOf_0 : decode cX9_placeOf 0 = .ok (.iconst 0, 1) := by decide +kernel
theorem dX9_placeOf_1 : decode cX9_placeOf 1 = .ok (.istore_n 2, 1) := by decide +kernel
theorem dX9_placeOf_2 : decode cX9_placeOf 2 = .ok (.iconst 0, 1) := by decide +kernel
theorem dX9_placeOf_3 : decode cX9_placeOf 3 = .ok (.istore_n 3, 1) := by decide +kernel
theorem dX9_placeOf_4 : decode cX9_placeOf 4 = .ok (.iload_n 3, 1) := by decide +kernel
theorem dX9_placeOf_5 : decode cX9_placeOf 5 = .ok (.i2l, 1) := by decide +kernel
theorem dX9_placeOf_6 : decode cX9_placeOf 6 = .ok (.aload_n 0, 1) := by decide +kernel
theorem dX9_placeOf_7 : decode cX9_placeOf 7 = .ok (.bipush 6, 2) := by decide +kernel
theorem dX9_placeOf_9 : decode cX9_placeOf 9 = .ok (.invokevirtual 38, 3) := by decide +kernel
theorem dX9_placeOf_12 : decode cX9_placeOf 12 = .ok (.lcmp, 1) := by decide +kernel
theorem dX9_placeOf_13 : decode cX9_placeOf 13 = .ok (.ifCond .ge 31, 3) := by decide +kernel
theorem dX9_placeOf_16 : decode cX9_placeOf 16 = .ok (.iload_n 2, 1) := by decide +kernel
theorem dX9_placeOf_17 : decode cX9_placeOf 17 = .ok (.iload_n 3, 1) := by decide +kernel
theorem dX9_placeOf_18 : decode cX9_placeOf 18 = .ok (.iload_n 1, 1) := by decide +kernel
theorem dX9_placeOf_19 : decode cX9_placeOf 19 = .ok (.if_icmp .eq 16, 3) := by decide +kernel
theorem dX9_placeOf_22 : decode cX9_placeOf 22 = .ok (.aload_n 0, 1) := by decide +kernel
theorem dX9_placeOf_23 : decode cX9_placeOf 23 = .ok (.iload_n 3, 1) := by decide +kernel
theorem dX9_placeOf_24 : decode cX9_placeOf 24 = .ok (.iload_n 1, 1) := by decide +kernel
theorem dX9_placeOf_25 : decode cX9_placeOf 25 = .ok (.invokevirtual 310, 3) := by decide +kernel
theorem dX9_placeOf_28 : decode cX9_placeOf 28 = .ok (.ifCond .eq 7, 3) := by decide +kernel
theorem dX9_placeOf_31 : decode cX9_placeOf 31 = .ok (.iconst 1, 1) := by decide +kernel
theorem dX9_placeOf_32 : decode cX9_placeOf 32 = .ok (.goto 4, 3) := by decide +kernel
theorem dX9_placeOf_35 : decode cX9_placeOf 35 = .ok (.iconst 0, 1) := by decide +kernel
theorem dX9_placeOf_36 : decode cX9_placeOf 36 = .ok (.iadd, 1) := by decide +kernel
theorem dX9_placeOf_37 : decode cX9_placeOf 37 = .ok (.istore_n 2, 1) := by decide +kernel
