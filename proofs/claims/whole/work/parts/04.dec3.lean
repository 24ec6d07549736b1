theorem dX9_placeOf_38 : decode cX9_placeOf 38 = .ok (.iinc 3 1, 3) := by decide +kernel
theorem dX9_placeOf_41 : decode cX9_placeOf 41 = .ok (.goto (-37), 3) := by decide +kernel
theorem dX9_placeOf_44 : decode cX9_placeOf 44 = .ok (.iload_n 2, 1) := by decide +kernel
theorem dX9_placeOf_45 : decode cX9_placeOf 45 = .ok (.ireturn, 1) := by decide +kernel
theorem dX9_priority_0 : decode cX9_priority 0 = .ok (.aload_n 0, 1) := by decide +kernel
theorem dX9_priority_1 : decode cX9_priority 1 = .ok (.iload_n 1, 1) := by decide +kernel
theorem dX9_priority_2 : decode cX9_priority 2 = .ok (.invokevirtual 301, 3) := by decide +kernel
theorem dX9_priority_5 : decode cX9_priority 5 = .ok (.ifCond .ne 5, 3) := by decide +kernel
theorem dX9_priority_8 : decode cX9_priority 8 = .ok (.iconst 0, 1) := by decide +kernel
theorem dX9_priority_9 : decode cX9_priority 9 = .ok (.ireturn, 1) := by decide +kernel
theorem dX9_priority_10 : decode cX9_priority 10 = .ok (.iconst (-1), 1) := by decide +kernel
theorem dX9_priority_11 : decode cX9_priority 11 = .ok (.istore_n 2, 1) := by decide +kernel
theorem dX9_priority_12 : decode cX9_priority 12 = .ok (.iconst 0, 1) := by decide +kernel
theorem dX9_priority_13 : decode cX9_priority 13 = .ok (.istore_n 3, 1) := by decide +kernel
theorem dX9_priority_14 : decode cX9_priority 14 = .ok (.iload_n 3, 1) := by decide +kernel
theorem dX9_priority_15 : decode cX9_priority 15 = .ok (.i2l, 1) := by decide +kernel
theorem dX9_priority_16 : decode cX9_priority 16 = .ok (.aload_n 0, 1) := by decide +kernel
theorem dX9_priority_17 : decode cX9_priority 17 = .ok (.bipush 6, 2) := by decide +kernel
theorem dX9_priority_19 : decode cX9_priority 19 = .ok (.invokevirtual 38, 3) := by decide +kernel
theorem dX9_priority_22 : decode cX9_priority 22 = .ok (.lcmp, 1) := by decide +kernel
theorem dX9_priority_23 : decode cX9_priority 23 = .ok (.ifCond .ge 24, 3) := by decide +kernel
theorem dX9_priority_26 : decode cX9_priority 26 = .ok (.aload_n 0, 1) := by decide +kernel
theorem dX9_priority_27 : decode cX9_priority 27 = .ok (.iload_n 3, 1) := by decide +kernel
theorem dX9_priority_28 : decode cX9_priority 28 = .ok (.invokevirtual 313, 3) := by decide +kernel
theorem dX9_priority_31 : decode cX9_priority 31 = .ok (.iload_n 1, 1) := by decide +kernel
theorem dX9_priority_32 : decode cX9_priority 32 = .ok (.if_icmp .ne 7, 3) := by decide +kernel
theorem dX9_priority_35 : decode cX9_priority 35 = .ok (.iload_n 3, 1) := by decide +kernel
theorem dX9_priority_36 : decode cX9_priority 36 = .ok (.goto 4, 3) := by decide +kernel
theorem dX9_priority_39 : decode cX9_priority 39 = .ok (.iload_n 2, 1) := by decide +kernel
theorem dX9_priority_40 : decode cX9_priority 40 = .ok (.istore_n 2, 1) := by decide +kernel
theorem dX9_priority_41 : decode cX9_priority 41 = .ok (.iinc 3 1, 3) := by decide +kernel
theorem dX9_priority_44 : decode cX9_priority 44 = .ok (.goto (-30), 3) := by decide +kernel
theorem dX9_priority_47 : decode cX9_priority 47 = .ok (.iload_n 2, 1) := by decide +kernel
theorem dX9_priority_48 : decode cX9_priority 48 = .ok (.ireturn, 1) := by decide +kernel
theorem dX9_claimsOf_0 : decode cX9_claimsOf 0 = .ok (.lconst 0, 1) := by decide +kernel
theorem dX9_claimsOf_1 : decode cX9_claimsOf 1 = .ok (.lstore_n 3, 1) := by decide +kernel
theorem dX9_claimsOf_2 : decode cX9_claimsOf 2 = .ok (.iconst 0, 1) := by decide +kernel
theorem dX9_claimsOf_3 : decode cX9_claimsOf 3 = .ok (.istore 5, 2) := by decide +kernel
theorem dX9_claimsOf_5 : decode cX9_claimsOf 5 = .ok (.iload 5, 2) := by decide +kernel
theorem dX9_claimsOf_7 : decode cX9_claimsOf 7 = .ok (.i2l, 1) := by decide +kernel
theorem dX9_claimsOf_8 : decode cX9_claimsOf 8 = .ok (.aload_n 0, 1) := by decide +kernel
theorem dX9_claimsOf_9 : decode cX9_claimsOf 9 = .ok (.bipush 6, 2) := by decide +kernel
theorem dX9_claimsOf_11 : decode cX9_claimsOf 11 = .ok (.invokevirtual 38, 3) := by decide +kernel
theorem dX9_claimsOf_14 : decode cX9_claimsOf 14 = .ok (.lcmp, 1) := by decide +kernel
theorem dX9_claimsOf_15 : decode cX9_claimsOf 15 = .ok (.ifCond .ge 33, 3) := by decide +kernel
theorem dX9_claimsOf_18 : decode cX9_claimsOf 18 = .ok (.lload_n 3, 1) := by decide +kernel
theorem dX9_claimsOf_19 : decode cX9_claimsOf 19 = .ok (.aload_n 0, 1) := by decide +kernel
theorem dX9_claimsOf_20 : decode cX9_claimsOf 20 = .ok (.iload 5, 2) := by decide +kernel
theorem dX9_claimsOf_22 : decode cX9_claimsOf 22 = .ok (.invokevirtual 307, 3) := by decide +kernel
theorem dX9_claimsOf_25 : decode cX9_claimsOf 25 = .ok (.lload_n 1, 1) := by decide +kernel
theorem dX9_claimsOf_26 : decode cX9_claimsOf 26 = .ok (.lcmp, 1) := by decide +kernel
theorem dX9_claimsOf_27 : decode cX9_claimsOf 27 = .ok (.ifCond .ne 12, 3) := by decide +kernel
theorem dX9_claimsOf_30 : decode cX9_claimsOf 30 = .ok (.aload_n 0, 1) := by decide +kernel
theorem dX9_claimsOf_31 : decode cX9_claimsOf 31 = .ok (.iload 5, 2) := by decide +kernel
theorem dX9_claimsOf_33 : decode cX9_claimsOf 33 = .ok (.invokevirtual 304, 3) := by decide +kernel
theorem dX9_claimsOf_36 : decode cX9_claimsOf 36 = .ok (.goto 4, 3) := by decide +kernel
theorem dX9_claimsOf_39 : decode cX9_claimsOf 39 = .ok (.lconst 0, 1) := by decide +kernel
theorem dX9_claimsOf_40 : decode cX9_claimsOf 40 = .ok (.ladd, 1) := by decide +kernel
theorem dX9_claimsOf_41 : decode cX9_claimsOf 41 = .ok (.lstore_n 3, 1) := by decide +kernel
theorem dX9_claimsOf_42 : decode cX9_claimsOf 42 = .ok (.iinc 5 1, 3) := by decide +kernel
theorem dX9_claimsOf_45 : decode cX9_claimsOf 45 = .ok (.goto (-40), 3) := by decide +kernel
theorem dX9_claimsOf_48 : decode cX9_claimsOf 48 = .ok (.lload_n 3, 1) := by decide +kernel
theorem dX9_claimsOf_49 : decode cX9_claimsOf 49 = .ok (.lreturn, 1) := by decide +kernel
theorem dX9_aheadWith_0 : decode cX9_aheadWith 0 = .ok (.lconst 0, 1) := by decide +kernel
theorem dX9_aheadWith_1 : decode cX9_aheadWith 1 = .ok (.lstore 6, 2) := by decide +kernel
theorem dX9_aheadWith_3 : decode cX9_aheadWith 3 = .ok (.iconst 0, 1) := by decide +kernel
theorem dX9_aheadWith_4 : decode cX9_aheadWith 4 = .ok (.istore 8, 2) := by decide +kernel
theorem dX9_aheadWith_6 : decode cX9_aheadWith 6 = .ok (.iload 8, 2) := by decide +kernel
theorem dX9_aheadWith_8 : decode cX9_aheadWith 8 = .ok (.i2l, 1) := by decide +kernel
theorem dX9_aheadWith_9 : decode cX9_aheadWith 9 = .ok (.aload_n 0, 1) := by decide +kernel
theorem dX9_aheadWith_10 : decode cX9_aheadWith 10 = .ok (.bipush 6, 2) := by decide +kernel
theorem dX9_aheadWith_12 : decode cX9_aheadWith 12 = .ok (.invokevirtual 38, 3) := by decide +kernel
theorem dX9_aheadWith_15 : decode cX9_aheadWith 15 = .ok (.lcmp, 1) := by decide +kernel
theorem dX9_aheadWith_16 : decode cX9_aheadWith 16 = .ok (.ifCond .ge 67, 3) := by decide +kernel
theorem dX9_aheadWith_19 : decode cX9_aheadWith 19 = .ok (.iload 8, 2) := by decide +kernel
theorem dX9_aheadWith_21 : decode cX9_aheadWith 21 = .ok (.iload_n 1, 1) := by decide +kernel
theorem dX9_aheadWith_22 : decode cX9_aheadWith 22 = .ok (.if_icmp .eq 55, 3) := by decide +kernel
theorem dX9_aheadWith_25 : decode cX9_aheadWith 25 = .ok (.aload_n 0, 1) := by decide +kernel
theorem dX9_aheadWith_26 : decode cX9_aheadWith 26 = .ok (.iload 8, 2) := by decide +kernel
theorem dX9_aheadWith_28 : decode cX9_aheadWith 28 = .ok (.invokevirtual 307, 3) := by decide +kernel
theorem dX9_aheadWith_31 : decode cX9_aheadWith 31 = .ok (.aload_n 0, 1) := by decide +kernel
theorem dX9_aheadWith_32 : decode cX9_aheadWith 32 = .ok (.iload_n 1, 1) := by decide +kernel
theorem dX9_aheadWith_33 : decode cX9_aheadWith 33 = .ok (.invokevirtual 307, 3) := by decide +kernel
theorem dX9_aheadWith_36 : decode cX9_aheadWith 36 = .ok (.lcmp, 1) := by decide +kernel
theorem dX9_aheadWith_37 : decode cX9_aheadWith 37 = .ok (.ifCond .ne 40, 3) := by decide +kernel
theorem dX9_aheadWith_40 : decode cX9_aheadWith 40 = .ok (.aload_n 0, 1) := by decide +kernel
theorem dX9_aheadWith_41 : decode cX9_aheadWith 41 = .ok (.iload 8, 2) := by decide +kernel
theorem dX9_aheadWith_43 : decode cX9_aheadWith 43 = .ok (.iload_n 1, 1) := by decide +kernel
theorem dX9_aheadWith_44 : decode cX9_aheadWith 44 = .ok (.invokevirtual 310, 3) := by decide +kernel
theorem dX9_aheadWith_47 : decode cX9_aheadWith 47 = .ok (.ifCond .eq 30, 3) := by decide +kernel
theorem dX9_aheadWith_50 : decode cX9_aheadWith 50 = .ok (.aload_n 0, 1) := by decide +kernel
theorem dX9_aheadWith_51 : decode cX9_aheadWith 51 = .ok (.iload 8, 2) := by decide +kernel
theorem dX9_aheadWith_53 : decode cX9_aheadWith 53 = .ok (.invokevirtual 304, 3) := by decide +kernel
theorem dX9_aheadWith_56 : decode cX9_aheadWith 56 = .ok (.aload_n 0, 1) := by decide +kernel
theorem dX9_aheadWith_57 : decode cX9_aheadWith 57 = .ok (.iload 8, 2) := by decide +kernel
theorem dX9_aheadWith_59 : decode cX9_aheadWith 59 = .ok (.invokevirtual 304, 3) := by decide +kernel
theorem dX9_aheadWith_62 : decode cX9_aheadWith 62 = .ok (.lload_n 2, 1) := by decide +kernel
theorem dX9_aheadWith_63 : decode cX9_aheadWith 63 = .ok (.lmul, 1) := by decide +kernel
theorem dX9_aheadWith_64 : decode cX9_aheadWith 64 = .ok (.lload 4, 2) := by decide +kernel
theorem dX9_aheadWith_66 : decode cX9_aheadWith 66 = .ok (.ldiv, 1) := by decide +kernel
theorem dX9_aheadWith_67 : decode cX9_aheadWith 67 = .ok (.lcmp, 1) := by decide +kernel
theorem dX9_aheadWith_68 : decode cX9_aheadWith 68 = .ok (.ifCond .le 9, 3) := by decide +kernel
theorem dX9_aheadWith_71 : decode cX9_aheadWith 71 = .ok (.lload 6, 2) := by decide +kernel
theorem dX9_aheadWith_73 : decode cX9_aheadWith 73 = .ok (.lconst 1, 1) := by decide +kernel
theorem dX9_aheadWith_74 : decode cX9_aheadWith 74 = .ok (.ladd, 1) := by decide +kernel
theorem dX9_aheadWith_75 : decode cX9_aheadWith 75 = .ok (.lstore 6, 2) := by decide +kernel
theorem dX9_aheadWith_77 : decode cX9_aheadWith 77 = .ok (.iinc 8 1, 3) := by decide +kernel
theorem dX9_aheadWith_80 : decode cX9_aheadWith 80 = .ok (.goto (-74), 3) := by decide +kernel
theorem dX9_aheadWith_83 : decode cX9_aheadWith 83 = .ok (.lload 6, 2) := by decide +kernel
theorem dX9_aheadWith_85 : decode cX9_aheadWith 85 = .ok (.lreturn, 1) := by decide +kernel
theorem dX9_partsOf_0 : decode cX9_partsOf 0 = .ok (.lconst 0, 1) := by decide +kernel
theorem dX9_partsOf_1 : decode cX9_partsOf 1 = .ok (.lstore 7, 2) := by decide +kernel
theorem dX9_partsOf_3 : decode cX9_partsOf 3 = .ok (.iconst 0, 1) := by decide +kernel
theorem dX9_partsOf_4 : decode cX9_partsOf 4 = .ok (.istore 9, 2) := by decide +kernel
theorem dX9_partsOf_6 : decode cX9_partsOf 6 = .ok (.iload 9, 2) := by decide +kernel
theorem dX9_partsOf_8 : decode cX9_partsOf 8 = .ok (.i2l, 1) := by decide +kernel
theorem dX9_partsOf_9 : decode cX9_partsOf 9 = .ok (.aload_n 0, 1) := by decide +kernel
theorem dX9_partsOf_10 : decode cX9_partsOf 10 = .ok (.bipush 6, 2) := by decide +kernel
theorem dX9_partsOf_12 : decode cX9_partsOf 12 = .ok (.invokevirtual 38, 3) := by decide +kernel
theorem dX9_partsOf_15 : decode cX9_partsOf 15 = .ok (.lcmp, 1) := by decide +kernel
theorem dX9_partsOf_16 : decode cX9_partsOf 16 = .ok (.ifCond .ge 40, 3) := by decide +kernel
theorem dX9_partsOf_19 : decode cX9_partsOf 19 = .ok (.lload 7, 2) := by decide +kernel
theorem dX9_partsOf_21 : decode cX9_partsOf 21 = .ok (.aload_n 0, 1) := by decide +kernel
theorem dX9_partsOf_22 : decode cX9_partsOf 22 = .ok (.iload 9, 2) := by decide +kernel
theorem dX9_partsOf_24 : decode cX9_partsOf 24 = .ok (.invokevirtual 307, 3) := by decide +kernel
theorem dX9_partsOf_27 : decode cX9_partsOf 27 = .ok (.lload_n 1, 1) := by decide +kernel
theorem dX9_partsOf_28 : decode cX9_partsOf 28 = .ok (.lcmp, 1) := by decide +kernel
theorem dX9_partsOf_29 : decode cX9_partsOf 29 = .ok (.ifCond .ne 17, 3) := by decide +kernel
theorem dX9_partsOf_32 : decode cX9_partsOf 32 = .ok (.aload_n 0, 1) := by decide +kernel
theorem dX9_partsOf_33 : decode cX9_partsOf 33 = .ok (.iload 9, 2) := by decide +kernel
theorem dX9_partsOf_35 : decode cX9_partsOf 35 = .ok (.invokevirtual 304, 3) := by decide +kernel
theorem dX9_partsOf_38 : decode cX9_partsOf 38 = .ok (.lload_n 3, 1) := by decide +kernel
theorem dX9_partsOf_39 : decode cX9_partsOf 39 = .ok (.lmul, 1) := by decide +kernel
theorem dX9_partsOf_40 : decode cX9_partsOf 40 = .ok (.lload 5, 2) := by decide +kernel
theorem dX9_partsOf_42 : decode cX9_partsOf 42 = .ok (.ldiv, 1) := by decide +kernel
theorem dX9_partsOf_43 : decode cX9_partsOf 43 = .ok (.goto 4, 3) := by decide +kernel
theorem dX9_partsOf_46 : decode cX9_partsOf 46 = .ok (.lconst 0, 1) := by decide +kernel
theorem dX9_partsOf_47 : decode cX9_partsOf 47 = .ok (.ladd, 1) := by decide +kernel
theorem dX9_partsOf_48 : decode cX9_partsOf 48 = .ok (.lstore 7, 2) := by decide +kernel
theorem dX9_partsOf_50 : decode cX9_partsOf 50 = .ok (.iinc 9 1, 3) := by decide +kernel
theorem dX9_partsOf_53 : decode cX9_partsOf 53 = .ok (.goto (-47), 3) := by decide +kernel
theorem dX9_partsOf_56 : decode cX9_partsOf 56 = .ok (.lload 7, 2) := by decide +kernel
theorem dX9_partsOf_58 : decode cX9_partsOf 58 = .ok (.lreturn, 1) := by decide +kernel
theorem dX9_share_0 : decode cX9_share 0 = .ok (.aload_n 0, 1) := by decide +kernel
theorem dX9_share_1 : decode cX9_share 1 = .ok (.iload_n 1, 1) := by decide +kernel
theorem dX9_share_2 : decode cX9_share 2 = .ok (.invokevirtual 301, 3) := by decide +kernel
theorem dX9_share_5 : decode cX9_share 5 = .ok (.ifCond .eq 20, 3) := by decide +kernel
theorem dX9_share_8 : decode cX9_share 8 = .ok (.aload_n 0, 1) := by decide +kernel
theorem dX9_share_9 : decode cX9_share 9 = .ok (.iload_n 2, 1) := by decide +kernel
theorem dX9_share_10 : decode cX9_share 10 = .ok (.i2l, 1) := by decide +kernel
theorem dX9_share_11 : decode cX9_share 11 = .ok (.lconst 0, 1) := by decide +kernel
theorem dX9_share_12 : decode cX9_share 12 = .ok (.ldc2_w 316, 3) := by decide +kernel
theorem dX9_share_15 : decode cX9_share 15 = .ok (.invokestatic 98, 3) := by decide +kernel
theorem dX9_share_18 : decode cX9_share 18 = .ok (.iconst 2, 1) := by decide +kernel
theorem dX9_share_19 : decode cX9_share 19 = .ok (.invokevirtual 173, 3) := by decide +kernel
theorem dX9_share_22 : decode cX9_share 22 = .ok (.ifCond .ne 5, 3) := by decide +kernel
theorem dX9_share_25 : decode cX9_share 25 = .ok (.lconst 0, 1) := by decide +kernel
theorem dX9_share_26 : decode cX9_share 26 = .ok (.lreturn, 1) := by decide +kernel
theorem dX9_share_27 : decode cX9_share 27 = .ok (.iload_n 2, 1) := by decide +kernel
theorem dX9_share_28 : decode cX9_share 28 = .ok (.i2l, 1) := by decide +kernel
theorem dX9_share_29 : decode cX9_share 29 = .ok (.lstore_n 3, 1) := by decide +kernel
theorem dX9_share_30 : decode cX9_share 30 = .ok (.lconst 0, 1) := by decide +kernel
theorem dX9_share_31 : decode cX9_share 31 = .ok (.lstore 5, 2) := by decide +kernel
theorem dX9_share_33 : decode cX9_share 33 = .ok (.lload 5, 2) := by decide +kernel
theorem dX9_share_35 : decode cX9_share 35 = .ok (.aload_n 0, 1) := by decide +kernel
theorem dX9_share_36 : decode cX9_share 36 = .ok (.iload_n 1, 1) := by decide +kernel
theorem dX9_share_37 : decode cX9_share 37 = .ok (.invokevirtual 307, 3) := by decide +kernel
theorem dX9_share_40 : decode cX9_share 40 = .ok (.lcmp, 1) := by decide +kernel
theorem dX9_share_41 : decode cX9_share 41 = .ok (.ifCond .ge 25, 3) := by decide +kernel
theorem dX9_share_44 : decode cX9_share 44 = .ok (.lconst 0, 1) := by decide +kernel
theorem dX9_share_45 : decode cX9_share 45 = .ok (.lload_n 3, 1) := by decide +kernel
theorem dX9_share_46 : decode cX9_share 46 = .ok (.aload_n 0, 1) := by decide +kernel
theorem dX9_share_47 : decode cX9_share 47 = .ok (.lload 5, 2) := by decide +kernel
theorem dX9_share_49 : decode cX9_share 49 = .ok (.invokevirtual 318, 3) := by decide +kernel
theorem dX9_share_52 : decode cX9_share 52 = .ok (.lsub, 1) := by decide +kernel
theorem dX9_share_53 : decode cX9_share 53 = .ok (.invokestatic 213, 3) := by decide +kernel
theorem dX9_share_56 : decode cX9_share 56 = .ok (.lstore_n 3, 1) := by decide +kernel
theorem dX9_share_57 : decode cX9_share 57 = .ok (.lload 5, 2) := by decide +kernel
theorem dX9_share_59 : decode cX9_share 59 = .ok (.lconst 1, 1) := by decide +kernel
theorem dX9_share_60 : decode cX9_share 60 = .ok (.ladd, 1) := by decide +kernel
theorem dX9_share_61 : decode cX9_share 61 = .ok (.lstore 5, 2) := by decide +kernel
theorem dX9_share_63 : decode cX9_share 63 = .ok (.goto (-30), 3) := by decide +kernel
theorem dX9_share_66 : decode cX9_share 66 = .ok (.aload_n 0, 1) := by decide +kernel
theorem dX9_share_67 : decode cX9_share 67 = .ok (.aload_n 0, 1) := by decide +kernel
theorem dX9_share_68 : decode cX9_share 68 = .ok (.iload_n 1, 1) := by decide +kernel
theorem dX9_share_69 : decode cX9_share 69 = .ok (.invokevirtual 307, 3) := by decide +kernel
theorem dX9_share_72 : decode cX9_share 72 = .ok (.invokevirtual 318, 3) := by decide +kernel
theorem dX9_share_75 : decode cX9_share 75 = .ok (.lstore 5, 2) := by decide +kernel
theorem dX9_share_77 : decode cX9_share 77 = .ok (.lload_n 3, 1) := by decide +kernel
theorem dX9_share_78 : decode cX9_share 78 = .ok (.lload 5, 2) := by decide +kernel
theorem dX9_share_80 : decode cX9_share 80 = .ok (.lcmp, 1) := by decide +kernel
theorem dX9_share_81 : decode cX9_share 81 = .ok (.ifCond .lt 9, 3) := by decide +kernel
theorem dX9_share_84 : decode cX9_share 84 = .ok (.aload_n 0, 1) := by decide +kernel
theorem dX9_share_85 : decode cX9_share 85 = .ok (.iload_n 1, 1) := by decide +kernel
theorem dX9_share_86 : decode cX9_share 86 = .ok (.invokevirtual 304, 3) := by decide +kernel
theorem dX9_share_89 : decode cX9_share 89 = .ok (.lreturn, 1) := by decide +kernel
theorem dX9_share_90 : decode cX9_share 90 = .ok (.aload_n 0, 1) := by decide +kernel
theorem dX9_share_91 : decode cX9_share 91 = .ok (.iload_n 1, 1) := by decide +kernel
theorem dX9_share_92 : decode cX9_share 92 = .ok (.invokevirtual 304, 3) := by decide +kernel
theorem dX9_share_95 : decode cX9_share 95 = .ok (.lload_n 3, 1) := by decide +kernel
theorem dX9_share_96 : decode cX9_share 96 = .ok (.lmul, 1) := by decide +kernel
theorem dX9_share_97 : decode cX9_share 97 = .ok (.lload 5, 2) := by decide +kernel
theorem dX9_share_99 : decode cX9_share 99 = .ok (.ldiv, 1) := by decide +kernel
theorem dX9_share_100 : decode cX9_share 100 = .ok (.lstore 7, 2) := by decide +kernel
theorem dX9_share_102 : decode cX9_share 102 = .ok (.lload_n 3, 1) := by decide +kernel
theorem dX9_share_103 : decode cX9_share 103 = .ok (.aload_n 0, 1) := by decide +kernel
theorem dX9_share_104 : decode cX9_share 104 = .ok (.aload_n 0, 1) := by decide +kernel
theorem dX9_share_105 : decode cX9_share 105 = .ok (.iload_n 1, 1) := by decide +kernel
theorem dX9_share_106 : decode cX9_share 106 = .ok (.invokevirtual 307, 3) := by decide +kernel
theorem dX9_share_109 : decode cX9_share 109 = .ok (.lload_n 3, 1) := by decide +kernel
theorem dX9_share_110 : decode cX9_share 110 = .ok (.lload 5, 2) := by decide +kernel
theorem dX9_share_112 : decode cX9_share 112 = .ok (.invokevirtual 322, 3) := by decide +kernel
theorem dX9_share_115 : decode cX9_share 115 = .ok (.lsub, 1) := by decide +kernel
theorem dX9_share_116 : decode cX9_share 116 = .ok (.lstore 9, 2) := by decide +kernel
theorem dX9_share_118 : decode cX9_share 118 = .ok (.lload 7, 2) := by decide +kernel
theorem dX9_share_120 : decode cX9_share 120 = .ok (.aload_n 0, 1) := by decide +kernel
theorem dX9_share_121 : decode cX9_share 121 = .ok (.iload_n 1, 1) := by decide +kernel
theorem dX9_share_122 : decode cX9_share 122 = .ok (.invokevirtual 304, 3) := by decide +kernel
theorem dX9_share_125 : decode cX9_share 125 = .ok (.lload 7, 2) := by decide +kernel
theorem dX9_share_127 : decode cX9_share 127 = .ok (.lcmp, 1) := by decide +kernel
theorem dX9_share_128 : decode cX9_share 128 = .ok (.ifCond .le 21, 3) := by decide +kernel
theorem dX9_share_131 : decode cX9_share 131 = .ok (.aload_n 0, 1) := by decide +kernel
theorem dX9_share_132 : decode cX9_share 132 = .ok (.iload_n 1, 1) := by decide +kernel
theorem dX9_share_133 : decode cX9_share 133 = .ok (.lload_n 3, 1) := by decide +kernel
theorem dX9_share_134 : decode cX9_share 134 = .ok (.lload 5, 2) := by decide +kernel
theorem dX9_share_136 : decode cX9_share 136 = .ok (.invokevirtual 325, 3) := by decide +kernel
theorem dX9_share_139 : decode cX9_share 139 = .ok (.lload 9, 2) := by decide +kernel
theorem dX9_share_141 : decode cX9_share 141 = .ok (.lcmp, 1) := by decide +kernel
theorem dX9_share_142 : decode cX9_share 142 = .ok (.ifCond .ge 7, 3) := by decide +kernel
theorem dX9_share_145 : decode cX9_share 145 = .ok (.lconst 1, 1) := by decide +kernel
theorem dX9_share_146 : decode cX9_share 146 = .ok (.goto 4, 3) := by decide +kernel
theorem dX9_share_149 : decode cX9_share 149 = .ok (.lconst 0, 1) := by decide +kernel
theorem dX9_share_150 : decode cX9_share 150 = .ok (.ladd, 1) := by decide +kernel
theorem dX9_share_151 : decode cX9_share 151 = .ok (.lreturn, 1) := by decide +kernel
theorem dX9_measure_0 : decode cX9_measure 0 = .ok (.aload_n 0, 1) := by decide +kernel
theorem dX9_measure_1 : decode cX9_measure 1 = .ok (.iload_n 1, 1) := by decide +kernel
theorem dX9_measure_2 : decode cX9_measure 2 = .ok (.iload_n 2, 1) := by decide +kernel
theorem dX9_measure_3 : decode cX9_measure 3 = .ok (.invokevirtual 234, 3) := by decide +kernel
theorem dX9_measure_6 : decode cX9_measure 6 = .ok (.ifCond .eq 20, 3) := by decide +kernel
theorem dX9_measure_9 : decode cX9_measure 9 = .ok (.aload_n 0, 1) := by decide +kernel
theorem dX9_measure_10 : decode cX9_measure 10 = .ok (.iload_n 3, 1) := by decide +kernel
theorem dX9_measure_11 : decode cX9_measure 11 = .ok (.i2l, 1) := by decide +kernel
theorem dX9_measure_12 : decode cX9_measure 12 = .ok (.lconst 0, 1) := by decide +kernel
theorem dX9_measure_13 : decode cX9_measure 13 = .ok (.ldc2_w 207, 3) := by decide +kernel
theorem dX9_measure_16 : decode cX9_measure 16 = .ok (.invokestatic 98, 3) := by decide +kernel
theorem dX9_measure_19 : decode cX9_measure 19 = .ok (.iconst 2, 1) := by decide +kernel
theorem dX9_measure_20 : decode cX9_measure 20 = .ok (.invokevirtual 173, 3) := by decide +kernel
theorem dX9_measure_23 : decode cX9_measure 23 = .ok (.ifCond .ne 5, 3) := by decide +kernel
theorem dX9_measure_26 : decode cX9_measure 26 = .ok (.iconst 0, 1) := by decide +kernel
theorem dX9_measure_27 : decode cX9_measure 27 = .ok (.ireturn, 1) := by decide +kernel
theorem dX9_measure_28 : decode cX9_measure 28 = .ok (.aload_n 0, 1) := by decide +kernel
theorem dX9_measure_29 : decode cX9_measure 29 = .ok (.aload_n 0, 1) := by decide +kernel
theorem dX9_measure_30 : decode cX9_measure 30 = .ok (.iload_n 1, 1) := by decide +kernel
theorem dX9_measure_31 : decode cX9_measure 31 = .ok (.iload_n 2, 1) := by decide +kernel
theorem dX9_measure_32 : decode cX9_measure 32 = .ok (.invokevirtual 204, 3) := by decide +kernel
theorem dX9_measure_35 : decode cX9_measure 35 = .ok (.iconst 2, 1) := by decide +kernel
theorem dX9_measure_36 : decode cX9_measure 36 = .ok (.iadd, 1) := by decide +kernel
theorem dX9_measure_37 : decode cX9_measure 37 = .ok (.invokevirtual 187, 3) := by decide +kernel
theorem dX9_measure_40 : decode cX9_measure 40 = .ok (.istore 4, 2) := by decide +kernel
theorem dX9_measure_42 : decode cX9_measure 42 = .ok (.aload_n 0, 1) := by decide +kernel
theorem dX9_measure_43 : decode cX9_measure 43 = .ok (.invokevirtual 180, 3) := by decide +kernel
theorem dX9_measure_46 : decode cX9_measure 46 = .ok (.aload_n 0, 1) := by decide +kernel
theorem dX9_measure_47 : decode cX9_measure 47 = .ok (.aload_n 0, 1) := by decide +kernel
theorem dX9_measure_48 : decode cX9_measure 48 = .ok (.iload_n 1, 1) := by decide +kernel
theorem dX9_measure_49 : decode cX9_measure 49 = .ok (.iload_n 2, 1) := by decide +kernel
theorem dX9_measure_50 : decode cX9_measure 50 = .ok (.invokevirtual 204, 3) := by decide +kernel
theorem dX9_measure_53 : decode cX9_measure 53 = .ok (.iconst 2, 1) := by decide +kernel
theorem dX9_measure_54 : decode cX9_measure 54 = .ok (.iadd, 1) := by decide +kernel
theorem dX9_measure_55 : decode cX9_measure 55 = .ok (.iload_n 3, 1) := by decide +kernel
theorem dX9_measure_56 : decode cX9_measure 56 = .ok (.i2l, 1) := by decide +kernel
theorem dX9_measure_57 : decode cX9_measure 57 = .ok (.invokevirtual 183, 3) := by decide +kernel
theorem dX9_measure_60 : decode cX9_measure 60 = .ok (.iload 4, 2) := by decide +kernel
theorem dX9_measure_62 : decode cX9_measure 62 = .ok (.ireturn, 1) := by decide +kernel
theorem dX9_propose_0 : decode cX9_propose 0 = .ok (.aload_n 0, 1) := by decide +kernel
theorem dX9_propose_1 : decode cX9_propose 1 = .ok (.iload_n 1, 1) := by decide +kernel
theorem dX9_propose_2 : decode cX9_propose 2 = .ok (.iload_n 2, 1) := by decide +kernel
theorem dX9_propose_3 : decode cX9_propose 3 = .ok (.invokevirtual 234, 3) := by decide +kernel
theorem dX9_propose_6 : decode cX9_propose 6 = .ok (.ifCond .eq 59, 3) := by decide +kernel
theorem dX9_propose_9 : decode cX9_propose 9 = .ok (.aload_n 0, 1) := by decide +kernel
theorem dX9_propose_10 : decode cX9_propose 10 = .ok (.iload_n 3, 1) := by decide +kernel
theorem dX9_propose_11 : decode cX9_propose 11 = .ok (.i2l, 1) := by decide +kernel
theorem dX9_propose_12 : decode cX9_propose 12 = .ok (.ldc2_w 329, 3) := by decide +kernel
theorem dX9_propose_15 : decode cX9_propose 15 = .ok (.ldc2_w 331, 3) := by decide +kernel
theorem dX9_propose_18 : decode cX9_propose 18 = .ok (.invokestatic 98, 3) := by decide +kernel
theorem dX9_propose_21 : decode cX9_propose 21 = .ok (.ifCond .eq 11, 3) := by decide +kernel
theorem dX9_propose_24 : decode cX9_propose 24 = .ok (.iload_n 3, 1) := by decide +kernel
theorem dX9_propose_25 : decode cX9_propose 25 = .ok (.ifCond .eq 7, 3) := by decide +kernel
theorem dX9_propose_28 : decode cX9_propose 28 = .ok (.iconst 1, 1) := by decide +kernel
theorem dX9_propose_29 : decode cX9_propose 29 = .ok (.goto 4, 3) := by decide +kernel
theorem dX9_propose_32 : decode cX9_propose 32 = .ok (.iconst 0, 1) := by decide +kernel
theorem dX9_propose_33 : decode cX9_propose 33 = .ok (.iconst 2, 1) := by decide +kernel
theorem dX9_propose_34 : decode cX9_propose 34 = .ok (.invokevirtual 173, 3) := by decide +kernel
theorem dX9_propose_37 : decode cX9_propose 37 = .ok (.ifCond .eq 28, 3) := by decide +kernel
theorem dX9_propose_40 : decode cX9_propose 40 = .ok (.aload_n 0, 1) := by decide +kernel
theorem dX9_propose_41 : decode cX9_propose 41 = .ok (.aload_n 0, 1) := by decide +kernel
theorem dX9_propose_42 : decode cX9_propose 42 = .ok (.iconst 4, 1) := by decide +kernel
theorem dX9_propose_43 : decode cX9_propose 43 = .ok (.invokevirtual 38, 3) := by decide +kernel
theorem dX9_propose_46 : decode cX9_propose 46 = .ok (.ldc2_w 333, 3) := by decide +kernel
theorem dX9_propose_49 : decode cX9_propose 49 = .ok (.lcmp, 1) := by decide +kernel
theorem dX9_propose_50 : decode cX9_propose 50 = .ok (.ifCond .ge 7, 3) := by decide +kernel
theorem dX9_propose_53 : decode cX9_propose 53 = .ok (.iconst 1, 1) := by decide +kernel
theorem dX9_propose_54 : decode cX9_propose 54 = .ok (.goto 4, 3) := by decide +kernel
theorem dX9_propose_57 : decode cX9_propose 57 = .ok (.iconst 0, 1) := by decide +kernel
theorem dX9_propose_58 : decode cX9_propose 58 = .ok (.iconst 3, 1) := by decide +kernel
theorem dX9_propose_59 : decode cX9_propose 59 = .ok (.invokevirtual 173, 3) := by decide +kernel
theorem dX9_propose_62 : decode cX9_propose 62 = .ok (.ifCond .ne 5, 3) := by decide +kernel
theorem dX9_propose_65 : decode cX9_propose 65 = .ok (.iconst 0, 1) := by decide +kernel
theorem dX9_propose_66 : decode cX9_propose 66 = .ok (.ireturn, 1) := by decide +kernel
theorem dX9_propose_67 : decode cX9_propose 67 = .ok (.aload_n 0, 1) := by decide +kernel
theorem dX9_propose_68 : decode cX9_propose 68 = .ok (.invokevirtual 180, 3) := by decide +kernel
theorem dX9_propose_71 : decode cX9_propose 71 = .ok (.sipush 230, 3) := by decide +kernel
theorem dX9_propose_74 : decode cX9_propose 74 = .ok (.iconst 4, 1) := by decide +kernel
theorem dX9_propose_75 : decode cX9_propose 75 = .ok (.aload_n 0, 1) := by decide +kernel
theorem dX9_propose_76 : decode cX9_propose 76 = .ok (.iconst 4, 1) := by decide +kernel
theorem dX9_propose_77 : decode cX9_propose 77 = .ok (.invokevirtual 187, 3) := by decide +kernel
theorem dX9_propose_80 : decode cX9_propose 80 = .ok (.imul, 1) := by decide +kernel
theorem dX9_propose_81 : decode cX9_propose 81 = .ok (.iadd, 1) := by decide +kernel
theorem dX9_propose_82 : decode cX9_propose 82 = .ok (.istore 4, 2) := by decide +kernel
theorem dX9_propose_84 : decode cX9_propose 84 = .ok (.aload_n 0, 1) := by decide +kernel
theorem dX9_propose_85 : decode cX9_propose 85 = .ok (.iload 4, 2) := by decide +kernel
theorem dX9_propose_87 : decode cX9_propose 87 = .ok (.iload_n 1, 1) := by decide +kernel
theorem dX9_propose_88 : decode cX9_propose 88 = .ok (.i2l, 1) := by decide +kernel
theorem dX9_propose_89 : decode cX9_propose 89 = .ok (.invokevirtual 183, 3) := by decide +kernel
theorem dX9_propose_92 : decode cX9_propose 92 = .ok (.aload_n 0, 1) := by decide +kernel
theorem dX9_propose_93 : decode cX9_propose 93 = .ok (.iload 4, 2) := by decide +kernel
theorem dX9_propose_95 : decode cX9_propose 95 = .ok (.iconst 1, 1) := by decide +kernel
theorem dX9_propose_96 : decode cX9_propose 96 = .ok (.iadd, 1) := by decide +kernel
theorem dX9_propose_97 : decode cX9_propose 97 = .ok (.iload_n 2, 1) := by decide +kernel
theorem dX9_propose_98 : decode cX9_propose 98 = .ok (.i2l, 1) := by decide +kernel
theorem dX9_propose_99 : decode cX9_propose 99 = .ok (.invokevirtual 183, 3) := by decide +kernel
theorem dX9_propose_102 : decode cX9_propose 102 = .ok (.aload_n 0, 1) := by decide +kernel
theorem dX9_propose_103 : decode cX9_propose 103 = .ok (.iload 4, 2) := by decide +kernel
theorem dX9_propose_105 : decode cX9_propose 105 = .ok (.iconst 2, 1) := by decide +kernel
theorem dX9_propose_106 : decode cX9_propose 106 = .ok (.iadd, 1) := by decide +kernel
theorem dX9_propose_107 : decode cX9_propose 107 = .ok (.iload_n 3, 1) := by decide +kernel
theorem dX9_propose_108 : decode cX9_propose 108 = .ok (.i2l, 1) := by decide +kernel
theorem dX9_propose_109 : decode cX9_propose 109 = .ok (.invokevirtual 183, 3) := by decide +kernel
theorem dX9_propose_112 : decode cX9_propose 112 = .ok (.aload_n 0, 1) := by decide +kernel
theorem dX9_propose_113 : decode cX9_propose 113 = .ok (.iload 4, 2) := by decide +kernel
theorem dX9_propose_115 : decode cX9_propose 115 = .ok (.iconst 3, 1) := by decide +kernel
theorem dX9_propose_116 : decode cX9_propose 116 = .ok (.iadd, 1) := by decide +kernel
theorem dX9_propose_117 : decode cX9_propose 117 = .ok (.lconst 0, 1) := by decide +kernel
theorem dX9_propose_118 : decode cX9_propose 118 = .ok (.invokevirtual 183, 3) := by decide +kernel
theorem dX9_propose_121 : decode cX9_propose 121 = .ok (.aload_n 0, 1) := by decide +kernel
theorem dX9_propose_122 : decode cX9_propose 122 = .ok (.iconst 4, 1) := by decide +kernel
theorem dX9_propose_123 : decode cX9_propose 123 = .ok (.aload_n 0, 1) := by decide +kernel
theorem dX9_propose_124 : decode cX9_propose 124 = .ok (.iconst 4, 1) := by decide +kernel
theorem dX9_propose_125 : decode cX9_propose 125 = .ok (.invokevirtual 38, 3) := by decide +kernel
theorem dX9_propose_128 : decode cX9_propose 128 = .ok (.lconst 1, 1) := by decide +kernel
theorem dX9_propose_129 : decode cX9_propose 129 = .ok (.ladd, 1) := by decide +kernel
theorem dX9_propose_130 : decode cX9_propose 130 = .ok (.invokevirtual 183, 3) := by decide +kernel
theorem dX9_propose_133 : decode cX9_propose 133 = .ok (.aload_n 0, 1) := by decide +kernel
theorem dX9_propose_134 : decode cX9_propose 134 = .ok (.iconst 4, 1) := by decide +kernel
theorem dX9_propose_135 : decode cX9_propose 135 = .ok (.invokevirtual 187, 3) := by decide +kernel
theorem dX9_propose_138 : decode cX9_propose 138 = .ok (.iconst 1, 1) := by decide +kernel
theorem dX9_propose_139 : decode cX9_propose 139 = .ok (.isub, 1) := by decide +kernel
theorem dX9_propose_140 : decode cX9_propose 140 = .ok (.ireturn, 1) := by decide +kernel
theorem dX9_approve_0 : decode cX9_approve 0 = .ok (.aload_n 0, 1) := by decide +kernel
theorem dX9_approve_1 : decode cX9_approve 1 = .ok (.iload_n 1, 1) := by decide +kernel
theorem dX9_approve_2 : decode cX9_approve 2 = .ok (.invokevirtual 292, 3) := by decide +kernel
theorem dX9_approve_5 : decode cX9_approve 5 = .ok (.ifCond .eq 44, 3) := by decide +kernel
theorem dX9_approve_8 : decode cX9_approve 8 = .ok (.aload_n 0, 1) := by decide +kernel
theorem dX9_approve_9 : decode cX9_approve 9 = .ok (.aload_n 0, 1) := by decide +kernel
theorem dX9_approve_10 : decode cX9_approve 10 = .ok (.sipush 230, 3) := by decide +kernel
theorem dX9_approve_13 : decode cX9_approve 13 = .ok (.iconst 4, 1) := by decide +kernel
theorem dX9_approve_14 : decode cX9_approve 14 = .ok (.iload_n 1, 1) := by decide +kernel
theorem dX9_approve_15 : decode cX9_approve 15 = .ok (.imul, 1) := by decide +kernel
theorem dX9_approve_16 : decode cX9_approve 16 = .ok (.iadd, 1) := by decide +kernel
theorem dX9_approve_17 : decode cX9_approve 17 = .ok (.iconst 3, 1) := by decide +kernel
theorem dX9_approve_18 : decode cX9_approve 18 = .ok (.iadd, 1) := by decide +kernel
theorem dX9_approve_19 : decode cX9_approve 19 = .ok (.invokevirtual 38, 3) := by decide +kernel
theorem dX9_approve_22 : decode cX9_approve 22 = .ok (.lconst 0, 1) := by decide +kernel
theorem dX9_approve_23 : decode cX9_approve 23 = .ok (.lcmp, 1) := by decide +kernel
theorem dX9_approve_24 : decode cX9_approve 24 = .ok (.ifCond .ne 17, 3) := by decide +kernel
theorem dX9_approve_27 : decode cX9_approve 27 = .ok (.aload_n 0, 1) := by decide +kernel
theorem dX9_approve_28 : decode cX9_approve 28 = .ok (.iload_n 1, 1) := by decide +kernel
theorem dX9_approve_29 : decode cX9_approve 29 = .ok (.invokevirtual 295, 3) := by decide +kernel
theorem dX9_approve_32 : decode cX9_approve 32 = .ok (.lconst 0, 1) := by decide +kernel
theorem dX9_approve_33 : decode cX9_approve 33 = .ok (.lcmp, 1) := by decide +kernel
theorem dX9_approve_34 : decode cX9_approve 34 = .ok (.ifCond .lt 7, 3) := by decide +kernel
theorem dX9_approve_37 : decode cX9_approve 37 = .ok (.iconst 1, 1) := by decide +kernel
theorem dX9_approve_38 : decode cX9_approve 38 = .ok (.goto 4, 3) := by decide +kernel
theorem dX9_approve_41 : decode cX9_approve 41 = .ok (.iconst 0, 1) := by decide +kernel
theorem dX9_approve_42 : decode cX9_approve 42 = .ok (.iconst 2, 1) := by decide +kernel
theorem dX9_approve_43 : decode cX9_approve 43 = .ok (.invokevirtual 173, 3) := by decide +kernel
theorem dX9_approve_46 : decode cX9_approve 46 = .ok (.ifCond .ne 5, 3) := by decide +kernel
theorem dX9_approve_49 : decode cX9_approve 49 = .ok (.iconst 0, 1) := by decide +kernel
theorem dX9_approve_50 : decode cX9_approve 50 = .ok (.ireturn, 1) := by decide +kernel
theorem dX9_approve_51 : decode cX9_approve 51 = .ok (.aload_n 0, 1) := by decide +kernel
theorem dX9_approve_52 : decode cX9_approve 52 = .ok (.iload_n 1, 1) := by decide +kernel
theorem dX9_approve_53 : decode cX9_approve 53 = .ok (.invokevirtual 295, 3) := by decide +kernel
theorem dX9_approve_56 : decode cX9_approve 56 = .ok (.l2i, 1) := by decide +kernel
theorem dX9_approve_57 : decode cX9_approve 57 = .ok (.istore_n 2, 1) := by decide +kernel
theorem dX9_approve_58 : decode cX9_approve 58 = .ok (.aload_n 0, 1) := by decide +kernel
theorem dX9_approve_59 : decode cX9_approve 59 = .ok (.invokevirtual 180, 3) := by decide +kernel
theorem dX9_approve_62 : decode cX9_approve 62 = .ok (.aload_n 0, 1) := by decide +kernel
theorem dX9_approve_63 : decode cX9_approve 63 = .ok (.sipush 230, 3) := by decide +kernel
theorem dX9_approve_66 : decode cX9_approve 66 = .ok (.iconst 4, 1) := by decide +kernel
theorem dX9_approve_67 : decode cX9_approve 67 = .ok (.iload_n 1, 1) := by decide +kernel
theorem dX9_approve_68 : decode cX9_approve 68 = .ok (.imul, 1) := by decide +kernel
theorem dX9_approve_69 : decode cX9_approve 69 = .ok (.iadd, 1) := by decide +kernel
theorem dX9_approve_70 : decode cX9_approve 70 = .ok (.iconst 3, 1) := by decide +kernel
theorem dX9_approve_71 : decode cX9_approve 71 = .ok (.iadd, 1) := by decide +kernel
theorem dX9_approve_72 : decode cX9_approve 72 = .ok (.lconst 1, 1) := by decide +kernel
theorem dX9_approve_73 : decode cX9_approve 73 = .ok (.invokevirtual 183, 3) := by decide +kernel
theorem dX9_approve_76 : decode cX9_approve 76 = .ok (.iload_n 2, 1) := by decide +kernel
theorem dX9_approve_77 : decode cX9_approve 77 = .ok (.ireturn, 1) := by decide +kernel
theorem dX9_certify_0 : decode cX9_certify 0 = .ok (.aload_n 0, 1) := by decide +kernel
theorem dX9_certify_1 : decode cX9_certify 1 = .ok (.iload_n 1, 1) := by decide +kernel
theorem dX9_certify_2 : decode cX9_certify 2 = .ok (.invokevirtual 230, 3) := by decide +kernel
theorem dX9_certify_5 : decode cX9_certify 5 = .ok (.ifCond .ne 5, 3) := by decide +kernel
theorem dX9_certify_8 : decode cX9_certify 8 = .ok (.iconst 0, 1) := by decide +kernel
theorem dX9_certify_9 : decode cX9_certify 9 = .ok (.ireturn, 1) := by decide +kernel
theorem dX9_certify_10 : decode cX9_certify 10 = .ok (.aload_n 0, 1) := by decide +kernel
theorem dX9_certify_11 : decode cX9_certify 11 = .ok (.iload_n 1, 1) := by decide +kernel
theorem dX9_certify_12 : decode cX9_certify 12 = .ok (.invokevirtual 240, 3) := by decide +kernel
theorem dX9_certify_15 : decode cX9_certify 15 = .ok (.aload_n 0, 1) := by decide +kernel
theorem dX9_certify_16 : decode cX9_certify 16 = .ok (.iload_n 1, 1) := by decide +kernel
theorem dX9_certify_17 : decode cX9_certify 17 = .ok (.invokevirtual 251, 3) := by decide +kernel
theorem dX9_certify_20 : decode cX9_certify 20 = .ok (.lsub, 1) := by decide +kernel
theorem dX9_certify_21 : decode cX9_certify 21 = .ok (.aload_n 0, 1) := by decide +kernel
theorem dX9_certify_22 : decode cX9_certify 22 = .ok (.iload_n 1, 1) := by decide +kernel
theorem dX9_certify_23 : decode cX9_certify 23 = .ok (.invokevirtual 264, 3) := by decide +kernel
theorem dX9_certify_26 : decode cX9_certify 26 = .ok (.lsub, 1) := by decide +kernel
theorem dX9_certify_27 : decode cX9_certify 27 = .ok (.lstore_n 2, 1) := by decide +kernel
theorem dX9_certify_28 : decode cX9_certify 28 = .ok (.aload_n 0, 1) := by decide +kernel
theorem dX9_certify_29 : decode cX9_certify 29 = .ok (.lload_n 2, 1) := by decide +kernel
theorem dX9_certify_30 : decode cX9_certify 30 = .ok (.lconst 0, 1) := by decide +kernel
theorem dX9_certify_31 : decode cX9_certify 31 = .ok (.lcmp, 1) := by decide +kernel
theorem dX9_certify_32 : decode cX9_certify 32 = .ok (.ifCond .le 19, 3) := by decide +kernel
theorem dX9_certify_35 : decode cX9_certify 35 = .ok (.aload_n 0, 1) := by decide +kernel
theorem dX9_certify_36 : decode cX9_certify 36 = .ok (.iconst 5, 1) := by decide +kernel
theorem dX9_certify_37 : decode cX9_certify 37 = .ok (.invokevirtual 38, 3) := by decide +kernel
theorem dX9_certify_40 : decode cX9_certify 40 = .ok (.ldc2_w 335, 3) := by decide +kernel
theorem dX9_certify_43 : decode cX9_certify 43 = .ok (.lcmp, 1) := by decide +kernel
theorem dX9_certify_44 : decode cX9_certify 44 = .ok (.ifCond .ge 7, 3) := by decide +kernel
theorem dX9_certify_47 : decode cX9_certify 47 = .ok (.iconst 1, 1) := by decide +kernel
theorem dX9_certify_48 : decode cX9_certify 48 = .ok (.goto 4, 3) := by decide +kernel
theorem dX9_certify_51 : decode cX9_certify 51 = .ok (.iconst 0, 1) := by decide +kernel
theorem dX9_certify_52 : decode cX9_certify 52 = .ok (.iconst 2, 1) := by decide +kernel
theorem dX9_certify_53 : decode cX9_certify 53 = .ok (.invokevirtual 173, 3) := by decide +kernel
theorem dX9_certify_56 : decode cX9_certify 56 = .ok (.ifCond .ne 5, 3) := by decide +kernel
theorem dX9_certify_59 : decode cX9_certify 59 = .ok (.iconst 0, 1) := by decide +kernel
theorem dX9_certify_60 : decode cX9_certify 60 = .ok (.ireturn, 1) := by decide +kernel
theorem dX9_certify_61 : decode cX9_certify 61 = .ok (.aload_n 0, 1) := by decide +kernel
theorem dX9_certify_62 : decode cX9_certify 62 = .ok (.invokevirtual 180, 3) := by decide +kernel
theorem dX9_certify_65 : decode cX9_certify 65 = .ok (.aload_n 0, 1) := by decide +kernel
theorem dX9_certify_66 : decode cX9_certify 66 = .ok (.iconst 5, 1) := by decide +kernel
theorem dX9_certify_67 : decode cX9_certify 67 = .ok (.invokevirtual 187, 3) := by decide +kernel
theorem dX9_certify_70 : decode cX9_certify 70 = .ok (.invokestatic 254, 3) := by decide +kernel
theorem dX9_certify_73 : decode cX9_certify 73 = .ok (.istore 4, 2) := by decide +kernel
theorem dX9_certify_75 : decode cX9_certify 75 = .ok (.aload_n 0, 1) := by decide +kernel
theorem dX9_certify_76 : decode cX9_certify 76 = .ok (.iload 4, 2) := by decide +kernel
theorem dX9_certify_78 : decode cX9_certify 78 = .ok (.iload_n 1, 1) := by decide +kernel
theorem dX9_certify_79 : decode cX9_certify 79 = .ok (.i2l, 1) := by decide +kernel
theorem dX9_certify_80 : decode cX9_certify 80 = .ok (.invokevirtual 183, 3) := by decide +kernel
theorem dX9_certify_83 : decode cX9_certify 83 = .ok (.aload_n 0, 1) := by decide +kernel
theorem dX9_certify_84 : decode cX9_certify 84 = .ok (.iload 4, 2) := by decide +kernel
theorem dX9_certify_86 : decode cX9_certify 86 = .ok (.iconst 1, 1) := by decide +kernel
theorem dX9_certify_87 : decode cX9_certify 87 = .ok (.iadd, 1) := by decide +kernel
theorem dX9_certify_88 : decode cX9_certify 88 = .ok (.lload_n 2, 1) := by decide +kernel
theorem dX9_certify_89 : decode cX9_certify 89 = .ok (.invokevirtual 183, 3) := by decide +kernel
theorem dX9_certify_92 : decode cX9_certify 92 = .ok (.aload_n 0, 1) := by decide +kernel
theorem dX9_certify_93 : decode cX9_certify 93 = .ok (.iload 4, 2) := by decide +kernel
theorem dX9_certify_95 : decode cX9_certify 95 = .ok (.iconst 2, 1) := by decide +kernel
theorem dX9_certify_96 : decode cX9_certify 96 = .ok (.iadd, 1) := by decide +kernel
theorem dX9_certify_97 : decode cX9_certify 97 = .ok (.lconst 0, 1) := by decide +kernel
theorem dX9_certify_98 : decode cX9_certify 98 = .ok (.invokevirtual 183, 3) := by decide +kernel
theorem dX9_certify_101 : decode cX9_certify 101 = .ok (.aload_n 0, 1) := by decide +kernel
theorem dX9_certify_102 : decode cX9_certify 102 = .ok (.iload 4, 2) := by decide +kernel
theorem dX9_certify_104 : decode cX9_certify 104 = .ok (.iconst 3, 1) := by decide +kernel
theorem dX9_certify_105 : decode cX9_certify 105 = .ok (.iadd, 1) := by decide +kernel
theorem dX9_certify_106 : decode cX9_certify 106 = .ok (.aload_n 0, 1) := by decide +kernel
theorem dX9_certify_107 : decode cX9_certify 107 = .ok (.iconst 1, 1) := by decide +kernel
theorem dX9_certify_108 : decode cX9_certify 108 = .ok (.invokevirtual 38, 3) := by decide +kernel
theorem dX9_certify_111 : decode cX9_certify 111 = .ok (.invokevirtual 183, 3) := by decide +kernel
theorem dX9_certify_114 : decode cX9_certify 114 = .ok (.aload_n 0, 1) := by decide +kernel
theorem dX9_certify_115 : decode cX9_certify 115 = .ok (.iload 4, 2) := by decide +kernel
theorem dX9_certify_117 : decode cX9_certify 117 = .ok (.iconst 4, 1) := by decide +kernel
theorem dX9_certify_118 : decode cX9_certify 118 = .ok (.iadd, 1) := by decide +kernel
theorem dX9_certify_119 : decode cX9_certify 119 = .ok (.aload_n 0, 1) := by decide +kernel
theorem dX9_certify_120 : decode cX9_certify 120 = .ok (.iconst 1, 1) := by decide +kernel
theorem dX9_certify_121 : decode cX9_certify 121 = .ok (.invokevirtual 38, 3) := by decide +kernel
theorem dX9_certify_124 : decode cX9_certify 124 = .ok (.aload_n 0, 1) := by decide +kernel
theorem dX9_certify_125 : decode cX9_certify 125 = .ok (.aload_n 0, 1) := by decide +kernel
theorem dX9_certify_126 : decode cX9_certify 126 = .ok (.iload_n 1, 1) := by decide +kernel
theorem dX9_certify_127 : decode cX9_certify 127 = .ok (.invokevirtual 201, 3) := by decide +kernel
theorem dX9_certify_130 : decode cX9_certify 130 = .ok (.iconst 3, 1) := by decide +kernel
theorem dX9_certify_131 : decode cX9_certify 131 = .ok (.iadd, 1) := by decide +kernel
theorem dX9_certify_132 : decode cX9_certify 132 = .ok (.invokevirtual 38, 3) := by decide +kernel
theorem dX9_certify_135 : decode cX9_certify 135 = .ok (.ladd, 1) := by decide +kernel
theorem dX9_certify_136 : decode cX9_certify 136 = .ok (.invokevirtual 183, 3) := by decide +kernel
theorem dX9_certify_139 : decode cX9_certify 139 = .ok (.aload_n 0, 1) := by decide +kernel
theorem dX9_certify_140 : decode cX9_certify 140 = .ok (.iconst 5, 1) := by decide +kernel
theorem dX9_certify_141 : decode cX9_certify 141 = .ok (.aload_n 0, 1) := by decide +kernel
theorem dX9_certify_142 : decode cX9_certify 142 = .ok (.iconst 5, 1) := by decide +kernel
theorem dX9_certify_143 : decode cX9_certify 143 = .ok (.invokevirtual 38, 3) := by decide +kernel
theorem dX9_certify_146 : decode cX9_certify 146 = .ok (.lconst 1, 1) := by decide +kernel
theorem dX9_certify_147 : decode cX9_certify 147 = .ok (.ladd, 1) := by decide +kernel
theorem dX9_certify_148 : decode cX9_certify 148 = .ok (.invokevirtual 183, 3) := by decide +kernel
theorem dX9_certify_151 : decode cX9_certify 151 = .ok (.aload_n 0, 1) := by decide +kernel
theorem dX9_certify_152 : decode cX9_certify 152 = .ok (.iconst 5, 1) := by decide +kernel
theorem dX9_certify_153 : decode cX9_certify 153 = .ok (.invokevirtual 187, 3) := by decide +kernel
theorem dX9_certify_156 : decode cX9_certify 156 = .ok (.iconst 1, 1) := by decide +kernel
theorem dX9_certify_157 : decode cX9_certify 157 = .ok (.isub, 1) := by decide +kernel
theorem dX9_certify_158 : decode cX9_certify 158 = .ok (.ireturn, 1) := by decide +kernel
theorem dX9_isDone_0 : decode cX9_isDone 0 = .ok (.iconst 0, 1) := by decide +kernel
theorem dX9_isDone_1 : decode cX9_isDone 1 = .ok (.istore_n 2, 1) := by decide +kernel
theorem dX9_isDone_2 : decode cX9_isDone 2 = .ok (.iload_n 2, 1) := by decide +kernel
theorem dX9_isDone_3 : decode cX9_isDone 3 = .ok (.i2l, 1) := by decide +kernel
theorem dX9_isDone_4 : decode cX9_isDone 4 = .ok (.aload_n 0, 1) := by decide +kernel
theorem dX9_isDone_5 : decode cX9_isDone 5 = .ok (.aload_n 0, 1) := by decide +kernel
theorem dX9_isDone_6 : decode cX9_isDone 6 = .ok (.iload_n 1, 1) := by decide +kernel
theorem dX9_isDone_7 : decode cX9_isDone 7 = .ok (.invokevirtual 201, 3) := by decide +kernel
theorem dX9_isDone_10 : decode cX9_isDone 10 = .ok (.bipush 7, 2) := by decide +kernel
theorem dX9_isDone_12 : decode cX9_isDone 12 = .ok (.iadd, 1) := by decide +kernel
theorem dX9_isDone_13 : decode cX9_isDone 13 = .ok (.invokevirtual 38, 3) := by decide +kernel
theorem dX9_isDone_16 : decode cX9_isDone 16 = .ok (.lcmp, 1) := by decide +kernel
theorem dX9_isDone_17 : decode cX9_isDone 17 = .ok (.ifCond .ge 30, 3) := by decide +kernel
theorem dX9_isDone_20 : decode cX9_isDone 20 = .ok (.aload_n 0, 1) := by decide +kernel
theorem dX9_isDone_21 : decode cX9_isDone 21 = .ok (.aload_n 0, 1) := by decide +kernel
theorem dX9_isDone_22 : decode cX9_isDone 22 = .ok (.iload_n 1, 1) := by decide +kernel
theorem dX9_isDone_23 : decode cX9_isDone 23 = .ok (.iload_n 2, 1) := by decide +kernel
theorem dX9_isDone_24 : decode cX9_isDone 24 = .ok (.invokevirtual 204, 3) := by decide +kernel
theorem dX9_isDone_27 : decode cX9_isDone 27 = .ok (.iconst 2, 1) := by decide +kernel
theorem dX9_isDone_28 : decode cX9_isDone 28 = .ok (.iadd, 1) := by decide +kernel
theorem dX9_isDone_29 : decode cX9_isDone 29 = .ok (.invokevirtual 38, 3) := by decide +kernel
theorem dX9_isDone_32 : decode cX9_isDone 32 = .ok (.ldc2_w 207, 3) := by decide +kernel
theorem dX9_isDone_35 : decode cX9_isDone 35 = .ok (.lcmp, 1) := by decide +kernel
theorem dX9_isDone_36 : decode cX9_isDone 36 = .ok (.ifCond .ge 5, 3) := by decide +kernel
theorem dX9_isDone_39 : decode cX9_isDone 39 = .ok (.iconst 0, 1) := by decide +kernel
theorem dX9_isDone_40 : decode cX9_isDone 40 = .ok (.ireturn, 1) := by decide +kernel
theorem dX9_isDone_41 : decode cX9_isDone 41 = .ok (.iinc 2 1, 3) := by decide +kernel
theorem dX9_isDone_44 : decode cX9_isDone 44 = .ok (.goto (-42), 3) := by decide +kernel
theorem dX9_isDone_47 : decode cX9_isDone 47 = .ok (.iconst 1, 1) := by decide +kernel
theorem dX9_isDone_48 : decode cX9_isDone 48 = .ok (.ireturn, 1) := by decide +kernel
theorem dX9_nextStage_0 : decode cX9_nextStage 0 = .ok (.aload_n 0, 1) := by decide +kernel
theorem dX9_nextStage_1 : decode cX9_nextStage 1 = .ok (.iload_n 1, 1) := by decide +kernel
theorem dX9_nextStage_2 : decode cX9_nextStage 2 = .ok (.invokevirtual 230, 3) := by decide +kernel
theorem dX9_nextStage_5 : decode cX9_nextStage 5 = .ok (.ifCond .ne 5, 3) := by decide +kernel
theorem dX9_nextStage_8 : decode cX9_nextStage 8 = .ok (.iconst 0, 1) := by decide +kernel
theorem dX9_nextStage_9 : decode cX9_nextStage 9 = .ok (.ireturn, 1) := by decide +kernel
theorem dX9_nextStage_10 : decode cX9_nextStage 10 = .ok (.aload_n 0, 1) := by decide +kernel
theorem dX9_nextStage_11 : decode cX9_nextStage 11 = .ok (.aload_n 0, 1) := by decide +kernel
theorem dX9_nextStage_12 : decode cX9_nextStage 12 = .ok (.iload_n 1, 1) := by decide +kernel
theorem dX9_nextStage_13 : decode cX9_nextStage 13 = .ok (.invokevirtual 201, 3) := by decide +kernel
theorem dX9_nextStage_16 : decode cX9_nextStage 16 = .ok (.bipush 6, 2) := by decide +kernel
theorem dX9_nextStage_18 : decode cX9_nextStage 18 = .ok (.iadd, 1) := by decide +kernel
theorem dX9_nextStage_19 : decode cX9_nextStage 19 = .ok (.invokevirtual 38, 3) := by decide +kernel
theorem dX9_nextStage_22 : decode cX9_nextStage 22 = .ok (.lstore_n 2, 1) := by decide +kernel
theorem dX9_nextStage_23 : decode cX9_nextStage 23 = .ok (.aload_n 0, 1) := by decide +kernel
theorem dX9_nextStage_24 : decode cX9_nextStage 24 = .ok (.lload_n 2, 1) := by decide +kernel
theorem dX9_nextStage_25 : decode cX9_nextStage 25 = .ok (.ldc2_w 102, 3) := by decide +kernel
theorem dX9_nextStage_28 : decode cX9_nextStage 28 = .ok (.lcmp, 1) := by decide +kernel
theorem dX9_nextStage_29 : decode cX9_nextStage 29 = .ok (.ifCond .ge 21, 3) := by decide +kernel
theorem dX9_nextStage_32 : decode cX9_nextStage 32 = .ok (.lload_n 2, 1) := by decide +kernel
theorem dX9_nextStage_33 : decode cX9_nextStage 33 = .ok (.lconst 0, 1) := by decide +kernel
theorem dX9_nextStage_34 : decode cX9_nextStage 34 = .ok (.lcmp, 1) := by decide +kernel
theorem dX9_nextStage_35 : decode cX9_nextStage 35 = .ok (.ifCond .gt 11, 3) := by decide +kernel
theorem dX9_nextStage_38 : decode cX9_nextStage 38 = .ok (.aload_n 0, 1) := by decide +kernel
theorem dX9_nextStage_39 : decode cX9_nextStage 39 = .ok (.iload_n 1, 1) := by decide +kernel
theorem dX9_nextStage_40 : decode cX9_nextStage 40 = .ok (.invokevirtual 337, 3) := by decide +kernel
theorem dX9_nextStage_43 : decode cX9_nextStage 43 = .ok (.ifCond .eq 7, 3) := by decide +kernel
theorem dX9_nextStage_46 : decode cX9_nextStage 46 = .ok (.iconst 1, 1) := by decide +kernel
theorem dX9_nextStage_47 : decode cX9_nextStage 47 = .ok (.goto 4, 3) := by decide +kernel
theorem dX9_nextStage_50 : decode cX9_nextStage 50 = .ok (.iconst 0, 1) := by decide +kernel
theorem dX9_nextStage_51 : decode cX9_nextStage 51 = .ok (.iconst 2, 1) := by decide +kernel
theorem dX9_nextStage_52 : decode cX9_nextStage 52 = .ok (.invokevirtual 173, 3) := by decide +kernel
theorem dX9_nextStage_55 : decode cX9_nextStage 55 = .ok (.ifCond .ne 5, 3) := by decide +kernel
theorem dX9_nextStage_58 : decode cX9_nextStage 58 = .ok (.iconst 0, 1) := by decide +kernel
theorem dX9_nextStage_59 : decode cX9_nextStage 59 = .ok (.ireturn, 1) := by decide +kernel
theorem dX9_nextStage_60 : decode cX9_nextStage 60 = .ok (.aload_n 0, 1) := by decide +kernel
theorem dX9_nextStage_61 : decode cX9_nextStage 61 = .ok (.invokevirtual 180, 3) := by decide +kernel
theorem dX9_nextStage_64 : decode cX9_nextStage 64 = .ok (.aload_n 0, 1) := by decide +kernel
theorem dX9_nextStage_65 : decode cX9_nextStage 65 = .ok (.aload_n 0, 1) := by decide +kernel
theorem dX9_nextStage_66 : decode cX9_nextStage 66 = .ok (.iload_n 1, 1) := by decide +kernel
theorem dX9_nextStage_67 : decode cX9_nextStage 67 = .ok (.invokevirtual 201, 3) := by decide +kernel
theorem dX9_nextStage_70 : decode cX9_nextStage 70 = .ok (.bipush 6, 2) := by decide +kernel
theorem dX9_nextStage_72 : decode cX9_nextStage 72 = .ok (.iadd, 1) := by decide +kernel
theorem dX9_nextStage_73 : decode cX9_nextStage 73 = .ok (.lload_n 2, 1) := by decide +kernel
theorem dX9_nextStage_74 : decode cX9_nextStage 74 = .ok (.lconst 1, 1) := by decide +kernel
theorem dX9_nextStage_75 : decode cX9_nextStage 75 = .ok (.ladd, 1) := by decide +kernel
theorem dX9_nextStage_76 : decode cX9_nextStage 76 = .ok (.invokevirtual 183, 3) := by decide +kernel
theorem dX9_nextStage_79 : decode cX9_nextStage 79 = .ok (.lload_n 2, 1) := by decide +kernel
theorem dX9_nextStage_80 : decode cX9_nextStage 80 = .ok (.l2i, 1) := by decide +kernel
theorem dX9_nextStage_81 : decode cX9_nextStage 81 = .ok (.iconst 1, 1) := by decide +kernel
theorem dX9_nextStage_82 : decode cX9_nextStage 82 = .ok (.iadd, 1) := by decide +kernel
theorem dX9_nextStage_83 : decode cX9_nextStage 83 = .ok (.ireturn, 1) := by decide +kernel
theorem dX9_pay_0 : decode cX9_pay 0 = .ok (.aload_n 0, 1) := by decide +kernel
theorem dX9_pay_1 : decode cX9_pay 1 = .ok (.iload_n 1, 1) := by decide +kernel
theorem dX9_pay_2 : decode cX9_pay 2 = .ok (.invokevirtual 270, 3) := by decide +kernel
theorem dX9_pay_5 : decode cX9_pay 5 = .ok (.ifCond .eq 58, 3) := by decide +kernel
theorem dX9_pay_8 : decode cX9_pay 8 = .ok (.aload_n 0, 1) := by decide +kernel
theorem dX9_pay_9 : decode cX9_pay 9 = .ok (.iload_n 2, 1) := by decide +kernel
theorem dX9_pay_10 : decode cX9_pay 10 = .ok (.i2l, 1) := by decide +kernel
theorem dX9_pay_11 : decode cX9_pay 11 = .ok (.lconst 1, 1) := by decide +kernel
theorem dX9_pay_12 : decode cX9_pay 12 = .ok (.aload_n 0, 1) := by decide +kernel
theorem dX9_pay_13 : decode cX9_pay 13 = .ok (.iload_n 1, 1) := by decide +kernel
theorem dX9_pay_14 : decode cX9_pay 14 = .ok (.invokevirtual 257, 3) := by decide +kernel
theorem dX9_pay_17 : decode cX9_pay 17 = .ok (.invokestatic 98, 3) := by decide +kernel
theorem dX9_pay_20 : decode cX9_pay 20 = .ok (.iconst 2, 1) := by decide +kernel
theorem dX9_pay_21 : decode cX9_pay 21 = .ok (.invokevirtual 173, 3) := by decide +kernel
theorem dX9_pay_24 : decode cX9_pay 24 = .ok (.ifCond .eq 39, 3) := by decide +kernel
theorem dX9_pay_27 : decode cX9_pay 27 = .ok (.aload_n 0, 1) := by decide +kernel
theorem dX9_pay_28 : decode cX9_pay 28 = .ok (.aload_n 0, 1) := by decide +kernel
theorem dX9_pay_29 : decode cX9_pay 29 = .ok (.iload_n 1, 1) := by decide +kernel
theorem dX9_pay_30 : decode cX9_pay 30 = .ok (.invokevirtual 273, 3) := by decide +kernel
theorem dX9_pay_33 : decode cX9_pay 33 = .ok (.ifCond .ne 22, 3) := by decide +kernel
theorem dX9_pay_36 : decode cX9_pay 36 = .ok (.aload_n 0, 1) := by decide +kernel
theorem dX9_pay_37 : decode cX9_pay 37 = .ok (.aload_n 0, 1) := by decide +kernel
theorem dX9_pay_38 : decode cX9_pay 38 = .ok (.iload_n 1, 1) := by decide +kernel
theorem dX9_pay_39 : decode cX9_pay 39 = .ok (.invokevirtual 276, 3) := by decide +kernel
theorem dX9_pay_42 : decode cX9_pay 42 = .ok (.invokevirtual 38, 3) := by decide +kernel
theorem dX9_pay_45 : decode cX9_pay 45 = .ok (.iload_n 2, 1) := by decide +kernel
theorem dX9_pay_46 : decode cX9_pay 46 = .ok (.i2l, 1) := by decide +kernel
theorem dX9_pay_47 : decode cX9_pay 47 = .ok (.lcmp, 1) := by decide +kernel
theorem dX9_pay_48 : decode cX9_pay 48 = .ok (.ifCond .lt 7, 3) := by decide +kernel
theorem dX9_pay_51 : decode cX9_pay 51 = .ok (.iconst 1, 1) := by decide +kernel
theorem dX9_pay_52 : decode cX9_pay 52 = .ok (.goto 4, 3) := by decide +kernel
theorem dX9_pay_55 : decode cX9_pay 55 = .ok (.iconst 0, 1) := by decide +kernel
theorem dX9_pay_56 : decode cX9_pay 56 = .ok (.iconst 3, 1) := by decide +kernel
theorem dX9_pay_57 : decode cX9_pay 57 = .ok (.invokevirtual 173, 3) := by decide +kernel
theorem dX9_pay_60 : decode cX9_pay 60 = .ok (.ifCond .ne 5, 3) := by decide +kernel
theorem dX9_pay_63 : decode cX9_pay 63 = .ok (.lconst 0, 1) := by decide +kernel
theorem dX9_pay_64 : decode cX9_pay 64 = .ok (.lreturn, 1) := by decide +kernel
theorem dX9_pay_65 : decode cX9_pay 65 = .ok (.aload_n 0, 1) := by decide +kernel
theorem dX9_pay_66 : decode cX9_pay 66 = .ok (.invokevirtual 180, 3) := by decide +kernel
theorem dX9_pay_69 : decode cX9_pay 69 = .ok (.aload_n 0, 1) := by decide +kernel
theorem dX9_pay_70 : decode cX9_pay 70 = .ok (.iload_n 1, 1) := by decide +kernel
theorem dX9_pay_71 : decode cX9_pay 71 = .ok (.iload_n 2, 1) := by decide +kernel
theorem dX9_pay_72 : decode cX9_pay 72 = .ok (.i2l, 1) := by decide +kernel
theorem dX9_pay_73 : decode cX9_pay 73 = .ok (.invokevirtual 283, 3) := by decide +kernel
theorem dX9_pay_76 : decode cX9_pay 76 = .ok (.aload_n 0, 1) := by decide +kernel
theorem dX9_pay_77 : decode cX9_pay 77 = .ok (.iload_n 1, 1) := by decide +kernel
theorem dX9_pay_78 : decode cX9_pay 78 = .ok (.invokevirtual 257, 3) := by decide +kernel
theorem dX9_pay_81 : decode cX9_pay 81 = .ok (.lreturn, 1) := by decide +kernel
theorem dX9_deposit_0 : decode cX9_deposit 0 = .ok (.aload_n 0, 1) := by decide +kernel
theorem dX9_deposit_1 : decode cX9_deposit 1 = .ok (.iconst 0, 1) := by decide +kernel
theorem dX9_deposit_2 : decode cX9_deposit 2 = .ok (.putfield 32, 3) := by decide +kernel
theorem dX9_deposit_5 : decode cX9_deposit 5 = .ok (.aload_n 0, 1) := by decide +kernel
theorem dX9_deposit_6 : decode cX9_deposit 6 = .ok (.iload_n 1, 1) := by decide +kernel
theorem dX9_deposit_7 : decode cX9_deposit 7 = .ok (.i2l, 1) := by decide +kernel
theorem dX9_deposit_8 : decode cX9_deposit 8 = .ok (.lconst 1, 1) := by decide +kernel
theorem dX9_deposit_9 : decode cX9_deposit 9 = .ok (.ldc2_w 340, 3) := by decide +kernel
theorem dX9_deposit_12 : decode cX9_deposit 12 = .ok (.invokestatic 98, 3) := by decide +kernel
theorem dX9_deposit_15 : decode cX9_deposit 15 = .ok (.iconst 1, 1) := by decide +kernel
theorem dX9_deposit_16 : decode cX9_deposit 16 = .ok (.invokevirtual 173, 3) := by decide +kernel
theorem dX9_deposit_19 : decode cX9_deposit 19 = .ok (.ifCond .eq 42, 3) := by decide +kernel
theorem dX9_deposit_22 : decode cX9_deposit 22 = .ok (.aload_n 0, 1) := by decide +kernel
theorem dX9_deposit_23 : decode cX9_deposit 23 = .ok (.aload_n 0, 1) := by decide +kernel
theorem dX9_deposit_24 : decode cX9_deposit 24 = .ok (.iconst 0, 1) := by decide +kernel
theorem dX9_deposit_25 : decode cX9_deposit 25 = .ok (.invokevirtual 38, 3) := by decide +kernel
theorem dX9_deposit_28 : decode cX9_deposit 28 = .ok (.lconst 0, 1) := by decide +kernel
theorem dX9_deposit_29 : decode cX9_deposit 29 = .ok (.lcmp, 1) := by decide +kernel
theorem dX9_deposit_30 : decode cX9_deposit 30 = .ok (.ifCond .le 23, 3) := by decide +kernel
theorem dX9_deposit_33 : decode cX9_deposit 33 = .ok (.aload_n 0, 1) := by decide +kernel
theorem dX9_deposit_34 : decode cX9_deposit 34 = .ok (.bipush 8, 2) := by decide +kernel
theorem dX9_deposit_36 : decode cX9_deposit 36 = .ok (.invokevirtual 38, 3) := by decide +kernel
theorem dX9_deposit_39 : decode cX9_deposit 39 = .ok (.iload_n 1, 1) := by decide +kernel
theorem dX9_deposit_40 : decode cX9_deposit 40 = .ok (.i2l, 1) := by decide +kernel
theorem dX9_deposit_41 : decode cX9_deposit 41 = .ok (.ladd, 1) := by decide +kernel
theorem dX9_deposit_42 : decode cX9_deposit 42 = .ok (.ldc2_w 342, 3) := by decide +kernel
theorem dX9_deposit_45 : decode cX9_deposit 45 = .ok (.lcmp, 1) := by decide +kernel
theorem dX9_deposit_46 : decode cX9_deposit 46 = .ok (.ifCond .gt 7, 3) := by decide +kernel
theorem dX9_deposit_49 : decode cX9_deposit 49 = .ok (.iconst 1, 1) := by decide +kernel
theorem dX9_deposit_50 : decode cX9_deposit 50 = .ok (.goto 4, 3) := by decide +kernel
theorem dX9_deposit_53 : decode cX9_deposit 53 = .ok (.iconst 0, 1) := by decide +kernel
theorem dX9_deposit_54 : decode cX9_deposit 54 = .ok (.iconst 2, 1) := by decide +kernel
theorem dX9_deposit_55 : decode cX9_deposit 55 = .ok (.invokevirtual 173, 3) := by decide +kernel
theorem dX9_deposit_58 : decode cX9_deposit 58 = .ok (.ifCond .ne 5, 3) := by decide +kernel
theorem dX9_deposit_61 : decode cX9_deposit 61 = .ok (.lconst 0, 1) := by decide +kernel
theorem dX9_deposit_62 : decode cX9_deposit 62 = .ok (.lreturn, 1) := by decide +kernel
theorem dX9_deposit_63 : decode cX9_deposit 63 = .ok (.aload_n 0, 1) := by decide +kernel
theorem dX9_deposit_64 : decode cX9_deposit 64 = .ok (.invokevirtual 180, 3) := by decide +kernel
theorem dX9_deposit_67 : decode cX9_deposit 67 = .ok (.aload_n 0, 1) := by decide +kernel
theorem dX9_deposit_68 : decode cX9_deposit 68 = .ok (.bipush 8, 2) := by decide +kernel
theorem dX9_deposit_70 : decode cX9_deposit 70 = .ok (.aload_n 0, 1) := by decide +kernel
theorem dX9_deposit_71 : decode cX9_deposit 71 = .ok (.bipush 8, 2) := by decide +kernel
theorem dX9_deposit_73 : decode cX9_deposit 73 = .ok (.invokevirtual 38, 3) := by decide +kernel
theorem dX9_deposit_76 : decode cX9_deposit 76 = .ok (.iload_n 1, 1) := by decide +kernel
theorem dX9_deposit_77 : decode cX9_deposit 77 = .ok (.i2l, 1) := by decide +kernel
theorem dX9_deposit_78 : decode cX9_deposit 78 = .ok (.ladd, 1) := by decide +kernel
theorem dX9_deposit_79 : decode cX9_deposit 79 = .ok (.invokevirtual 183, 3) := by decide +kernel
theorem dX9_deposit_82 : decode cX9_deposit 82 = .ok (.aload_n 0, 1) := by decide +kernel
theorem dX9_deposit_83 : decode cX9_deposit 83 = .ok (.bipush 8, 2) := by decide +kernel
theorem dX9_deposit_85 : decode cX9_deposit 85 = .ok (.invokevirtual 38, 3) := by decide +kernel
theorem dX9_deposit_88 : decode cX9_deposit 88 = .ok (.lreturn, 1) := by decide +kernel
theorem dX9_pass_0 : decode cX9_pass 0 = .ok (.aload_n 0, 1) := by decide +kernel
theorem dX9_pass_1 : decode cX9_pass 1 = .ok (.iconst 0, 1) := by decide +kernel
theorem dX9_pass_2 : decode cX9_pass 2 = .ok (.putfield 32, 3) := by decide +kernel
theorem dX9_pass_5 : decode cX9_pass 5 = .ok (.aload_n 0, 1) := by decide +kernel
theorem dX9_pass_6 : decode cX9_pass 6 = .ok (.iload_n 1, 1) := by decide +kernel
theorem dX9_pass_7 : decode cX9_pass 7 = .ok (.i2l, 1) := by decide +kernel
theorem dX9_pass_8 : decode cX9_pass 8 = .ok (.lconst 1, 1) := by decide +kernel
theorem dX9_pass_9 : decode cX9_pass 9 = .ok (.ldc2_w 344, 3) := by decide +kernel
theorem dX9_pass_12 : decode cX9_pass 12 = .ok (.invokestatic 98, 3) := by decide +kernel
theorem dX9_pass_15 : decode cX9_pass 15 = .ok (.iconst 1, 1) := by decide +kernel
theorem dX9_pass_16 : decode cX9_pass 16 = .ok (.invokevirtual 173, 3) := by decide +kernel
theorem dX9_pass_19 : decode cX9_pass 19 = .ok (.ifCond .eq 41, 3) := by decide +kernel
theorem dX9_pass_22 : decode cX9_pass 22 = .ok (.aload_n 0, 1) := by decide +kernel
theorem dX9_pass_23 : decode cX9_pass 23 = .ok (.aload_n 0, 1) := by decide +kernel
theorem dX9_pass_24 : decode cX9_pass 24 = .ok (.iconst 0, 1) := by decide +kernel
theorem dX9_pass_25 : decode cX9_pass 25 = .ok (.invokevirtual 38, 3) := by decide +kernel
theorem dX9_pass_28 : decode cX9_pass 28 = .ok (.lconst 0, 1) := by decide +kernel
theorem dX9_pass_29 : decode cX9_pass 29 = .ok (.lcmp, 1) := by decide +kernel
theorem dX9_pass_30 : decode cX9_pass 30 = .ok (.ifCond .le 22, 3) := by decide +kernel
theorem dX9_pass_33 : decode cX9_pass 33 = .ok (.aload_n 0, 1) := by decide +kernel
theorem dX9_pass_34 : decode cX9_pass 34 = .ok (.iconst 1, 1) := by decide +kernel
theorem dX9_pass_35 : decode cX9_pass 35 = .ok (.invokevirtual 38, 3) := by decide +kernel
theorem dX9_pass_38 : decode cX9_pass 38 = .ok (.iload_n 1, 1) := by decide +kernel
theorem dX9_pass_39 : decode cX9_pass 39 = .ok (.i2l, 1) := by decide +kernel
theorem dX9_pass_40 : decode cX9_pass 40 = .ok (.ladd, 1) := by decide +kernel
theorem dX9_pass_41 : decode cX9_pass 41 = .ok (.ldc2_w 346, 3) := by decide +kernel
theorem dX9_pass_44 : decode cX9_pass 44 = .ok (.lcmp, 1) := by decide +kernel
theorem dX9_pass_45 : decode cX9_pass 45 = .ok (.ifCond .gt 7, 3) := by decide +kernel
theorem dX9_pass_48 : decode cX9_pass 48 = .ok (.iconst 1, 1) := by decide +kernel
theorem dX9_pass_49 : decode cX9_pass 49 = .ok (.goto 4, 3) := by decide +kernel
theorem dX9_pass_52 : decode cX9_pass 52 = .ok (.iconst 0, 1) := by decide +kernel
theorem dX9_pass_53 : decode cX9_pass 53 = .ok (.iconst 2, 1) := by decide +kernel
theorem dX9_pass_54 : decode cX9_pass 54 = .ok (.invokevirtual 173, 3) := by decide +kernel
theorem dX9_pass_57 : decode cX9_pass 57 = .ok (.ifCond .ne 5, 3) := by decide +kernel
theorem dX9_pass_60 : decode cX9_pass 60 = .ok (.iconst 0, 1) := by decide +kernel
theorem dX9_pass_61 : decode cX9_pass 61 = .ok (.ireturn, 1) := by decide +kernel
theorem dX9_pass_62 : decode cX9_pass 62 = .ok (.aload_n 0, 1) := by decide +kernel
theorem dX9_pass_63 : decode cX9_pass 63 = .ok (.invokevirtual 180, 3) := by decide +kernel
theorem dX9_pass_66 : decode cX9_pass 66 = .ok (.aload_n 0, 1) := by decide +kernel
theorem dX9_pass_67 : decode cX9_pass 67 = .ok (.iconst 1, 1) := by decide +kernel
theorem dX9_pass_68 : decode cX9_pass 68 = .ok (.aload_n 0, 1) := by decide +kernel
theorem dX9_pass_69 : decode cX9_pass 69 = .ok (.iconst 1, 1) := by decide +kernel
theorem dX9_pass_70 : decode cX9_pass 70 = .ok (.invokevirtual 38, 3) := by decide +kernel
theorem dX9_pass_73 : decode cX9_pass 73 = .ok (.iload_n 1, 1) := by decide +kernel
theorem dX9_pass_74 : decode cX9_pass 74 = .ok (.i2l, 1) := by decide +kernel
theorem dX9_pass_75 : decode cX9_pass 75 = .ok (.ladd, 1) := by decide +kernel
theorem dX9_pass_76 : decode cX9_pass 76 = .ok (.invokevirtual 183, 3) := by decide +kernel
theorem dX9_pass_79 : decode cX9_pass 79 = .ok (.aload_n 0, 1) := by decide +kernel
theorem dX9_pass_80 : decode cX9_pass 80 = .ok (.iconst 1, 1) := by decide +kernel
theorem dX9_pass_81 : decode cX9_pass 81 = .ok (.invokevirtual 187, 3) := by decide +kernel
theorem dX9_pass_84 : decode cX9_pass 84 = .ok (.ireturn, 1) := by decide +kernel
theorem dX9_settle_0 : decode cX9_settle 0 = .ok (.aload_n 0, 1) := by decide +kernel
theorem dX9_settle_1 : decode cX9_settle 1 = .ok (.iconst 0, 1) := by decide +kernel
theorem dX9_settle_2 : decode cX9_settle 2 = .ok (.putfield 32, 3) := by decide +kernel
theorem dX9_settle_5 : decode cX9_settle 5 = .ok (.aload_n 0, 1) := by decide +kernel
theorem dX9_settle_6 : decode cX9_settle 6 = .ok (.iload_n 1, 1) := by decide +kernel
theorem dX9_settle_7 : decode cX9_settle 7 = .ok (.i2l, 1) := by decide +kernel
theorem dX9_settle_8 : decode cX9_settle 8 = .ok (.lconst 1, 1) := by decide +kernel
theorem dX9_settle_9 : decode cX9_settle 9 = .ok (.ldc2_w 207, 3) := by decide +kernel
theorem dX9_settle_12 : decode cX9_settle 12 = .ok (.invokestatic 98, 3) := by decide +kernel
theorem dX9_settle_15 : decode cX9_settle 15 = .ok (.iconst 1, 1) := by decide +kernel
theorem dX9_settle_16 : decode cX9_settle 16 = .ok (.invokevirtual 173, 3) := by decide +kernel
theorem dX9_settle_19 : decode cX9_settle 19 = .ok (.ifCond .eq 41, 3) := by decide +kernel
theorem dX9_settle_22 : decode cX9_settle 22 = .ok (.aload_n 0, 1) := by decide +kernel
theorem dX9_settle_23 : decode cX9_settle 23 = .ok (.aload_n 0, 1) := by decide +kernel
theorem dX9_settle_24 : decode cX9_settle 24 = .ok (.iconst 0, 1) := by decide +kernel
theorem dX9_settle_25 : decode cX9_settle 25 = .ok (.invokevirtual 38, 3) := by decide +kernel
theorem dX9_settle_28 : decode cX9_settle 28 = .ok (.lconst 0, 1) := by decide +kernel
theorem dX9_settle_29 : decode cX9_settle 29 = .ok (.lcmp, 1) := by decide +kernel
theorem dX9_settle_30 : decode cX9_settle 30 = .ok (.ifCond .le 22, 3) := by decide +kernel
theorem dX9_settle_33 : decode cX9_settle 33 = .ok (.aload_n 0, 1) := by decide +kernel
theorem dX9_settle_34 : decode cX9_settle 34 = .ok (.iconst 1, 1) := by decide +kernel
theorem dX9_settle_35 : decode cX9_settle 35 = .ok (.invokevirtual 38, 3) := by decide +kernel
theorem dX9_settle_38 : decode cX9_settle 38 = .ok (.iload_n 1, 1) := by decide +kernel
theorem dX9_settle_39 : decode cX9_settle 39 = .ok (.i2l, 1) := by decide +kernel
theorem dX9_settle_40 : decode cX9_settle 40 = .ok (.ladd, 1) := by decide +kernel
theorem dX9_settle_41 : decode cX9_settle 41 = .ok (.ldc2_w 346, 3) := by decide +kernel
theorem dX9_settle_44 : decode cX9_settle 44 = .ok (.lcmp, 1) := by decide +kernel
theorem dX9_settle_45 : decode cX9_settle 45 = .ok (.ifCond .gt 7, 3) := by decide +kernel
theorem dX9_settle_48 : decode cX9_settle 48 = .ok (.iconst 1, 1) := by decide +kernel
theorem dX9_settle_49 : decode cX9_settle 49 = .ok (.goto 4, 3) := by decide +kernel
theorem dX9_settle_52 : decode cX9_settle 52 = .ok (.iconst 0, 1) := by decide +kernel
theorem dX9_settle_53 : decode cX9_settle 53 = .ok (.iconst 2, 1) := by decide +kernel
theorem dX9_settle_54 : decode cX9_settle 54 = .ok (.invokevirtual 173, 3) := by decide +kernel
theorem dX9_settle_57 : decode cX9_settle 57 = .ok (.ifCond .ne 5, 3) := by decide +kernel
theorem dX9_settle_60 : decode cX9_settle 60 = .ok (.lconst 0, 1) := by decide +kernel
theorem dX9_settle_61 : decode cX9_settle 61 = .ok (.lreturn, 1) := by decide +kernel
theorem dX9_settle_62 : decode cX9_settle 62 = .ok (.aload_n 0, 1) := by decide +kernel
theorem dX9_settle_63 : decode cX9_settle 63 = .ok (.invokevirtual 180, 3) := by decide +kernel
theorem dX9_settle_66 : decode cX9_settle 66 = .ok (.lconst 0, 1) := by decide +kernel
theorem dX9_settle_67 : decode cX9_settle 67 = .ok (.lstore_n 2, 1) := by decide +kernel
theorem dX9_settle_68 : decode cX9_settle 68 = .ok (.iconst 0, 1) := by decide +kernel
theorem dX9_settle_69 : decode cX9_settle 69 = .ok (.istore 4, 2) := by decide +kernel
theorem dX9_settle_71 : decode cX9_settle 71 = .ok (.iload 4, 2) := by decide +kernel
theorem dX9_settle_73 : decode cX9_settle 73 = .ok (.iload_n 1, 1) := by decide +kernel
theorem dX9_settle_74 : decode cX9_settle 74 = .ok (.if_icmp .ge 16, 3) := by decide +kernel
theorem dX9_settle_77 : decode cX9_settle 77 = .ok (.lload_n 2, 1) := by decide +kernel
theorem dX9_settle_78 : decode cX9_settle 78 = .ok (.aload_n 0, 1) := by decide +kernel
theorem dX9_settle_79 : decode cX9_settle 79 = .ok (.invokevirtual 288, 3) := by decide +kernel
theorem dX9_settle_82 : decode cX9_settle 82 = .ok (.ladd, 1) := by decide +kernel
theorem dX9_settle_83 : decode cX9_settle 83 = .ok (.lstore_n 2, 1) := by decide +kernel
theorem dX9_settle_84 : decode cX9_settle 84 = .ok (.iinc 4 1, 3) := by decide +kernel
theorem dX9_settle_87 : decode cX9_settle 87 = .ok (.goto (-16), 3) := by decide +kernel
theorem dX9_settle_90 : decode cX9_settle 90 = .ok (.lload_n 2, 1) := by decide +kernel
theorem dX9_settle_91 : decode cX9_settle 91 = .ok (.lreturn, 1) := by decide +kernel
theorem dX9_hasClaim_0 : decode cX9_hasClaim 0 = .ok (.iconst 0, 1) := by decide +kernel
theorem dX9_hasClaim_1 : decode cX9_hasClaim 1 = .ok (.istore_n 2, 1) := by decide +kernel
theorem dX9_hasClaim_2 : decode cX9_hasClaim 2 = .ok (.iload_n 2, 1) := by decide +kernel
theorem dX9_hasClaim_3 : decode cX9_hasClaim 3 = .ok (.i2l, 1) := by decide +kernel
theorem dX9_hasClaim_4 : decode cX9_hasClaim 4 = .ok (.aload_n 0, 1) := by decide +kernel
theorem dX9_hasClaim_5 : decode cX9_hasClaim 5 = .ok (.bipush 6, 2) := by decide +kernel
theorem dX9_hasClaim_7 : decode cX9_hasClaim 7 = .ok (.invokevirtual 38, 3) := by decide +kernel
theorem dX9_hasClaim_10 : decode cX9_hasClaim 10 = .ok (.lcmp, 1) := by decide +kernel
theorem dX9_hasClaim_11 : decode cX9_hasClaim 11 = .ok (.ifCond .ge 35, 3) := by decide +kernel
theorem dX9_hasClaim_14 : decode cX9_hasClaim 14 = .ok (.aload_n 0, 1) := by decide +kernel
theorem dX9_hasClaim_15 : decode cX9_hasClaim 15 = .ok (.iload_n 2, 1) := by decide +kernel
theorem dX9_hasClaim_16 : decode cX9_hasClaim 16 = .ok (.invokestatic 298, 3) := by decide +kernel
theorem dX9_hasClaim_19 : decode cX9_hasClaim 19 = .ok (.invokevirtual 38, 3) := by decide +kernel
theorem dX9_hasClaim_22 : decode cX9_hasClaim 22 = .ok (.iload_n 1, 1) := by decide +kernel
theorem dX9_hasClaim_23 : decode cX9_hasClaim 23 = .ok (.i2l, 1) := by decide +kernel
theorem dX9_hasClaim_24 : decode cX9_hasClaim 24 = .ok (.lcmp, 1) := by decide +kernel
theorem dX9_hasClaim_25 : decode cX9_hasClaim 25 = .ok (.ifCond .ne 15, 3) := by decide +kernel
theorem dX9_hasClaim_28 : decode cX9_hasClaim 28 = .ok (.aload_n 0, 1) := by decide +kernel
theorem dX9_hasClaim_29 : decode cX9_hasClaim 29 = .ok (.iload_n 2, 1) := by decide +kernel
theorem dX9_hasClaim_30 : decode cX9_hasClaim 30 = .ok (.invokevirtual 304, 3) := by decide +kernel
theorem dX9_hasClaim_33 : decode cX9_hasClaim 33 = .ok (.lconst 0, 1) := by decide +kernel
theorem dX9_hasClaim_34 : decode cX9_hasClaim 34 = .ok (.lcmp, 1) := by decide +kernel
theorem dX9_hasClaim_35 : decode cX9_hasClaim 35 = .ok (.ifCond .le 5, 3) := by decide +kernel
theorem dX9_hasClaim_38 : decode cX9_hasClaim 38 = .ok (.iconst 1, 1) := by decide +kernel
theorem dX9_hasClaim_39 : decode cX9_hasClaim 39 = .ok (.ireturn, 1) := by decide +kernel
theorem dX9_hasClaim_40 : decode cX9_hasClaim 40 = .ok (.iinc 2 1, 3) := by decide +kernel
theorem dX9_hasClaim_43 : decode cX9_hasClaim 43 = .ok (.goto (-41), 3) := by decide +kernel
theorem dX9_hasClaim_46 : decode cX9_hasClaim 46 = .ok (.iconst 0, 1) := by decide +kernel
theorem dX9_hasClaim_47 : decode cX9_hasClaim 47 = .ok (.ireturn, 1) := by decide +kernel
theorem dX9_fileLien_0 : decode cX9_fileLien 0 = .ok (.aload_n 0, 1) := by decide +kernel
theorem dX9_fileLien_1 : decode cX9_fileLien 1 = .ok (.iload_n 1, 1) := by decide +kernel
theorem dX9_fileLien_2 : decode cX9_fileLien 2 = .ok (.invokevirtual 230, 3) := by decide +kernel
theorem dX9_fileLien_5 : decode cX9_fileLien 5 = .ok (.ifCond .ne 5, 3) := by decide +kernel
theorem dX9_fileLien_8 : decode cX9_fileLien 8 = .ok (.iconst 0, 1) := by decide +kernel
theorem dX9_fileLien_9 : decode cX9_fileLien 9 = .ok (.ireturn, 1) := by decide +kernel
theorem dX9_fileLien_10 : decode cX9_fileLien 10 = .ok (.aload_n 0, 1) := by decide +kernel
theorem dX9_fileLien_11 : decode cX9_fileLien 11 = .ok (.iload_n 1, 1) := by decide +kernel
theorem dX9_fileLien_12 : decode cX9_fileLien 12 = .ok (.aload_n 0, 1) := by decide +kernel
theorem dX9_fileLien_13 : decode cX9_fileLien 13 = .ok (.iconst 1, 1) := by decide +kernel
theorem dX9_fileLien_14 : decode cX9_fileLien 14 = .ok (.invokevirtual 38, 3) := by decide +kernel
theorem dX9_fileLien_17 : decode cX9_fileLien 17 = .ok (.invokevirtual 260, 3) := by decide +kernel
theorem dX9_fileLien_20 : decode cX9_fileLien 20 = .ok (.lstore_n 2, 1) := by decide +kernel
theorem dX9_fileLien_21 : decode cX9_fileLien 21 = .ok (.aload_n 0, 1) := by decide +kernel
theorem dX9_fileLien_22 : decode cX9_fileLien 22 = .ok (.lload_n 2, 1) := by decide +kernel
theorem dX9_fileLien_23 : decode cX9_fileLien 23 = .ok (.lconst 0, 1) := by decide +kernel
theorem dX9_fileLien_24 : decode cX9_fileLien 24 = .ok (.lcmp, 1) := by decide +kernel
theorem dX9_fileLien_25 : decode cX9_fileLien 25 = .ok (.ifCond .le 28, 3) := by decide +kernel
theorem dX9_fileLien_28 : decode cX9_fileLien 28 = .ok (.aload_n 0, 1) := by decide +kernel
theorem dX9_fileLien_29 : decode cX9_fileLien 29 = .ok (.iload_n 1, 1) := by decide +kernel
theorem dX9_fileLien_30 : decode cX9_fileLien 30 = .ok (.invokevirtual 348, 3) := by decide +kernel
theorem dX9_fileLien_33 : decode cX9_fileLien 33 = .ok (.ifCond .ne 20, 3) := by decide +kernel
theorem dX9_fileLien_36 : decode cX9_fileLien 36 = .ok (.aload_n 0, 1) := by decide +kernel
theorem dX9_fileLien_37 : decode cX9_fileLien 37 = .ok (.bipush 6, 2) := by decide +kernel
theorem dX9_fileLien_39 : decode cX9_fileLien 39 = .ok (.invokevirtual 38, 3) := by decide +kernel
theorem dX9_fileLien_42 : decode cX9_fileLien 42 = .ok (.ldc2_w 351, 3) := by decide +kernel
theorem dX9_fileLien_45 : decode cX9_fileLien 45 = .ok (.lcmp, 1) := by decide +kernel
theorem dX9_fileLien_46 : decode cX9_fileLien 46 = .ok (.ifCond .ge 7, 3) := by decide +kernel
theorem dX9_fileLien_49 : decode cX9_fileLien 49 = .ok (.iconst 1, 1) := by decide +kernel
theorem dX9_fileLien_50 : decode cX9_fileLien 50 = .ok (.goto 4, 3) := by decide +kernel
theorem dX9_fileLien_53 : decode cX9_fileLien 53 = .ok (.iconst 0, 1) := by decide +kernel
theorem dX9_fileLien_54 : decode cX9_fileLien 54 = .ok (.iconst 2, 1) := by decide +kernel
theorem dX9_fileLien_55 : decode cX9_fileLien 55 = .ok (.invokevirtual 173, 3) := by decide +kernel
theorem dX9_fileLien_58 : decode cX9_fileLien 58 = .ok (.ifCond .ne 5, 3) := by decide +kernel
theorem dX9_fileLien_61 : decode cX9_fileLien 61 = .ok (.iconst 0, 1) := by decide +kernel
theorem dX9_fileLien_62 : decode cX9_fileLien 62 = .ok (.ireturn, 1) := by decide +kernel
theorem dX9_fileLien_63 : decode cX9_fileLien 63 = .ok (.aload_n 0, 1) := by decide +kernel
theorem dX9_fileLien_64 : decode cX9_fileLien 64 = .ok (.invokevirtual 180, 3) := by decide +kernel
theorem dX9_fileLien_67 : decode cX9_fileLien 67 = .ok (.aload_n 0, 1) := by decide +kernel
theorem dX9_fileLien_68 : decode cX9_fileLien 68 = .ok (.bipush 6, 2) := by decide +kernel
theorem dX9_fileLien_70 : decode cX9_fileLien 70 = .ok (.invokevirtual 187, 3) := by decide +kernel
theorem dX9_fileLien_73 : decode cX9_fileLien 73 = .ok (.invokestatic 298, 3) := by decide +kernel
theorem dX9_fileLien_76 : decode cX9_fileLien 76 = .ok (.istore 4, 2) := by decide +kernel
theorem dX9_fileLien_78 : decode cX9_fileLien 78 = .ok (.aload_n 0, 1) := by decide +kernel
theorem dX9_fileLien_79 : decode cX9_fileLien 79 = .ok (.iload 4, 2) := by decide +kernel
theorem dX9_fileLien_81 : decode cX9_fileLien 81 = .ok (.iload_n 1, 1) := by decide +kernel
theorem dX9_fileLien_82 : decode cX9_fileLien 82 = .ok (.i2l, 1) := by decide +kernel
theorem dX9_fileLien_83 : decode cX9_fileLien 83 = .ok (.invokevirtual 183, 3) := by decide +kernel
theorem dX9_fileLien_86 : decode cX9_fileLien 86 = .ok (.aload_n 0, 1) := by decide +kernel
theorem dX9_fileLien_87 : decode cX9_fileLien 87 = .ok (.iload 4, 2) := by decide +kernel
theorem dX9_fileLien_89 : decode cX9_fileLien 89 = .ok (.iconst 1, 1) := by decide +kernel
theorem dX9_fileLien_90 : decode cX9_fileLien 90 = .ok (.iadd, 1) := by decide +kernel
theorem dX9_fileLien_91 : decode cX9_fileLien 91 = .ok (.lload_n 2, 1) := by decide +kernel
theorem dX9_fileLien_92 : decode cX9_fileLien 92 = .ok (.invokevirtual 183, 3) := by decide +kernel
theorem dX9_fileLien_95 : decode cX9_fileLien 95 = .ok (.aload_n 0, 1) := by decide +kernel
theorem dX9_fileLien_96 : decode cX9_fileLien 96 = .ok (.iload 4, 2) := by decide +kernel
theorem dX9_fileLien_98 : decode cX9_fileLien 98 = .ok (.iconst 2, 1) := by decide +kernel
theorem dX9_fileLien_99 : decode cX9_fileLien 99 = .ok (.iadd, 1) := by decide +kernel
theorem dX9_fileLien_100 : decode cX9_fileLien 100 = .ok (.aload_n 0, 1) := by decide +kernel
theorem dX9_fileLien_101 : decode cX9_fileLien 101 = .ok (.iconst 1, 1) := by decide +kernel
theorem dX9_fileLien_102 : decode cX9_fileLien 102 = .ok (.invokevirtual 38, 3) := by decide +kernel
theorem dX9_fileLien_105 : decode cX9_fileLien 105 = .ok (.invokevirtual 183, 3) := by decide +kernel
theorem dX9_fileLien_108 : decode cX9_fileLien 108 = .ok (.aload_n 0, 1) := by decide +kernel
theorem dX9_fileLien_109 : decode cX9_fileLien 109 = .ok (.iload 4, 2) := by decide +kernel
theorem dX9_fileLien_111 : decode cX9_fileLien 111 = .ok (.iconst 3, 1) := by decide +kernel
theorem dX9_fileLien_112 : decode cX9_fileLien 112 = .ok (.iadd, 1) := by decide +kernel
theorem dX9_fileLien_113 : decode cX9_fileLien 113 = .ok (.lconst 0, 1) := by decide +kernel
theorem dX9_fileLien_114 : decode cX9_fileLien 114 = .ok (.invokevirtual 183, 3) := by decide +kernel
theorem dX9_fileLien_117 : decode cX9_fileLien 117 = .ok (.aload_n 0, 1) := by decide +kernel
theorem dX9_fileLien_118 : decode cX9_fileLien 118 = .ok (.bipush 6, 2) := by decide +kernel
theorem dX9_fileLien_120 : decode cX9_fileLien 120 = .ok (.aload_n 0, 1) := by decide +kernel
theorem dX9_fileLien_121 : decode cX9_fileLien 121 = .ok (.bipush 6, 2) := by decide +kernel
theorem dX9_fileLien_123 : decode cX9_fileLien 123 = .ok (.invokevirtual 38, 3) := by decide +kernel
theorem dX9_fileLien_126 : decode cX9_fileLien 126 = .ok (.lconst 1, 1) := by decide +kernel
theorem dX9_fileLien_127 : decode cX9_fileLien 127 = .ok (.ladd, 1) := by decide +kernel
theorem dX9_fileLien_128 : decode cX9_fileLien 128 = .ok (.invokevirtual 183, 3) := by decide +kernel
theorem dX9_fileLien_131 : decode cX9_fileLien 131 = .ok (.aload_n 0, 1) := by decide +kernel
theorem dX9_fileLien_132 : decode cX9_fileLien 132 = .ok (.bipush 6, 2) := by decide +kernel
theorem dX9_fileLien_134 : decode cX9_fileLien 134 = .ok (.invokevirtual 187, 3) := by decide +kernel
theorem dX9_fileLien_137 : decode cX9_fileLien 137 = .ok (.iconst 1, 1) := by decide +kernel
theorem dX9_fileLien_138 : decode cX9_fileLien 138 = .ok (.isub, 1) := by decide +kernel
theorem dX9_fileLien_139 : decode cX9_fileLien 139 = .ok (.ireturn, 1) := by decide +kernel
theorem dX9_withdrawLien_0 : decode cX9_withdrawLien 0 = .ok (.aload_n 0, 1) := by decide +kernel
theorem dX9_withdrawLien_1 : decode cX9_withdrawLien 1 = .ok (.iload_n 1, 1) := by decide +kernel
theorem dX9_withdrawLien_2 : decode cX9_withdrawLien 2 = .ok (.invokevirtual 301, 3) := by decide +kernel
theorem dX9_withdrawLien_5 : decode cX9_withdrawLien 5 = .ok (.ifCond .eq 31, 3) := by decide +kernel
theorem dX9_withdrawLien_8 : decode cX9_withdrawLien 8 = .ok (.aload_n 0, 1) := by decide +kernel
theorem dX9_withdrawLien_9 : decode cX9_withdrawLien 9 = .ok (.aload_n 0, 1) := by decide +kernel
theorem dX9_withdrawLien_10 : decode cX9_withdrawLien 10 = .ok (.iload_n 1, 1) := by decide +kernel
theorem dX9_withdrawLien_11 : decode cX9_withdrawLien 11 = .ok (.invokestatic 298, 3) := by decide +kernel
theorem dX9_withdrawLien_14 : decode cX9_withdrawLien 14 = .ok (.iconst 3, 1) := by decide +kernel
theorem dX9_withdrawLien_15 : decode cX9_withdrawLien 15 = .ok (.iadd, 1) := by decide +kernel
theorem dX9_withdrawLien_16 : decode cX9_withdrawLien 16 = .ok (.invokevirtual 38, 3) := by decide +kernel
theorem dX9_withdrawLien_19 : decode cX9_withdrawLien 19 = .ok (.lconst 0, 1) := by decide +kernel
theorem dX9_withdrawLien_20 : decode cX9_withdrawLien 20 = .ok (.lcmp, 1) := by decide +kernel
theorem dX9_withdrawLien_21 : decode cX9_withdrawLien 21 = .ok (.ifCond .ne 7, 3) := by decide +kernel
theorem dX9_withdrawLien_24 : decode cX9_withdrawLien 24 = .ok (.iconst 1, 1) := by decide +kernel
theorem dX9_withdrawLien_25 : decode cX9_withdrawLien 25 = .ok (.goto 4, 3) := by decide +kernel
theorem dX9_withdrawLien_28 : decode cX9_withdrawLien 28 = .ok (.iconst 0, 1) := by decide +kernel
theorem dX9_withdrawLien_29 : decode cX9_withdrawLien 29 = .ok (.iconst 2, 1) := by decide +kernel
theorem dX9_withdrawLien_30 : decode cX9_withdrawLien 30 = .ok (.invokevirtual 173, 3) := by decide +kernel
theorem dX9_withdrawLien_33 : decode cX9_withdrawLien 33 = .ok (.ifCond .ne 5, 3) := by decide +kernel
theorem dX9_withdrawLien_36 : decode cX9_withdrawLien 36 = .ok (.lconst 0, 1) := by decide +kernel
theorem dX9_withdrawLien_37 : decode cX9_withdrawLien 37 = .ok (.lreturn, 1) := by decide +kernel
theorem dX9_withdrawLien_38 : decode cX9_withdrawLien 38 = .ok (.aload_n 0, 1) := by decide +kernel
theorem dX9_withdrawLien_39 : decode cX9_withdrawLien 39 = .ok (.iload_n 1, 1) := by decide +kernel
theorem dX9_withdrawLien_40 : decode cX9_withdrawLien 40 = .ok (.invokevirtual 304, 3) := by decide +kernel
theorem dX9_withdrawLien_43 : decode cX9_withdrawLien 43 = .ok (.lstore_n 2, 1) := by decide +kernel
theorem dX9_withdrawLien_44 : decode cX9_withdrawLien 44 = .ok (.aload_n 0, 1) := by decide +kernel
theorem dX9_withdrawLien_45 : decode cX9_withdrawLien 45 = .ok (.invokevirtual 180, 3) := by decide +kernel
theorem dX9_withdrawLien_48 : decode cX9_withdrawLien 48 = .ok (.aload_n 0, 1) := by decide +kernel
theorem dX9_withdrawLien_49 : decode cX9_withdrawLien 49 = .ok (.iload_n 1, 1) := by decide +kernel
theorem dX9_withdrawLien_50 : decode cX9_withdrawLien 50 = .ok (.invokestatic 298, 3) := by decide +kernel
theorem dX9_withdrawLien_53 : decode cX9_withdrawLien 53 = .ok (.iconst 3, 1) := by decide +kernel
theorem dX9_withdrawLien_54 : decode cX9_withdrawLien 54 = .ok (.iadd, 1) := by decide +kernel
theorem dX9_withdrawLien_55 : decode cX9_withdrawLien 55 = .ok (.lconst 1, 1) := by decide +kernel
theorem dX9_withdrawLien_56 : decode cX9_withdrawLien 56 = .ok (.invokevirtual 183, 3) := by decide +kernel
theorem dX9_withdrawLien_59 : decode cX9_withdrawLien 59 = .ok (.lload_n 2, 1) := by decide +kernel
theorem dX9_withdrawLien_60 : decode cX9_withdrawLien 60 = .ok (.lreturn, 1) := by decide +kernel
theorem dX9_undo_0 : decode cX9_undo 0 = .ok (.aload_n 0, 1) := by decide +kernel
theorem dX9_undo_1 : decode cX9_undo 1 = .ok (.iconst 0, 1) := by decide +kernel
theorem dX9_undo_2 : decode cX9_undo 2 = .ok (.putfield 32, 3) := by decide +kernel
theorem dX9_undo_5 : decode cX9_undo 5 = .ok (.aload_n 0, 1) := by decide +kernel
theorem dX9_undo_6 : decode cX9_undo 6 = .ok (.getfield 42, 3) := by decide +kernel
theorem dX9_undo_9 : decode cX9_undo 9 = .ok (.ifCond .ne 5, 3) := by decide +kernel
theorem dX9_undo_12 : decode cX9_undo 12 = .ok (.iconst (-1), 1) := by decide +kernel
theorem dX9_undo_13 : decode cX9_undo 13 = .ok (.ireturn, 1) := by decide +kernel
theorem dX9_undo_14 : decode cX9_undo 14 = .ok (.aload_n 0, 1) := by decide +kernel
theorem dX9_undo_15 : decode cX9_undo 15 = .ok (.dup, 1) := by decide +kernel
theorem dX9_undo_16 : decode cX9_undo 16 = .ok (.getfield 42, 3) := by decide +kernel
theorem dX9_undo_19 : decode cX9_undo 19 = .ok (.iconst 1, 1) := by decide +kernel
theorem dX9_undo_20 : decode cX9_undo 20 = .ok (.isub, 1) := by decide +kernel
theorem dX9_undo_21 : decode cX9_undo 21 = .ok (.putfield 42, 3) := by decide +kernel
theorem dX9_undo_24 : decode cX9_undo 24 = .ok (.aload_n 0, 1) := by decide +kernel
theorem dX9_undo_25 : decode cX9_undo 25 = .ok (.aload_n 0, 1) := by decide +kernel
theorem dX9_undo_26 : decode cX9_undo 26 = .ok (.getfield 35, 3) := by decide +kernel
theorem dX9_undo_29 : decode cX9_undo 29 = .ok (.bipush 9, 2) := by decide +kernel
theorem dX9_undo_31 : decode cX9_undo 31 = .ok (.iadd, 1) := by decide +kernel
theorem dX9_undo_32 : decode cX9_undo 32 = .ok (.iconst 1, 1) := by decide +kernel
theorem dX9_undo_33 : decode cX9_undo 33 = .ok (.isub, 1) := by decide +kernel
theorem dX9_undo_34 : decode cX9_undo 34 = .ok (.bipush 9, 2) := by decide +kernel
theorem dX9_undo_36 : decode cX9_undo 36 = .ok (.irem, 1) := by decide +kernel
theorem dX9_undo_37 : decode cX9_undo 37 = .ok (.putfield 35, 3) := by decide +kernel
theorem dX9_undo_40 : decode cX9_undo 40 = .ok (.aload_n 0, 1) := by decide +kernel
theorem dX9_undo_41 : decode cX9_undo 41 = .ok (.getfield 42, 3) := by decide +kernel
theorem dX9_undo_44 : decode cX9_undo 44 = .ok (.ireturn, 1) := by decide +kernel
theorem dX9_checksum_0 : decode cX9_checksum 0 = .ok (.aload_n 0, 1) := by decide +kernel
theorem dX9_checksum_1 : decode cX9_checksum 1 = .ok (.iconst 0, 1) := by decide +kernel
theorem dX9_checksum_2 : decode cX9_checksum 2 = .ok (.putfield 32, 3) := by decide +kernel
theorem dX9_checksum_5 : decode cX9_checksum 5 = .ok (.aload_n 0, 1) := by decide +kernel
theorem dX9_checksum_6 : decode cX9_checksum 6 = .ok (.iconst 1, 1) := by decide +kernel
theorem dX9_checksum_7 : decode cX9_checksum 7 = .ok (.invokevirtual 38, 3) := by decide +kernel
theorem dX9_checksum_10 : decode cX9_checksum 10 = .ok (.lstore_n 1, 1) := by decide +kernel
theorem dX9_checksum_11 : decode cX9_checksum 11 = .ok (.ldc2_w 353, 3) := by decide +kernel
theorem dX9_checksum_14 : decode cX9_checksum 14 = .ok (.lload_n 1, 1) := by decide +kernel
theorem dX9_checksum_15 : decode cX9_checksum 15 = .ok (.lmul, 1) := by decide +kernel
theorem dX9_checksum_16 : decode cX9_checksum 16 = .ok (.aload_n 0, 1) := by decide +kernel
theorem dX9_checksum_17 : decode cX9_checksum 17 = .ok (.bipush 8, 2) := by decide +kernel
theorem dX9_checksum_19 : decode cX9_checksum 19 = .ok (.invokevirtual 38, 3) := by decide +kernel
theorem dX9_checksum_22 : decode cX9_checksum 22 = .ok (.ladd, 1) := by decide +kernel
theorem dX9_checksum_23 : decode cX9_checksum 23 = .ok (.lstore_n 1, 1) := by decide +kernel
theorem dX9_checksum_24 : decode cX9_checksum 24 = .ok (.iconst 0, 1) := by decide +kernel
theorem dX9_checksum_25 : decode cX9_checksum 25 = .ok (.istore_n 3, 1) := by decide +kernel
theorem dX9_checksum_26 : decode cX9_checksum 26 = .ok (.iload_n 3, 1) := by decide +kernel
theorem dX9_checksum_27 : decode cX9_checksum 27 = .ok (.i2l, 1) := by decide +kernel
theorem dX9_checksum_28 : decode cX9_checksum 28 = .ok (.aload_n 0, 1) := by decide +kernel
theorem dX9_checksum_29 : decode cX9_checksum 29 = .ok (.iconst 0, 1) := by decide +kernel
theorem dX9_checksum_30 : decode cX9_checksum 30 = .ok (.invokevirtual 38, 3) := by decide +kernel
theorem dX9_checksum_33 : decode cX9_checksum 33 = .ok (.lcmp, 1) := by decide +kernel
theorem dX9_checksum_34 : decode cX9_checksum 34 = .ok (.ifCond .ge 67, 3) := by decide +kernel
theorem dX9_checksum_37 : decode cX9_checksum 37 = .ok (.ldc2_w 353, 3) := by decide +kernel
theorem dX9_checksum_40 : decode cX9_checksum 40 = .ok (.lload_n 1, 1) := by decide +kernel
theorem dX9_checksum_41 : decode cX9_checksum 41 = .ok (.lmul, 1) := by decide +kernel
theorem dX9_checksum_42 : decode cX9_checksum 42 = .ok (.aload_n 0, 1) := by decide +kernel
theorem dX9_checksum_43 : decode cX9_checksum 43 = .ok (.bipush 9, 2) := by decide +kernel
theorem dX9_checksum_45 : decode cX9_checksum 45 = .ok (.iload_n 3, 1) := by decide +kernel
theorem dX9_checksum_46 : decode cX9_checksum 46 = .ok (.iadd, 1) := by decide +kernel
theorem dX9_checksum_47 : decode cX9_checksum 47 = .ok (.invokevirtual 38, 3) := by decide +kernel
theorem dX9_checksum_50 : decode cX9_checksum 50 = .ok (.ladd, 1) := by decide +kernel
theorem dX9_checksum_51 : decode cX9_checksum 51 = .ok (.lstore_n 1, 1) := by decide +kernel
theorem dX9_checksum_52 : decode cX9_checksum 52 = .ok (.ldc2_w 353, 3) := by decide +kernel
theorem dX9_checksum_55 : decode cX9_checksum 55 = .ok (.lload_n 1, 1) := by decide +kernel
theorem dX9_checksum_56 : decode cX9_checksum 56 = .ok (.lmul, 1) := by decide +kernel
theorem dX9_checksum_57 : decode cX9_checksum 57 = .ok (.aload_n 0, 1) := by decide +kernel
theorem dX9_checksum_58 : decode cX9_checksum 58 = .ok (.aload_n 0, 1) := by decide +kernel
theorem dX9_checksum_59 : decode cX9_checksum 59 = .ok (.iload_n 3, 1) := by decide +kernel
theorem dX9_checksum_60 : decode cX9_checksum 60 = .ok (.invokevirtual 201, 3) := by decide +kernel
theorem dX9_checksum_63 : decode cX9_checksum 63 = .ok (.bipush 6, 2) := by decide +kernel
theorem dX9_checksum_65 : decode cX9_checksum 65 = .ok (.iadd, 1) := by decide +kernel
theorem dX9_checksum_66 : decode cX9_checksum 66 = .ok (.invokevirtual 38, 3) := by decide +kernel
theorem dX9_checksum_69 : decode cX9_checksum 69 = .ok (.ladd, 1) := by decide +kernel
theorem dX9_checksum_70 : decode cX9_checksum 70 = .ok (.lstore_n 1, 1) := by decide +kernel
theorem dX9_checksum_71 : decode cX9_checksum 71 = .ok (.ldc2_w 353, 3) := by decide +kernel
theorem dX9_checksum_74 : decode cX9_checksum 74 = .ok (.lload_n 1, 1) := by decide +kernel
theorem dX9_checksum_75 : decode cX9_checksum 75 = .ok (.lmul, 1) := by decide +kernel
theorem dX9_checksum_76 : decode cX9_checksum 76 = .ok (.aload_n 0, 1) := by decide +kernel
theorem dX9_checksum_77 : decode cX9_checksum 77 = .ok (.iload_n 3, 1) := by decide +kernel
theorem dX9_checksum_78 : decode cX9_checksum 78 = .ok (.invokevirtual 240, 3) := by decide +kernel
theorem dX9_checksum_81 : decode cX9_checksum 81 = .ok (.ladd, 1) := by decide +kernel
theorem dX9_checksum_82 : decode cX9_checksum 82 = .ok (.lstore_n 1, 1) := by decide +kernel
theorem dX9_checksum_83 : decode cX9_checksum 83 = .ok (.ldc2_w 353, 3) := by decide +kernel
theorem dX9_checksum_86 : decode cX9_checksum 86 = .ok (.lload_n 1, 1) := by decide +kernel
theorem dX9_checksum_87 : decode cX9_checksum 87 = .ok (.lmul, 1) := by decide +kernel
theorem dX9_checksum_88 : decode cX9_checksum 88 = .ok (.aload_n 0, 1) := by decide +kernel
theorem dX9_checksum_89 : decode cX9_checksum 89 = .ok (.iload_n 3, 1) := by decide +kernel
theorem dX9_checksum_90 : decode cX9_checksum 90 = .ok (.invokevirtual 264, 3) := by decide +kernel
theorem dX9_checksum_93 : decode cX9_checksum 93 = .ok (.ladd, 1) := by decide +kernel
theorem dX9_checksum_94 : decode cX9_checksum 94 = .ok (.lstore_n 1, 1) := by decide +kernel
theorem dX9_checksum_95 : decode cX9_checksum 95 = .ok (.iinc 3 1, 3) := by decide +kernel
theorem dX9_checksum_98 : decode cX9_checksum 98 = .ok (.goto (-72), 3) := by decide +kernel
theorem dX9_checksum_101 : decode cX9_checksum 101 = .ok (.iconst 0, 1) := by decide +kernel
theorem dX9_checksum_102 : decode cX9_checksum 102 = .ok (.istore_n 3, 1) := by decide +kernel
theorem dX9_checksum_103 : decode cX9_checksum 103 = .ok (.iload_n 3, 1) := by decide +kernel
theorem dX9_checksum_104 : decode cX9_checksum 104 = .ok (.i2l, 1) := by decide +kernel
theorem dX9_checksum_105 : decode cX9_checksum 105 = .ok (.aload_n 0, 1) := by decide +kernel
theorem dX9_checksum_106 : decode cX9_checksum 106 = .ok (.iconst 5, 1) := by decide +kernel
theorem dX9_checksum_107 : decode cX9_checksum 107 = .ok (.invokevirtual 38, 3) := by decide +kernel
theorem dX9_checksum_110 : decode cX9_checksum 110 = .ok (.lcmp, 1) := by decide +kernel
theorem dX9_checksum_111 : decode cX9_checksum 111 = .ok (.ifCond .ge 21, 3) := by decide +kernel
theorem dX9_checksum_114 : decode cX9_checksum 114 = .ok (.ldc2_w 353, 3) := by decide +kernel
theorem dX9_checksum_117 : decode cX9_checksum 117 = .ok (.lload_n 1, 1) := by decide +kernel
theorem dX9_checksum_118 : decode cX9_checksum 118 = .ok (.lmul, 1) := by decide +kernel
theorem dX9_checksum_119 : decode cX9_checksum 119 = .ok (.aload_n 0, 1) := by decide +kernel
theorem dX9_checksum_120 : decode cX9_checksum 120 = .ok (.iload_n 3, 1) := by decide +kernel
theorem dX9_checksum_121 : decode cX9_checksum 121 = .ok (.invokevirtual 257, 3) := by decide +kernel
theorem dX9_checksum_124 : decode cX9_checksum 124 = .ok (.ladd, 1) := by decide +kernel
theorem dX9_checksum_125 : decode cX9_checksum 125 = .ok (.lstore_n 1, 1) := by decide +kernel
theorem dX9_checksum_126 : decode cX9_checksum 126 = .ok (.iinc 3 1, 3) := by decide +kernel
theorem dX9_checksum_129 : decode cX9_checksum 129 = .ok (.goto (-26), 3) := by decide +kernel
theorem dX9_checksum_132 : decode cX9_checksum 132 = .ok (.iconst 0, 1) := by decide +kernel
theorem dX9_checksum_133 : decode cX9_checksum 133 = .ok (.istore_n 3, 1) := by decide +kernel
theorem dX9_checksum_134 : decode cX9_checksum 134 = .ok (.iload_n 3, 1) := by decide +kernel
theorem dX9_checksum_135 : decode cX9_checksum 135 = .ok (.i2l, 1) := by decide +kernel
theorem dX9_checksum_136 : decode cX9_checksum 136 = .ok (.aload_n 0, 1) := by decide +kernel
theorem dX9_checksum_137 : decode cX9_checksum 137 = .ok (.bipush 6, 2) := by decide +kernel
theorem dX9_checksum_139 : decode cX9_checksum 139 = .ok (.invokevirtual 38, 3) := by decide +kernel
theorem dX9_checksum_142 : decode cX9_checksum 142 = .ok (.lcmp, 1) := by decide +kernel
theorem dX9_checksum_143 : decode cX9_checksum 143 = .ok (.ifCond .ge 21, 3) := by decide +kernel
theorem dX9_checksum_146 : decode cX9_checksum 146 = .ok (.ldc2_w 353, 3) := by decide +kernel
theorem dX9_checksum_149 : decode cX9_checksum 149 = .ok (.lload_n 1, 1) := by decide +kernel
theorem dX9_checksum_150 : decode cX9_checksum 150 = .ok (.lmul, 1) := by decide +kernel
theorem dX9_checksum_151 : decode cX9_checksum 151 = .ok (.aload_n 0, 1) := by decide +kernel
theorem dX9_checksum_152 : decode cX9_checksum 152 = .ok (.iload_n 3, 1) := by decide +kernel
theorem dX9_checksum_153 : decode cX9_checksum 153 = .ok (.invokevirtual 304, 3) := by decide +kernel
theorem dX9_checksum_156 : decode cX9_checksum 156 = .ok (.ladd, 1) := by decide +kernel
theorem dX9_checksum_157 : decode cX9_checksum 157 = .ok (.lstore_n 1, 1) := by decide +kernel
theorem dX9_checksum_158 : decode cX9_checksum 158 = .ok (.iinc 3 1, 3) := by decide +kernel
theorem dX9_checksum_161 : decode cX9_checksum 161 = .ok (.goto (-27), 3) := by decide +kernel
theorem dX9_checksum_164 : decode cX9_checksum 164 = .ok (.ldc2_w 353, 3) := by decide +kernel
theorem dX9_checksum_167 : decode cX9_checksum 167 = .ok (.lload_n 1, 1) := by decide +kernel
theorem dX9_checksum_168 : decode cX9_checksum 168 = .ok (.lmul, 1) := by decide +kernel
theorem dX9_checksum_169 : decode cX9_checksum 169 = .ok (.aload_n 0, 1) := by decide +kernel
theorem dX9_checksum_170 : decode cX9_checksum 170 = .ok (.iconst 4, 1) := by decide +kernel
theorem dX9_checksum_171 : decode cX9_checksum 171 = .ok (.invokevirtual 38, 3) := by decide +kernel
theorem dX9_checksum_174 : decode cX9_checksum 174 = .ok (.ladd, 1) := by decide +kernel
theorem dX9_checksum_175 : decode cX9_checksum 175 = .ok (.lreturn, 1) := by decide +kernel
theorem dL_load_0 : decode cL_load 0 = .ok (.aload_n 2, 1) := by decide +kernel
theorem dL_load_1 : decode cL_load 1 = .ok (.iconst 0, 1) := by decide +kernel
theorem dL_load_2 : decode cL_load 2 = .ok (.aload_n 0, 1) := by decide +kernel
theorem dL_load_3 : decode cL_load 3 = .ok (.iload_n 1, 1) := by decide +kernel
theorem dL_load_4 : decode cL_load 4 = .ok (.invokevirtual 7, 3) := by decide +kernel
theorem dL_load_7 : decode cL_load 7 = .ok (.i2l, 1) := by decide +kernel
theorem dL_load_8 : decode cL_load 8 = .ok (.lastore, 1) := by decide +kernel
theorem dL_load_9 : decode cL_load 9 = .ok (.goto 6, 3) := by decide +kernel
theorem dL_load_12 : decode cL_load 12 = .ok (.astore_n 3, 1) := by decide +kernel
theorem dL_load_13 : decode cL_load 13 = .ok (.iconst 1, 1) := by decide +kernel
theorem dL_load_14 : decode cL_load 14 = .ok (.ireturn, 1) := by decide +kernel
theorem dL_load_15 : decode cL_load 15 = .ok (.iconst 0, 1) := by decide +kernel
theorem dL_load_16 : decode cL_load 16 = .ok (.ireturn, 1) := by decide +kernel
theorem dL_parent_0 : decode cL_parent 0 = .ok (.aload_n 2, 1) := by decide +kernel
theorem dL_parent_1 : decode cL_parent 1 = .ok (.iconst 0, 1) := by decide +kernel
theorem dL_parent_2 : decode cL_parent 2 = .ok (.aload_n 0, 1) := by decide +kernel
theorem dL_parent_3 : decode cL_parent 3 = .ok (.iload_n 1, 1) := by decide +kernel
theorem dL_parent_4 : decode cL_parent 4 = .ok (.invokevirtual 15, 3) := by decide +kernel
theorem dL_parent_7 : decode cL_parent 7 = .ok (.i2l, 1) := by decide +kernel
theorem dL_parent_8 : decode cL_parent 8 = .ok (.lastore, 1) := by decide +kernel
theorem dL_parent_9 : decode cL_parent 9 = .ok (.goto 6, 3) := by decide +kernel
theorem dL_parent_12 : decode cL_parent 12 = .ok (.astore_n 3, 1) := by decide +kernel
theorem dL_parent_13 : decode cL_parent 13 = .ok (.iconst 1, 1) := by decide +kernel
theorem dL_parent_14 : decode cL_parent 14 = .ok (.ireturn, 1) := by decide +kernel
theorem dL_parent_15 : decode cL_parent 15 = .ok (.iconst 0, 1) := by decide +kernel
theorem dL_parent_16 : decode cL_parent 16 = .ok (.ireturn, 1) := by decide +kernel
theorem dL_itemCount_0 : decode cL_itemCount 0 = .ok (.aload_n 2, 1) := by decide +kernel
theorem dL_itemCount_1 : decode cL_itemCount 1 = .ok (.iconst 0, 1) := by decide +kernel
theorem dL_itemCount_2 : decode cL_itemCount 2 = .ok (.aload_n 0, 1) := by decide +kernel
theorem dL_itemCount_3 : decode cL_itemCount 3 = .ok (.iload_n 1, 1) := by decide +kernel
theorem dL_itemCount_4 : decode cL_itemCount 4 = .ok (.invokevirtual 20, 3) := by decide +kernel
theorem dL_itemCount_7 : decode cL_itemCount 7 = .ok (.i2l, 1) := by decide +kernel
theorem dL_itemCount_8 : decode cL_itemCount 8 = .ok (.lastore, 1) := by decide +kernel
theorem dL_itemCount_9 : decode cL_itemCount 9 = .ok (.goto 6, 3) := by decide +kernel
theorem dL_itemCount_12 : decode cL_itemCount 12 = .ok (.astore_n 3, 1) := by decide +kernel
theorem dL_itemCount_13 : decode cL_itemCount 13 = .ok (.iconst 1, 1) := by decide +kernel
theorem dL_itemCount_14 : decode cL_itemCount 14 = .ok (.ireturn, 1) := by decide +kernel
theorem dL_itemCount_15 : decode cL_itemCount 15 = .ok (.iconst 0, 1) := by decide +kernel
theorem dL_itemCount_16 : decode cL_itemCount 16 = .ok (.ireturn, 1) := by decide +kernel
theorem dL_quantity_0 : decode cL_quantity 0 = .ok (.aload_n 3, 1) := by decide +kernel
theorem dL_quantity_1 : decode cL_quantity 1 = .ok (.iconst 0, 1) := by decide +kernel
theorem dL_quantity_2 : decode cL_quantity 2 = .ok (.aload_n 0, 1) := by decide +kernel
theorem dL_quantity_3 : decode cL_quantity 3 = .ok (.iload_n 1, 1) := by decide +kernel
theorem dL_quantity_4 : decode cL_quantity 4 = .ok (.iload_n 2, 1) := by decide +kernel
theorem dL_quantity_5 : decode cL_quantity 5 = .ok (.invokevirtual 23, 3) := by decide +kernel
theorem dL_quantity_8 : decode cL_quantity 8 = .ok (.i2l, 1) := by decide +kernel
theorem dL_quantity_9 : decode cL_quantity 9 = .ok (.lastore, 1) := by decide +kernel
theorem dL_quantity_10 : decode cL_quantity 10 = .ok (.goto 7, 3) := by decide +kernel
theorem dL_quantity_13 : decode cL_quantity 13 = .ok (.astore 4, 2) := by decide +kernel
theorem dL_quantity_15 : decode cL_quantity 15 = .ok (.iconst 1, 1) := by decide +kernel
theorem dL_quantity_16 : decode cL_quantity 16 = .ok (.ireturn, 1) := by decide +kernel
theorem dL_quantity_17 : decode cL_quantity 17 = .ok (.iconst 0, 1) := by decide +kernel
theorem dL_quantity_18 : decode cL_quantity 18 = .ok (.ireturn, 1) := by decide +kernel
theorem dL_specialRate_0 : decode cL_specialRate 0 = .ok (.aload_n 3, 1) := by decide +kernel
theorem dL_specialRate_1 : decode cL_specialRate 1 = .ok (.iconst 0, 1) := by decide +kernel
theorem dL_specialRate_2 : decode cL_specialRate 2 = .ok (.aload_n 0, 1) := by decide +kernel
theorem dL_specialRate_3 : decode cL_specialRate 3 = .ok (.iload_n 1, 1) := by decide +kernel
theorem dL_specialRate_4 : decode cL_specialRate 4 = .ok (.iload_n 2, 1) := by decide +kernel
theorem dL_specialRate_5 : decode cL_specialRate 5 = .ok (.invokevirtual 27, 3) := by decide +kernel
theorem dL_specialRate_8 : decode cL_specialRate 8 = .ok (.i2l, 1) := by decide +kernel
theorem dL_specialRate_9 : decode cL_specialRate 9 = .ok (.lastore, 1) := by decide +kernel
theorem dL_specialRate_10 : decode cL_specialRate 10 = .ok (.goto 7, 3) := by decide +kernel
theorem dL_specialRate_13 : decode cL_specialRate 13 = .ok (.astore 4, 2) := by decide +kernel
theorem dL_specialRate_15 : decode cL_specialRate 15 = .ok (.iconst 1, 1) := by decide +kernel
theorem dL_specialRate_16 : decode cL_specialRate 16 = .ok (.ireturn, 1) := by decide +kernel
theorem dL_specialRate_17 : decode cL_specialRate 17 = .ok (.iconst 0, 1) := by decide +kernel
theorem dL_specialRate_18 : decode cL_specialRate 18 = .ok (.ireturn, 1) := by decide +kernel
theorem dL_itemValue_0 : decode cL_itemValue 0 = .ok (.aload_n 3, 1) := by decide +kernel
theorem dL_itemValue_1 : decode cL_itemValue 1 = .ok (.iconst 0, 1) := by decide +kernel
theorem dL_itemValue_2 : decode cL_itemValue 2 = .ok (.aload_n 0, 1) := by decide +kernel
theorem dL_itemValue_3 : decode cL_itemValue 3 = .ok (.iload_n 1, 1) := by decide +kernel
theorem dL_itemValue_4 : decode cL_itemValue 4 = .ok (.iload_n 2, 1) := by decide +kernel
theorem dL_itemValue_5 : decode cL_itemValue 5 = .ok (.invokevirtual 30, 3) := by decide +kernel
theorem dL_itemValue_8 : decode cL_itemValue 8 = .ok (.lastore, 1) := by decide +kernel
theorem dL_itemValue_9 : decode cL_itemValue 9 = .ok (.goto 7, 3) := by decide +kernel
theorem dL_itemValue_12 : decode cL_itemValue 12 = .ok (.astore 4, 2) := by decide +kernel
theorem dL_itemValue_14 : decode cL_itemValue 14 = .ok (.iconst 1, 1) := by decide +kernel
theorem dL_itemValue_15 : decode cL_itemValue 15 = .ok (.ireturn, 1) := by decide +kernel
theorem dL_itemValue_16 : decode cL_itemValue 16 = .ok (.iconst 0, 1) := by decide +kernel
theorem dL_itemValue_17 : decode cL_itemValue 17 = .ok (.ireturn, 1) := by decide +kernel
theorem dL_firstSum_0 : decode cL_firstSum 0 = .ok (.aload_n 2, 1) := by decide +kernel
theorem dL_firstSum_1 : decode cL_firstSum 1 = .ok (.iconst 0, 1) := by decide +kernel
theorem dL_firstSum_2 : decode cL_firstSum 2 = .ok (.aload_n 0, 1) := by decide +kernel
theorem dL_firstSum_3 : decode cL_firstSum 3 = .ok (.iload_n 1, 1) := by decide +kernel
theorem dL_firstSum_4 : decode cL_firstSum 4 = .ok (.invokevirtual 34, 3) := by decide +kernel
theorem dL_firstSum_7 : decode cL_firstSum 7 = .ok (.lastore, 1) := by decide +kernel
theorem dL_firstSum_8 : decode cL_firstSum 8 = .ok (.goto 6, 3) := by decide +kernel
theorem dL_firstSum_11 : decode cL_firstSum 11 = .ok (.astore_n 3, 1) := by decide +kernel
theorem dL_firstSum_12 : decode cL_firstSum 12 = .ok (.iconst 1, 1) := by decide +kernel
theorem dL_firstSum_13 : decode cL_firstSum 13 = .ok (.ireturn, 1) := by decide +kernel
theorem dL_firstSum_14 : decode cL_firstSum 14 = .ok (.iconst 0, 1) := by decide +kernel
theorem dL_firstSum_15 : decode cL_firstSum 15 = .ok (.ireturn, 1) := by decide +kernel
theorem dL_presentSum_0 : decode cL_presentSum 0 = .ok (.aload_n 2, 1) := by decide +kernel
theorem dL_presentSum_1 : decode cL_presentSum 1 = .ok (.iconst 0, 1) := by decide +kernel
theorem dL_presentSum_2 : decode cL_presentSum 2 = .ok (.aload_n 0, 1) := by decide +kernel
theorem dL_presentSum_3 : decode cL_presentSum 3 = .ok (.iload_n 1, 1) := by decide +kernel
theorem dL_presentSum_4 : decode cL_presentSum 4 = .ok (.invokevirtual 38, 3) := by decide +kernel
theorem dL_presentSum_7 : decode cL_presentSum 7 = .ok (.lastore, 1) := by decide +kernel
theorem dL_presentSum_8 : decode cL_presentSum 8 = .ok (.goto 6, 3) := by decide +kernel
theorem dL_presentSum_11 : decode cL_presentSum 11 = .ok (.astore_n 3, 1) := by decide +kernel
theorem dL_presentSum_12 : decode cL_presentSum 12 = .ok (.iconst 1, 1) := by decide +kernel
theorem dL_presentSum_13 : decode cL_presentSum 13 = .ok (.ireturn, 1) := by decide +kernel
theorem dL_presentSum_14 : decode cL_presentSum 14 = .ok (.iconst 0, 1) := by decide +kernel
theorem dL_presentSum_15 : decode cL_presentSum 15 = .ok (.ireturn, 1) := by decide +kernel
theorem dL_grossValue_0 : decode cL_grossValue 0 = .ok (.aload_n 2, 1) := by decide +kernel
theorem dL_grossValue_1 : decode cL_grossValue 1 = .ok (.iconst 0, 1) := by decide +kernel
theorem dL_grossValue_2 : decode cL_grossValue 2 = .ok (.aload_n 0, 1) := by decide +kernel
theorem dL_grossValue_3 : decode cL_grossValue 3 = .ok (.iload_n 1, 1) := by decide +kernel
theorem dL_grossValue_4 : decode cL_grossValue 4 = .ok (.invokevirtual 41, 3) := by decide +kernel
theorem dL_grossValue_7 : decode cL_grossValue 7 = .ok (.lastore, 1) := by decide +kernel
theorem dL_grossValue_8 : decode cL_grossValue 8 = .ok (.goto 6, 3) := by decide +kernel
theorem dL_grossValue_11 : decode cL_grossValue 11 = .ok (.astore_n 3, 1) := by decide +kernel
theorem dL_grossValue_12 : decode cL_grossValue 12 = .ok (.iconst 1, 1) := by decide +kernel
theorem dL_grossValue_13 : decode cL_grossValue 13 = .ok (.ireturn, 1) := by decide +kernel
theorem dL_grossValue_14 : decode cL_grossValue 14 = .ok (.iconst 0, 1) := by decide +kernel
theorem dL_grossValue_15 : decode cL_grossValue 15 = .ok (.ireturn, 1) := by decide +kernel
theorem dL_retention_0 : decode cL_retention 0 = .ok (.aload_n 2, 1) := by decide +kernel
theorem dL_retention_1 : decode cL_retention 1 = .ok (.iconst 0, 1) := by decide +kernel
theorem dL_retention_2 : decode cL_retention 2 = .ok (.aload_n 0, 1) := by decide +kernel
theorem dL_retention_3 : decode cL_retention 3 = .ok (.iload_n 1, 1) := by decide +kernel
theorem dL_retention_4 : decode cL_retention 4 = .ok (.invokevirtual 44, 3) := by decide +kernel
theorem dL_retention_7 : decode cL_retention 7 = .ok (.lastore, 1) := by decide +kernel
theorem dL_retention_8 : decode cL_retention 8 = .ok (.goto 6, 3) := by decide +kernel
theorem dL_retention_11 : decode cL_retention 11 = .ok (.astore_n 3, 1) := by decide +kernel
theorem dL_retention_12 : decode cL_retention 12 = .ok (.iconst 1, 1) := by decide +kernel
theorem dL_retention_13 : decode cL_retention 13 = .ok (.ireturn, 1) := by decide +kernel
theorem dL_retention_14 : decode cL_retention 14 = .ok (.iconst 0, 1) := by decide +kernel
theorem dL_retention_15 : decode cL_retention 15 = .ok (.ireturn, 1) := by decide +kernel
theorem dL_certified_0 : decode cL_certified 0 = .ok (.aload_n 2, 1) := by decide +kernel
theorem dL_certified_1 : decode cL_certified 1 = .ok (.iconst 0, 1) := by decide +kernel
theorem dL_certified_2 : decode cL_certified 2 = .ok (.aload_n 0, 1) := by decide +kernel
theorem dL_certified_3 : decode cL_certified 3 = .ok (.iload_n 1, 1) := by decide +kernel
theorem dL_certified_4 : decode cL_certified 4 = .ok (.invokevirtual 47, 3) := by decide +kernel
theorem dL_certified_7 : decode cL_certified 7 = .ok (.lastore, 1) := by decide +kernel
theorem dL_certified_8 : decode cL_certified 8 = .ok (.goto 6, 3) := by decide +kernel
theorem dL_certified_11 : decode cL_certified 11 = .ok (.astore_n 3, 1) := by decide +kernel
theorem dL_certified_12 : decode cL_certified 12 = .ok (.iconst 1, 1) := by decide +kernel
theorem dL_certified_13 : decode cL_certified 13 = .ok (.ireturn, 1) := by decide +kernel
theorem dL_certified_14 : decode cL_certified 14 = .ok (.iconst 0, 1) := by decide +kernel
theorem dL_certified_15 : decode cL_certified 15 = .ok (.ireturn, 1) := by decide +kernel
theorem dL_unpaid_0 : decode cL_unpaid 0 = .ok (.aload_n 2, 1) := by decide +kernel
theorem dL_unpaid_1 : decode cL_unpaid 1 = .ok (.iconst 0, 1) := by decide +kernel
theorem dL_unpaid_2 : decode cL_unpaid 2 = .ok (.aload_n 0, 1) := by decide +kernel
theorem dL_unpaid_3 : decode cL_unpaid 3 = .ok (.iload_n 1, 1) := by decide +kernel
theorem dL_unpaid_4 : decode cL_unpaid 4 = .ok (.invokevirtual 50, 3) := by decide +kernel
theorem dL_unpaid_7 : decode cL_unpaid 7 = .ok (.lastore, 1) := by decide +kernel
theorem dL_unpaid_8 : decode cL_unpaid 8 = .ok (.goto 6, 3) := by decide +kernel
theorem dL_unpaid_11 : decode cL_unpaid 11 = .ok (.astore_n 3, 1) := by decide +kernel
theorem dL_unpaid_12 : decode cL_unpaid 12 = .ok (.iconst 1, 1) := by decide +kernel
theorem dL_unpaid_13 : decode cL_unpaid 13 = .ok (.ireturn, 1) := by decide +kernel
theorem dL_unpaid_14 : decode cL_unpaid 14 = .ok (.iconst 0, 1) := by decide +kernel
theorem dL_unpaid_15 : decode cL_unpaid 15 = .ok (.ireturn, 1) := by decide +kernel
theorem dL_overdue_0 : decode cL_overdue 0 = .ok (.aload_n 2, 1) := by decide +kernel
theorem dL_overdue_1 : decode cL_overdue 1 = .ok (.iconst 0, 1) := by decide +kernel
theorem dL_overdue_2 : decode cL_overdue 2 = .ok (.aload_n 0, 1) := by decide +kernel
theorem dL_overdue_3 : decode cL_overdue 3 = .ok (.iload_n 1, 1) := by decide +kernel
theorem dL_overdue_4 : decode cL_overdue 4 = .ok (.invokevirtual 53, 3) := by decide +kernel
theorem dL_overdue_7 : decode cL_overdue 7 = .ok (.lastore, 1) := by decide +kernel
theorem dL_overdue_8 : decode cL_overdue 8 = .ok (.goto 6, 3) := by decide +kernel
theorem dL_overdue_11 : decode cL_overdue 11 = .ok (.astore_n 3, 1) := by decide +kernel
theorem dL_overdue_12 : decode cL_overdue 12 = .ok (.iconst 1, 1) := by decide +kernel
theorem dL_overdue_13 : decode cL_overdue 13 = .ok (.ireturn, 1) := by decide +kernel
theorem dL_overdue_14 : decode cL_overdue 14 = .ok (.iconst 0, 1) := by decide +kernel
theorem dL_overdue_15 : decode cL_overdue 15 = .ok (.ireturn, 1) := by decide +kernel
theorem dL_stage_0 : decode cL_stage 0 = .ok (.aload_n 2, 1) := by decide +kernel
theorem dL_stage_1 : decode cL_stage 1 = .ok (.iconst 0, 1) := by decide +kernel
theorem dL_stage_2 : decode cL_stage 2 = .ok (.aload_n 0, 1) := by decide +kernel
theorem dL_stage_3 : decode cL_stage 3 = .ok (.iload_n 1, 1) := by decide +kernel
theorem dL_stage_4 : decode cL_stage 4 = .ok (.invokevirtual 56, 3) := by decide +kernel
theorem dL_stage_7 : decode cL_stage 7 = .ok (.i2l, 1) := by decide +kernel
theorem dL_stage_8 : decode cL_stage 8 = .ok (.lastore, 1) := by decide +kernel
theorem dL_stage_9 : decode cL_stage 9 = .ok (.goto 6, 3) := by decide +kernel
theorem dL_stage_12 : decode cL_stage 12 = .ok (.astore_n 3, 1) := by decide +kernel
theorem dL_stage_13 : decode cL_stage 13 = .ok (.iconst 1, 1) := by decide +kernel
theorem dL_stage_14 : decode cL_stage 14 = .ok (.ireturn, 1) := by decide +kernel
theorem dL_stage_15 : decode cL_stage 15 = .ok (.iconst 0, 1) := by decide +kernel
theorem dL_stage_16 : decode cL_stage 16 = .ok (.ireturn, 1) := by decide +kernel
theorem dL_margin_0 : decode cL_margin 0 = .ok (.aload_n 2, 1) := by decide +kernel
theorem dL_margin_1 : decode cL_margin 1 = .ok (.iconst 0, 1) := by decide +kernel
theorem dL_margin_2 : decode cL_margin 2 = .ok (.aload_n 0, 1) := by decide +kernel
theorem dL_margin_3 : decode cL_margin 3 = .ok (.iload_n 1, 1) := by decide +kernel
theorem dL_margin_4 : decode cL_margin 4 = .ok (.invokevirtual 59, 3) := by decide +kernel
theorem dL_margin_7 : decode cL_margin 7 = .ok (.lastore, 1) := by decide +kernel
theorem dL_margin_8 : decode cL_margin 8 = .ok (.goto 6, 3) := by decide +kernel
theorem dL_margin_11 : decode cL_margin 11 = .ok (.astore_n 3, 1) := by decide +kernel
theorem dL_margin_12 : decode cL_margin 12 = .ok (.iconst 1, 1) := by decide +kernel
theorem dL_margin_13 : decode cL_margin 13 = .ok (.ireturn, 1) := by decide +kernel
theorem dL_margin_14 : decode cL_margin 14 = .ok (.iconst 0, 1) := by decide +kernel
theorem dL_margin_15 : decode cL_margin 15 = .ok (.ireturn, 1) := by decide +kernel
theorem dL_account_0 : decode cL_account 0 = .ok (.aload_n 2, 1) := by decide +kernel
theorem dL_account_1 : decode cL_account 1 = .ok (.iconst 0, 1) := by decide +kernel
theorem dL_account_2 : decode cL_account 2 = .ok (.aload_n 0, 1) := by decide +kernel
theorem dL_account_3 : decode cL_account 3 = .ok (.iload_n 1, 1) := by decide +kernel
theorem dL_account_4 : decode cL_account 4 = .ok (.invokevirtual 62, 3) := by decide +kernel
theorem dL_account_7 : decode cL_account 7 = .ok (.lastore, 1) := by decide +kernel
theorem dL_account_8 : decode cL_account 8 = .ok (.goto 6, 3) := by decide +kernel
theorem dL_account_11 : decode cL_account 11 = .ok (.astore_n 3, 1) := by decide +kernel
theorem dL_account_12 : decode cL_account 12 = .ok (.iconst 1, 1) := by decide +kernel
theorem dL_account_13 : decode cL_account 13 = .ok (.ireturn, 1) := by decide +kernel
theorem dL_account_14 : decode cL_account 14 = .ok (.iconst 0, 1) := by decide +kernel
theorem dL_account_15 : decode cL_account 15 = .ok (.ireturn, 1) := by decide +kernel
theorem dL_certificateContract_0 : decode cL_certificateContract 0 = .ok (.aload_n 2, 1) := by decide +kernel
theorem dL_certificateContract_1 : decode cL_certificateContract 1 = .ok (.iconst 0, 1) := by decide +kernel
theorem dL_certificateContract_2 : decode cL_certificateContract 2 = .ok (.aload_n 0, 1) := by decide +kernel
theorem dL_certificateContract_3 : decode cL_certificateContract 3 = .ok (.iload_n 1, 1) := by decide +kernel
theorem dL_certificateContract_4 : decode cL_certificateContract 4 = .ok (.invokevirtual 65, 3) := by decide +kernel
theorem dL_certificateContract_7 : decode cL_certificateContract 7 = .ok (.i2l, 1) := by decide +kernel
theorem dL_certificateContract_8 : decode cL_certificateContract 8 = .ok (.lastore, 1) := by decide +kernel
theorem dL_certificateContract_9 : decode cL_certificateContract 9 = .ok (.goto 6, 3) := by decide +kernel
theorem dL_certificateContract_12 : decode cL_certificateContract 12 = .ok (.astore_n 3, 1) := by decide +kernel
theorem dL_certificateContract_13 : decode cL_certificateContract 13 = .ok (.iconst 1, 1) := by decide +kernel
theorem dL_certificateContract_14 : decode cL_certificateContract 14 = .ok (.ireturn, 1) := by decide +kernel
theorem dL_certificateContract_15 : decode cL_certificateContract 15 = .ok (.iconst 0, 1) := by decide +kernel
theorem dL_certificateContract_16 : decode cL_certificateContract 16 = .ok (.ireturn, 1) := by decide +kernel
theorem dL_amount_0 : decode cL_amount 0 = .ok (.aload_n 2, 1) := by decide +kernel
theorem dL_amount_1 : decode cL_amount 1 = .ok (.iconst 0, 1) := by decide +kernel
theorem dL_amount_2 : decode cL_amount 2 = .ok (.aload_n 0, 1) := by decide +kernel
theorem dL_amount_3 : decode cL_amount 3 = .ok (.iload_n 1, 1) := by decide +kernel
theorem dL_amount_4 : decode cL_amount 4 = .ok (.invokevirtual 68, 3) := by decide +kernel
theorem dL_amount_7 : decode cL_amount 7 = .ok (.lastore, 1) := by decide +kernel
theorem dL_amount_8 : decode cL_amount 8 = .ok (.goto 6, 3) := by decide +kernel
theorem dL_amount_11 : decode cL_amount 11 = .ok (.astore_n 3, 1) := by decide +kernel
theorem dL_amount_12 : decode cL_amount 12 = .ok (.iconst 1, 1) := by decide +kernel
theorem dL_amount_13 : decode cL_amount 13 = .ok (.ireturn, 1) := by decide +kernel
theorem dL_amount_14 : decode cL_amount 14 = .ok (.iconst 0, 1) := by decide +kernel
theorem dL_amount_15 : decode cL_amount 15 = .ok (.ireturn, 1) := by decide +kernel
theorem dL_openAmount_0 : decode cL_openAmount 0 = .ok (.aload_n 2, 1) := by decide +kernel
theorem dL_openAmount_1 : decode cL_openAmount 1 = .ok (.iconst 0, 1) := by decide +kernel
theorem dL_openAmount_2 : decode cL_openAmount 2 = .ok (.aload_n 0, 1) := by decide +kernel
theorem dL_openAmount_3 : decode cL_openAmount 3 = .ok (.iload_n 1, 1) := by decide +kernel
theorem dL_openAmount_4 : decode cL_openAmount 4 = .ok (.invokevirtual 71, 3) := by decide +kernel
theorem dL_openAmount_7 : decode cL_openAmount 7 = .ok (.lastore, 1) := by decide +kernel
theorem dL_openAmount_8 : decode cL_openAmount 8 = .ok (.goto 6, 3) := by decide +kernel
theorem dL_openAmount_11 : decode cL_openAmount 11 = .ok (.astore_n 3, 1) := by decide +kernel
theorem dL_openAmount_12 : decode cL_openAmount 12 = .ok (.iconst 1, 1) := by decide +kernel
theorem dL_openAmount_13 : decode cL_openAmount 13 = .ok (.ireturn, 1) := by decide +kernel
theorem dL_openAmount_14 : decode cL_openAmount 14 = .ok (.iconst 0, 1) := by decide +kernel
theorem dL_openAmount_15 : decode cL_openAmount 15 = .ok (.ireturn, 1) := by decide +kernel
theorem dL_dueDay_0 : decode cL_dueDay 0 = .ok (.aload_n 2, 1) := by decide +kernel
theorem dL_dueDay_1 : decode cL_dueDay 1 = .ok (.iconst 0, 1) := by decide +kernel
theorem dL_dueDay_2 : decode cL_dueDay 2 = .ok (.aload_n 0, 1) := by decide +kernel
theorem dL_dueDay_3 : decode cL_dueDay 3 = .ok (.iload_n 1, 1) := by decide +kernel
theorem dL_dueDay_4 : decode cL_dueDay 4 = .ok (.invokevirtual 74, 3) := by decide +kernel
theorem dL_dueDay_7 : decode cL_dueDay 7 = .ok (.i2l, 1) := by decide +kernel
theorem dL_dueDay_8 : decode cL_dueDay 8 = .ok (.lastore, 1) := by decide +kernel
theorem dL_dueDay_9 : decode cL_dueDay 9 = .ok (.goto 6, 3) := by decide +kernel
theorem dL_dueDay_12 : decode cL_dueDay 12 = .ok (.astore_n 3, 1) := by decide +kernel
theorem dL_dueDay_13 : decode cL_dueDay 13 = .ok (.iconst 1, 1) := by decide +kernel
theorem dL_dueDay_14 : decode cL_dueDay 14 = .ok (.ireturn, 1) := by decide +kernel
theorem dL_dueDay_15 : decode cL_dueDay 15 = .ok (.iconst 0, 1) := by decide +kernel
theorem dL_dueDay_16 : decode cL_dueDay 16 = .ok (.ireturn, 1) := by decide +kernel
theorem dL_isBlocked_0 : decode cL_isBlocked 0 = .ok (.aload_n 2, 1) := by decide +kernel
theorem dL_isBlocked_1 : decode cL_isBlocked 1 = .ok (.iconst 0, 1) := by decide +kernel
theorem dL_isBlocked_2 : decode cL_isBlocked 2 = .ok (.aload_n 0, 1) := by decide +kernel
theorem dL_isBlocked_3 : decode cL_isBlocked 3 = .ok (.iload_n 1, 1) := by decide +kernel
theorem dL_isBlocked_4 : decode cL_isBlocked 4 = .ok (.invokevirtual 77, 3) := by decide +kernel
theorem dL_isBlocked_7 : decode cL_isBlocked 7 = .ok (.ifCond .eq 7, 3) := by decide +kernel
theorem dL_isBlocked_10 : decode cL_isBlocked 10 = .ok (.lconst 1, 1) := by decide +kernel
theorem dL_isBlocked_11 : decode cL_isBlocked 11 = .ok (.goto 4, 3) := by decide +kernel
theorem dL_isBlocked_14 : decode cL_isBlocked 14 = .ok (.lconst 0, 1) := by decide +kernel
theorem dL_isBlocked_15 : decode cL_isBlocked 15 = .ok (.lastore, 1) := by decide +kernel
theorem dL_isBlocked_16 : decode cL_isBlocked 16 = .ok (.goto 6, 3) := by decide +kernel
theorem dL_isBlocked_19 : decode cL_isBlocked 19 = .ok (.astore_n 3, 1) := by decide +kernel
theorem dL_isBlocked_20 : decode cL_isBlocked 20 = .ok (.iconst 1, 1) := by decide +kernel
theorem dL_isBlocked_21 : decode cL_isBlocked 21 = .ok (.ireturn, 1) := by decide +kernel
theorem dL_isBlocked_22 : decode cL_isBlocked 22 = .ok (.iconst 0, 1) := by decide +kernel
theorem dL_isBlocked_23 : decode cL_isBlocked 23 = .ok (.ireturn, 1) := by decide +kernel
theorem dL_settleDays_0 : decode cL_settleDays 0 = .ok (.aload_n 3, 1) := by decide +kernel
theorem dL_settleDays_1 : decode cL_settleDays 1 = .ok (.iconst 0, 1) := by decide +kernel
theorem dL_settleDays_2 : decode cL_settleDays 2 = .ok (.aload_n 0, 1) := by decide +kernel
theorem dL_settleDays_3 : decode cL_settleDays 3 = .ok (.iload_n 1, 1) := by decide +kernel
theorem dL_settleDays_4 : decode cL_settleDays 4 = .ok (.iload_n 2, 1) := by decide +kernel
theorem dL_settleDays_5 : decode cL_settleDays 5 = .ok (.invokevirtual 81, 3) := by decide +kernel
theorem dL_settleDays_8 : decode cL_settleDays 8 = .ok (.i2l, 1) := by decide +kernel
theorem dL_settleDays_9 : decode cL_settleDays 9 = .ok (.lastore, 1) := by decide +kernel
theorem dL_settleDays_10 : decode cL_settleDays 10 = .ok (.goto 11, 3) := by decide +kernel
theorem dL_settleDays_13 : decode cL_settleDays 13 = .ok (.astore 4, 2) := by decide +kernel
theorem dL_settleDays_15 : decode cL_settleDays 15 = .ok (.iconst 1, 1) := by decide +kernel
theorem dL_settleDays_16 : decode cL_settleDays 16 = .ok (.ireturn, 1) := by decide +kernel
theorem dL_settleDays_17 : decode cL_settleDays 17 = .ok (.astore 4, 2) := by decide +kernel
theorem dL_settleDays_19 : decode cL_settleDays 19 = .ok (.iconst 2, 1) := by decide +kernel
theorem dL_settleDays_20 : decode cL_settleDays 20 = .ok (.ireturn, 1) := by decide +kernel
theorem dL_settleDays_21 : decode cL_settleDays 21 = .ok (.iconst 0, 1) := by decide +kernel
theorem dL_settleDays_22 : decode cL_settleDays 22 = .ok (.ireturn, 1) := by decide +kernel
theorem dL_isApproved_0 : decode cL_isApproved 0 = .ok (.aload_n 2, 1) := by decide +kernel
theorem dL_isApproved_1 : decode cL_isApproved 1 = .ok (.iconst 0, 1) := by decide +kernel
theorem dL_isApproved_2 : decode cL_isApproved 2 = .ok (.aload_n 0, 1) := by decide +kernel
theorem dL_isApproved_3 : decode cL_isApproved 3 = .ok (.iload_n 1, 1) := by decide +kernel
theorem dL_isApproved_4 : decode cL_isApproved 4 = .ok (.invokevirtual 84, 3) := by decide +kernel
theorem dL_isApproved_7 : decode cL_isApproved 7 = .ok (.ifCond .eq 7, 3) := by decide +kernel
theorem dL_isApproved_10 : decode cL_isApproved 10 = .ok (.lconst 1, 1) := by decide +kernel
theorem dL_isApproved_11 : decode cL_isApproved 11 = .ok (.goto 4, 3) := by decide +kernel
theorem dL_isApproved_14 : decode cL_isApproved 14 = .ok (.lconst 0, 1) := by decide +kernel
theorem dL_isApproved_15 : decode cL_isApproved 15 = .ok (.lastore, 1) := by decide +kernel
theorem dL_isApproved_16 : decode cL_isApproved 16 = .ok (.goto 6, 3) := by decide +kernel
theorem dL_isApproved_19 : decode cL_isApproved 19 = .ok (.astore_n 3, 1) := by decide +kernel
theorem dL_isApproved_20 : decode cL_isApproved 20 = .ok (.iconst 1, 1) := by decide +kernel
theorem dL_isApproved_21 : decode cL_isApproved 21 = .ok (.ireturn, 1) := by decide +kernel
theorem dL_isApproved_22 : decode cL_isApproved 22 = .ok (.iconst 0, 1) := by decide +kernel
theorem dL_isApproved_23 : decode cL_isApproved 23 = .ok (.ireturn, 1) := by decide +kernel
theorem dL_variationWorth_0 : decode cL_variationWorth 0 = .ok (.aload_n 2, 1) := by decide +kernel
theorem dL_variationWorth_1 : decode cL_variationWorth 1 = .ok (.iconst 0, 1) := by decide +kernel
theorem dL_variationWorth_2 : decode cL_variationWorth 2 = .ok (.aload_n 0, 1) := by decide +kernel
theorem dL_variationWorth_3 : decode cL_variationWorth 3 = .ok (.iload_n 1, 1) := by decide +kernel
theorem dL_variationWorth_4 : decode cL_variationWorth 4 = .ok (.invokevirtual 87, 3) := by decide +kernel
theorem dL_variationWorth_7 : decode cL_variationWorth 7 = .ok (.lastore, 1) := by decide +kernel
theorem dL_variationWorth_8 : decode cL_variationWorth 8 = .ok (.goto 6, 3) := by decide +kernel
theorem dL_variationWorth_11 : decode cL_variationWorth 11 = .ok (.astore_n 3, 1) := by decide +kernel
theorem dL_variationWorth_12 : decode cL_variationWorth 12 = .ok (.iconst 1, 1) := by decide +kernel
theorem dL_variationWorth_13 : decode cL_variationWorth 13 = .ok (.ireturn, 1) := by decide +kernel
theorem dL_variationWorth_14 : decode cL_variationWorth 14 = .ok (.iconst 0, 1) := by decide +kernel
theorem dL_variationWorth_15 : decode cL_variationWorth 15 = .ok (.ireturn, 1) := by decide +kernel
theorem dL_claim_0 : decode cL_claim 0 = .ok (.aload_n 2, 1) := by decide +kernel
theorem dL_claim_1 : decode cL_claim 1 = .ok (.iconst 0, 1) := by decide +kernel
theorem dL_claim_2 : decode cL_claim 2 = .ok (.aload_n 0, 1) := by decide +kernel
theorem dL_claim_3 : decode cL_claim 3 = .ok (.iload_n 1, 1) := by decide +kernel
theorem dL_claim_4 : decode cL_claim 4 = .ok (.invokevirtual 90, 3) := by decide +kernel
theorem dL_claim_7 : decode cL_claim 7 = .ok (.lastore, 1) := by decide +kernel
theorem dL_claim_8 : decode cL_claim 8 = .ok (.goto 6, 3) := by decide +kernel
theorem dL_claim_11 : decode cL_claim 11 = .ok (.astore_n 3, 1) := by decide +kernel
theorem dL_claim_12 : decode cL_claim 12 = .ok (.iconst 1, 1) := by decide +kernel
theorem dL_claim_13 : decode cL_claim 13 = .ok (.ireturn, 1) := by decide +kernel
theorem dL_claim_14 : decode cL_claim 14 = .ok (.iconst 0, 1) := by decide +kernel
theorem dL_claim_15 : decode cL_claim 15 = .ok (.ireturn, 1) := by decide +kernel
theorem dL_priority_0 : decode cL_priority 0 = .ok (.aload_n 2, 1) := by decide +kernel
theorem dL_priority_1 : decode cL_priority 1 = .ok (.iconst 0, 1) := by decide +kernel
theorem dL_priority_2 : decode cL_priority 2 = .ok (.aload_n 0, 1) := by decide +kernel
theorem dL_priority_3 : decode cL_priority 3 = .ok (.iload_n 1, 1) := by decide +kernel
theorem dL_priority_4 : decode cL_priority 4 = .ok (.invokevirtual 93, 3) := by decide +kernel
theorem dL_priority_7 : decode cL_priority 7 = .ok (.i2l, 1) := by decide +kernel
theorem dL_priority_8 : decode cL_priority 8 = .ok (.lastore, 1) := by decide +kernel
theorem dL_priority_9 : decode cL_priority 9 = .ok (.goto 6, 3) := by decide +kernel
theorem dL_priority_12 : decode cL_priority 12 = .ok (.astore_n 3, 1) := by decide +kernel
theorem dL_priority_13 : decode cL_priority 13 = .ok (.iconst 1, 1) := by decide +kernel
theorem dL_priority_14 : decode cL_priority 14 = .ok (.ireturn, 1) := by decide +kernel
theorem dL_priority_15 : decode cL_priority 15 = .ok (.iconst 0, 1) := by decide +kernel
theorem dL_priority_16 : decode cL_priority 16 = .ok (.ireturn, 1) := by decide +kernel
theorem dL_share_0 : decode cL_share 0 = .ok (.aload_n 3, 1) := by decide +kernel
theorem dL_share_1 : decode cL_share 1 = .ok (.iconst 0, 1) := by decide +kernel
theorem dL_share_2 : decode cL_share 2 = .ok (.aload_n 0, 1) := by decide +kernel
theorem dL_share_3 : decode cL_share 3 = .ok (.iload_n 1, 1) := by decide +kernel
theorem dL_share_4 : decode cL_share 4 = .ok (.iload_n 2, 1) := by decide +kernel
theorem dL_share_5 : decode cL_share 5 = .ok (.invokevirtual 96, 3) := by decide +kernel
theorem dL_share_8 : decode cL_share 8 = .ok (.lastore, 1) := by decide +kernel
theorem dL_share_9 : decode cL_share 9 = .ok (.goto 11, 3) := by decide +kernel
theorem dL_share_12 : decode cL_share 12 = .ok (.astore 4, 2) := by decide +kernel
theorem dL_share_14 : decode cL_share 14 = .ok (.iconst 1, 1) := by decide +kernel
theorem dL_share_15 : decode cL_share 15 = .ok (.ireturn, 1) := by decide +kernel
theorem dL_share_16 : decode cL_share 16 = .ok (.astore 4, 2) := by decide +kernel
theorem dL_share_18 : decode cL_share 18 = .ok (.iconst 2, 1) := by decide +kernel
theorem dL_share_19 : decode cL_share 19 = .ok (.ireturn, 1) := by decide +kernel
theorem dL_share_20 : decode cL_share 20 = .ok (.iconst 0, 1) := by decide +kernel
theorem dL_share_21 : decode cL_share 21 = .ok (.ireturn, 1) := by decide +kernel
theorem dL_measure_0 : decode cL_measure 0 = .ok (.aload 4, 2) := by decide +kernel
theorem dL_measure_2 : decode cL_measure 2 = .ok (.iconst 0, 1) := by decide +kernel
theorem dL_measure_3 : decode cL_measure 3 = .ok (.aload_n 0, 1) := by decide +kernel
theorem dL_measure_4 : decode cL_measure 4 = .ok (.iload_n 1, 1) := by decide +kernel
theorem dL_measure_5 : decode cL_measure 5 = .ok (.iload_n 2, 1) := by decide +kernel
theorem dL_measure_6 : decode cL_measure 6 = .ok (.iload_n 3, 1) := by decide +kernel
theorem dL_measure_7 : decode cL_measure 7 = .ok (.invokevirtual 99, 3) := by decide +kernel
theorem dL_measure_10 : decode cL_measure 10 = .ok (.i2l, 1) := by decide +kernel
theorem dL_measure_11 : decode cL_measure 11 = .ok (.lastore, 1) := by decide +kernel
theorem dL_measure_12 : decode cL_measure 12 = .ok (.goto 11, 3) := by decide +kernel
theorem dL_measure_15 : decode cL_measure 15 = .ok (.astore 5, 2) := by decide +kernel
theorem dL_measure_17 : decode cL_measure 17 = .ok (.iconst 1, 1) := by decide +kernel
theorem dL_measure_18 : decode cL_measure 18 = .ok (.ireturn, 1) := by decide +kernel
theorem dL_measure_19 : decode cL_measure 19 = .ok (.astore 5, 2) := by decide +kernel
theorem dL_measure_21 : decode cL_measure 21 = .ok (.iconst 2, 1) := by decide +kernel
theorem dL_measure_22 : decode cL_measure 22 = .ok (.ireturn, 1) := by decide +kernel
theorem dL_measure_23 : decode cL_measure 23 = .ok (.iconst 0, 1) := by decide +kernel
theorem dL_measure_24 : decode cL_measure 24 = .ok (.ireturn, 1) := by decide +kernel
theorem dL_propose_0 : decode cL_propose 0 = .ok (.aload 4, 2) := by decide +kernel
theorem dL_propose_2 : decode cL_propose 2 = .ok (.iconst 0, 1) := by decide +kernel
theorem dL_propose_3 : decode cL_propose 3 = .ok (.aload_n 0, 1) := by decide +kernel
theorem dL_propose_4 : decode cL_propose 4 = .ok (.iload_n 1, 1) := by decide +kernel
theorem dL_propose_5 : decode cL_propose 5 = .ok (.iload_n 2, 1) := by decide +kernel
theorem dL_propose_6 : decode cL_propose 6 = .ok (.iload_n 3, 1) := by decide +kernel
theorem dL_propose_7 : decode cL_propose 7 = .ok (.invokevirtual 103, 3) := by decide +kernel
theorem dL_propose_10 : decode cL_propose 10 = .ok (.i2l, 1) := by decide +kernel
theorem dL_propose_11 : decode cL_propose 11 = .ok (.lastore, 1) := by decide +kernel
theorem dL_propose_12 : decode cL_propose 12 = .ok (.goto 15, 3) := by decide +kernel
theorem dL_propose_15 : decode cL_propose 15 = .ok (.astore 5, 2) := by decide +kernel
theorem dL_propose_17 : decode cL_propose 17 = .ok (.iconst 1, 1) := by decide +kernel
theorem dL_propose_18 : decode cL_propose 18 = .ok (.ireturn, 1) := by decide +kernel
theorem dL_propose_19 : decode cL_propose 19 = .ok (.astore 5, 2) := by decide +kernel
theorem dL_propose_21 : decode cL_propose 21 = .ok (.iconst 2, 1) := by decide +kernel
theorem dL_propose_22 : decode cL_propose 22 = .ok (.ireturn, 1) := by decide +kernel
theorem dL_propose_23 : decode cL_propose 23 = .ok (.astore 5, 2) := by decide +kernel
theorem dL_propose_25 : decode cL_propose 25 = .ok (.iconst 3, 1) := by decide +kernel
theorem dL_propose_26 : decode cL_propose 26 = .ok (.ireturn, 1) := by decide +kernel
theorem dL_propose_27 : decode cL_propose 27 = .ok (.iconst 0, 1) := by decide +kernel
theorem dL_propose_28 : decode cL_propose 28 = .ok (.ireturn, 1) := by decide +kernel
theorem dL_approve_0 : decode cL_approve 0 = .ok (.aload_n 2, 1) := by decide +kernel
theorem dL_approve_1 : decode cL_approve 1 = .ok (.iconst 0, 1) := by decide +kernel
theorem dL_approve_2 : decode cL_approve 2 = .ok (.aload_n 0, 1) := by decide +kernel
theorem dL_approve_3 : decode cL_approve 3 = .ok (.iload_n 1, 1) := by decide +kernel
theorem dL_approve_4 : decode cL_approve 4 = .ok (.invokevirtual 108, 3) := by decide +kernel
theorem dL_approve_7 : decode cL_approve 7 = .ok (.i2l, 1) := by decide +kernel
theorem dL_approve_8 : decode cL_approve 8 = .ok (.lastore, 1) := by decide +kernel
theorem dL_approve_9 : decode cL_approve 9 = .ok (.goto 9, 3) := by decide +kernel
theorem dL_approve_12 : decode cL_approve 12 = .ok (.astore_n 3, 1) := by decide +kernel
theorem dL_approve_13 : decode cL_approve 13 = .ok (.iconst 1, 1) := by decide +kernel
theorem dL_approve_14 : decode cL_approve 14 = .ok (.ireturn, 1) := by decide +kernel
theorem dL_approve_15 : decode cL_approve 15 = .ok (.astore_n 3, 1) := by decide +kernel
theorem dL_approve_16 : decode cL_approve 16 = .ok (.iconst 2, 1) := by decide +kernel
theorem dL_approve_17 : decode cL_approve 17 = .ok (.ireturn, 1) := by decide +kernel
theorem dL_approve_18 : decode cL_approve 18 = .ok (.iconst 0, 1) := by decide +kernel
theorem dL_approve_19 : decode cL_approve 19 = .ok (.ireturn, 1) := by decide +kernel
theorem dL_certify_0 : decode cL_certify 0 = .ok (.aload_n 2, 1) := by decide +kernel
theorem dL_certify_1 : decode cL_certify 1 = .ok (.iconst 0, 1) := by decide +kernel
theorem dL_certify_2 : decode cL_certify 2 = .ok (.aload_n 0, 1) := by decide +kernel
theorem dL_certify_3 : decode cL_certify 3 = .ok (.iload_n 1, 1) := by decide +kernel
theorem dL_certify_4 : decode cL_certify 4 = .ok (.invokevirtual 111, 3) := by decide +kernel
theorem dL_certify_7 : decode cL_certify 7 = .ok (.i2l, 1) := by decide +kernel
theorem dL_certify_8 : decode cL_certify 8 = .ok (.lastore, 1) := by decide +kernel
theorem dL_certify_9 : decode cL_certify 9 = .ok (.goto 9, 3) := by decide +kernel
theorem dL_certify_12 : decode cL_certify 12 = .ok (.astore_n 3, 1) := by decide +kernel
theorem dL_certify_13 : decode cL_certify 13 = .ok (.iconst 1, 1) := by decide +kernel
theorem dL_certify_14 : decode cL_certify 14 = .ok (.ireturn, 1) := by decide +kernel
theorem dL_certify_15 : decode cL_certify 15 = .ok (.astore_n 3, 1) := by decide +kernel
theorem dL_certify_16 : decode cL_certify 16 = .ok (.iconst 2, 1) := by decide +kernel
theorem dL_certify_17 : decode cL_certify 17 = .ok (.ireturn, 1) := by decide +kernel
theorem dL_certify_18 : decode cL_certify 18 = .ok (.iconst 0, 1) := by decide +kernel
theorem dL_certify_19 : decode cL_certify 19 = .ok (.ireturn, 1) := by decide +kernel
theorem dL_nextStage_0 : decode cL_nextStage 0 = .ok (.aload_n 2, 1) := by decide +kernel
theorem dL_nextStage_1 : decode cL_nextStage 1 = .ok (.iconst 0, 1) := by decide +kernel
theorem dL_nextStage_2 : decode cL_nextStage 2 = .ok (.aload_n 0, 1) := by decide +kernel
theorem dL_nextStage_3 : decode cL_nextStage 3 = .ok (.iload_n 1, 1) := by decide +kernel
theorem dL_nextStage_4 : decode cL_nextStage 4 = .ok (.invokevirtual 114, 3) := by decide +kernel
theorem dL_nextStage_7 : decode cL_nextStage 7 = .ok (.i2l, 1) := by decide +kernel
theorem dL_nextStage_8 : decode cL_nextStage 8 = .ok (.lastore, 1) := by decide +kernel
theorem dL_nextStage_9 : decode cL_nextStage 9 = .ok (.goto 9, 3) := by decide +kernel
theorem dL_nextStage_12 : decode cL_nextStage 12 = .ok (.astore_n 3, 1) := by decide +kernel
theorem dL_nextStage_13 : decode cL_nextStage 13 = .ok (.iconst 1, 1) := by decide +kernel
theorem dL_nextStage_14 : decode cL_nextStage 14 = .ok (.ireturn, 1) := by decide +kernel
theorem dL_nextStage_15 : decode cL_nextStage 15 = .ok (.astore_n 3, 1) := by decide +kernel
theorem dL_nextStage_16 : decode cL_nextStage 16 = .ok (.iconst 2, 1) := by decide +kernel
theorem dL_nextStage_17 : decode cL_nextStage 17 = .ok (.ireturn, 1) := by decide +kernel
theorem dL_nextStage_18 : decode cL_nextStage 18 = .ok (.iconst 0, 1) := by decide +kernel
theorem dL_nextStage_19 : decode cL_nextStage 19 = .ok (.ireturn, 1) := by decide +kernel
theorem dL_pay_0 : decode cL_pay 0 = .ok (.aload_n 3, 1) := by decide +kernel
theorem dL_pay_1 : decode cL_pay 1 = .ok (.iconst 0, 1) := by decide +kernel
theorem dL_pay_2 : decode cL_pay 2 = .ok (.aload_n 0, 1) := by decide +kernel
theorem dL_pay_3 : decode cL_pay 3 = .ok (.iload_n 1, 1) := by decide +kernel
theorem dL_pay_4 : decode cL_pay 4 = .ok (.iload_n 2, 1) := by decide +kernel
theorem dL_pay_5 : decode cL_pay 5 = .ok (.invokevirtual 117, 3) := by decide +kernel
theorem dL_pay_8 : decode cL_pay 8 = .ok (.lastore, 1) := by decide +kernel
theorem dL_pay_9 : decode cL_pay 9 = .ok (.goto 15, 3) := by decide +kernel
theorem dL_pay_12 : decode cL_pay 12 = .ok (.astore 4, 2) := by decide +kernel
theorem dL_pay_14 : decode cL_pay 14 = .ok (.iconst 1, 1) := by decide +kernel
theorem dL_pay_15 : decode cL_pay 15 = .ok (.ireturn, 1) := by decide +kernel
theorem dL_pay_16 : decode cL_pay 16 = .ok (.astore 4, 2) := by decide +kernel
theorem dL_pay_18 : decode cL_pay 18 = .ok (.iconst 2, 1) := by decide +kernel
theorem dL_pay_19 : decode cL_pay 19 = .ok (.ireturn, 1) := by decide +kernel
theorem dL_pay_20 : decode cL_pay 20 = .ok (.astore 4, 2) := by decide +kernel
theorem dL_pay_22 : decode cL_pay 22 = .ok (.iconst 3, 1) := by decide +kernel
theorem dL_pay_23 : decode cL_pay 23 = .ok (.ireturn, 1) := by decide +kernel
theorem dL_pay_24 : decode cL_pay 24 = .ok (.iconst 0, 1) := by decide +kernel
theorem dL_pay_25 : decode cL_pay 25 = .ok (.ireturn, 1) := by decide +kernel
theorem dL_deposit_0 : decode cL_deposit 0 = .ok (.aload_n 2, 1) := by decide +kernel
theorem dL_deposit_1 : decode cL_deposit 1 = .ok (.iconst 0, 1) := by decide +kernel
theorem dL_deposit_2 : decode cL_deposit 2 = .ok (.aload_n 0, 1) := by decide +kernel
theorem dL_deposit_3 : decode cL_deposit 3 = .ok (.iload_n 1, 1) := by decide +kernel
theorem dL_deposit_4 : decode cL_deposit 4 = .ok (.invokevirtual 120, 3) := by decide +kernel
theorem dL_deposit_7 : decode cL_deposit 7 = .ok (.lastore, 1) := by decide +kernel
theorem dL_deposit_8 : decode cL_deposit 8 = .ok (.goto 9, 3) := by decide +kernel
theorem dL_deposit_11 : decode cL_deposit 11 = .ok (.astore_n 3, 1) := by decide +kernel
theorem dL_deposit_12 : decode cL_deposit 12 = .ok (.iconst 1, 1) := by decide +kernel
theorem dL_deposit_13 : decode cL_deposit 13 = .ok (.ireturn, 1) := by decide +kernel
theorem dL_deposit_14 : decode cL_deposit 14 = .ok (.astore_n 3, 1) := by decide +kernel
theorem dL_deposit_15 : decode cL_deposit 15 = .ok (.iconst 2, 1) := by decide +kernel
theorem dL_deposit_16 : decode cL_deposit 16 = .ok (.ireturn, 1) := by decide +kernel
theorem dL_deposit_17 : decode cL_deposit 17 = .ok (.iconst 0, 1) := by decide +kernel
theorem dL_deposit_18 : decode cL_deposit 18 = .ok (.ireturn, 1) := by decide +kernel
theorem dL_pass_0 : decode cL_pass 0 = .ok (.aload_n 2, 1) := by decide +kernel
theorem dL_pass_1 : decode cL_pass 1 = .ok (.iconst 0, 1) := by decide +kernel
theorem dL_pass_2 : decode cL_pass 2 = .ok (.aload_n 0, 1) := by decide +kernel
theorem dL_pass_3 : decode cL_pass 3 = .ok (.iload_n 1, 1) := by decide +kernel
theorem dL_pass_4 : decode cL_pass 4 = .ok (.invokevirtual 123, 3) := by decide +kernel
theorem dL_pass_7 : decode cL_pass 7 = .ok (.i2l, 1) := by decide +kernel
theorem dL_pass_8 : decode cL_pass 8 = .ok (.lastore, 1) := by decide +kernel
theorem dL_pass_9 : decode cL_pass 9 = .ok (.goto 9, 3) := by decide +kernel
theorem dL_pass_12 : decode cL_pass 12 = .ok (.astore_n 3, 1) := by decide +kernel
theorem dL_pass_13 : decode cL_pass 13 = .ok (.iconst 1, 1) := by decide +kernel
theorem dL_pass_14 : decode cL_pass 14 = .ok (.ireturn, 1) := by decide +kernel
theorem dL_pass_15 : decode cL_pass 15 = .ok (.astore_n 3, 1) := by decide +kernel
theorem dL_pass_16 : decode cL_pass 16 = .ok (.iconst 2, 1) := by decide +kernel
theorem dL_pass_17 : decode cL_pass 17 = .ok (.ireturn, 1) := by decide +kernel
theorem dL_pass_18 : decode cL_pass 18 = .ok (.iconst 0, 1) := by decide +kernel
theorem dL_pass_19 : decode cL_pass 19 = .ok (.ireturn, 1) := by decide +kernel
theorem dL_settle_0 : decode cL_settle 0 = .ok (.aload_n 2, 1) := by decide +kernel
theorem dL_settle_1 : decode cL_settle 1 = .ok (.iconst 0, 1) := by decide +kernel
theorem dL_settle_2 : decode cL_settle 2 = .ok (.aload_n 0, 1) := by decide +kernel
theorem dL_settle_3 : decode cL_settle 3 = .ok (.iload_n 1, 1) := by decide +kernel
theorem dL_settle_4 : decode cL_settle 4 = .ok (.invokevirtual 126, 3) := by decide +kernel
theorem dL_settle_7 : decode cL_settle 7 = .ok (.lastore, 1) := by decide +kernel
theorem dL_settle_8 : decode cL_settle 8 = .ok (.goto 9, 3) := by decide +kernel
theorem dL_settle_11 : decode cL_settle 11 = .ok (.astore_n 3, 1) := by decide +kernel
theorem dL_settle_12 : decode cL_settle 12 = .ok (.iconst 1, 1) := by decide +kernel
theorem dL_settle_13 : decode cL_settle 13 = .ok (.ireturn, 1) := by decide +kernel
theorem dL_settle_14 : decode cL_settle 14 = .ok (.astore_n 3, 1) := by decide +kernel
theorem dL_settle_15 : decode cL_settle 15 = .ok (.iconst 2, 1) := by decide +kernel
theorem dL_settle_16 : decode cL_settle 16 = .ok (.ireturn, 1) := by decide +kernel
theorem dL_settle_17 : decode cL_settle 17 = .ok (.iconst 0, 1) := by decide +kernel
theorem dL_settle_18 : decode cL_settle 18 = .ok (.ireturn, 1) := by decide +kernel
theorem dL_fileLien_0 : decode cL_fileLien 0 = .ok (.aload_n 2, 1) := by decide +kernel
theorem dL_fileLien_1 : decode cL_fileLien 1 = .ok (.iconst 0, 1) := by decide +kernel
theorem dL_fileLien_2 : decode cL_fileLien 2 = .ok (.aload_n 0, 1) := by decide +kernel
theorem dL_fileLien_3 : decode cL_fileLien 3 = .ok (.iload_n 1, 1) := by decide +kernel
theorem dL_fileLien_4 : decode cL_fileLien 4 = .ok (.invokevirtual 129, 3) := by decide +kernel
theorem dL_fileLien_7 : decode cL_fileLien 7 = .ok (.i2l, 1) := by decide +kernel
theorem dL_fileLien_8 : decode cL_fileLien 8 = .ok (.lastore, 1) := by decide +kernel
theorem dL_fileLien_9 : decode cL_fileLien 9 = .ok (.goto 9, 3) := by decide +kernel
theorem dL_fileLien_12 : decode cL_fileLien 12 = .ok (.astore_n 3, 1) := by decide +kernel
theorem dL_fileLien_13 : decode cL_fileLien 13 = .ok (.iconst 1, 1) := by decide +kernel
theorem dL_fileLien_14 : decode cL_fileLien 14 = .ok (.ireturn, 1) := by decide +kernel
theorem dL_fileLien_15 : decode cL_fileLien 15 = .ok (.astore_n 3, 1) := by decide +kernel
theorem dL_fileLien_16 : decode cL_fileLien 16 = .ok (.iconst 2, 1) := by decide +kernel
theorem dL_fileLien_17 : decode cL_fileLien 17 = .ok (.ireturn, 1) := by decide +kernel
theorem dL_fileLien_18 : decode cL_fileLien 18 = .ok (.iconst 0, 1) := by decide +kernel
theorem dL_fileLien_19 : decode cL_fileLien 19 = .ok (.ireturn, 1) := by decide +kernel
theorem dL_withdrawLien_0 : decode cL_withdrawLien 0 = .ok (.aload_n 2, 1) := by decide +kernel
theorem dL_withdrawLien_1 : decode cL_withdrawLien 1 = .ok (.iconst 0, 1) := by decide +kernel
theorem dL_withdrawLien_2 : decode cL_withdrawLien 2 = .ok (.aload_n 0, 1) := by decide +kernel
theorem dL_withdrawLien_3 : decode cL_withdrawLien 3 = .ok (.iload_n 1, 1) := by decide +kernel
theorem dL_withdrawLien_4 : decode cL_withdrawLien 4 = .ok (.invokevirtual 132, 3) := by decide +kernel
theorem dL_withdrawLien_7 : decode cL_withdrawLien 7 = .ok (.lastore, 1) := by decide +kernel
theorem dL_withdrawLien_8 : decode cL_withdrawLien 8 = .ok (.goto 9, 3) := by decide +kernel
theorem dL_withdrawLien_11 : decode cL_withdrawLien 11 = .ok (.astore_n 3, 1) := by decide +kernel
theorem dL_withdrawLien_12 : decode cL_withdrawLien 12 = .ok (.iconst 1, 1) := by decide +kernel
theorem dL_withdrawLien_13 : decode cL_withdrawLien 13 = .ok (.ireturn, 1) := by decide +kernel
theorem dL_withdrawLien_14 : decode cL_withdrawLien 14 = .ok (.astore_n 3, 1) := by decide +kernel
theorem dL_withdrawLien_15 : decode cL_withdrawLien 15 = .ok (.iconst 2, 1) := by decide +kernel
theorem dL_withdrawLien_16 : decode cL_withdrawLien 16 = .ok (.ireturn, 1) := by decide +kernel
theorem dL_withdrawLien_17 : decode cL_withdrawLien 17 = .ok (.iconst 0, 1) := by decide +kernel
theorem dL_withdrawLien_18 : decode cL_withdrawLien 18 = .ok (.ireturn, 1) := by decide +kernel
theorem dL_law_0 : decode cL_law 0 = .ok (.new 8, 3) := by decide +kernel
theorem dL_law_3 : decode cL_law 3 = .ok (.dup, 1) := by decide +kernel
theorem dL_law_4 : decode cL_law 4 = .ok (.invokespecial 135, 3) := by decide +kernel
theorem dL_law_7 : decode cL_law 7 = .ok (.astore_n 1, 1) := by decide +kernel
theorem dL_law_8 : decode cL_law 8 = .ok (.new 136, 3) := by decide +kernel
theorem dL_law_11 : decode cL_law 11 = .ok (.dup, 1) := by decide +kernel
theorem dL_law_12 : decode cL_law 12 = .ok (.invokespecial 138, 3) := by decide +kernel
theorem dL_law_15 : decode cL_law 15 = .ok (.astore_n 2, 1) := by decide +kernel
theorem dL_law_16 : decode cL_law 16 = .ok (.iconst 1, 1) := by decide +kernel
theorem dL_law_17 : decode cL_law 17 = .ok (.newarray .long, 2) := by decide +kernel
theorem dL_law_19 : decode cL_law 19 = .ok (.astore_n 3, 1) := by decide +kernel
theorem dL_law_20 : decode cL_law 20 = .ok (.iconst 0, 1) := by decide +kernel
theorem dL_law_21 : decode cL_law 21 = .ok (.istore 4, 2) := by decide +kernel
theorem dL_law_23 : decode cL_law 23 = .ok (.iload 4, 2) := by decide +kernel
theorem dL_law_25 : decode cL_law 25 = .ok (.aload_n 0, 1) := by decide +kernel
theorem dL_law_26 : decode cL_law 26 = .ok (.arraylength, 1) := by decide +kernel
theorem dL_law_27 : decode cL_law 27 = .ok (.bipush 6, 2) := by decide +kernel
theorem dL_law_29 : decode cL_law 29 = .ok (.isub, 1) := by decide +kernel
theorem dL_law_30 : decode cL_law 30 = .ok (.if_icmp .gt 2683, 3) := by decide +kernel
theorem dL_law_33 : decode cL_law 33 = .ok (.aload_n 0, 1) := by decide +kernel
theorem dL_law_34 : decode cL_law 34 = .ok (.iload 4, 2) := by decide +kernel
theorem dL_law_36 : decode cL_law 36 = .ok (.iaload, 1) := by decide +kernel
theorem dL_law_37 : decode cL_law 37 = .ok (.bipush 63, 2) := by decide +kernel
theorem dL_law_39 : decode cL_law 39 = .ok (.iand, 1) := by decide +kernel
theorem dL_law_40 : decode cL_law 40 = .ok (.tableswitch 2667 0 47 #[208, 281, 337, 350, 363, 376, 432, 488, 556, 624, 691, 746, 801, 856, 911, 966, 1021, 1076, 1132, 1187, 1242, 1255, 1311, 1366, 1421, 1477, 1540, 1578, 1646, 1659, 1722, 1777, 1790, 1845, 1901, 1968, 2048, 2128, 2184, 2240, 2296, 2363, 2418, 2474, 2529, 2585, 2640, 2653], 208) := by decide +kernel
theorem dL_law_248 : decode cL_law 248 = .ok (.aload_n 1, 1) := by decide +kernel
theorem dL_law_249 : decode cL_law 249 = .ok (.aload_n 0, 1) := by decide +kernel
theorem dL_law_250 : decode cL_law 250 = .ok (.iload 4, 2) := by decide +kernel
theorem dL_law_252 : decode cL_law 252 = .ok (.iconst 1, 1) := by decide +kernel
theorem dL_law_253 : decode cL_law 253 = .ok (.iadd, 1) := by decide +kernel
theorem dL_law_254 : decode cL_law 254 = .ok (.iaload, 1) := by decide +kernel
theorem dL_law_255 : decode cL_law 255 = .ok (.aload_n 0, 1) := by decide +kernel
theorem dL_law_256 : decode cL_law 256 = .ok (.iload 4, 2) := by decide +kernel
theorem dL_law_258 : decode cL_law 258 = .ok (.iconst 2, 1) := by decide +kernel
theorem dL_law_259 : decode cL_law 259 = .ok (.iadd, 1) := by decide +kernel
theorem dL_law_260 : decode cL_law 260 = .ok (.iaload, 1) := by decide +kernel
theorem dL_law_261 : decode cL_law 261 = .ok (.aload_n 0, 1) := by decide +kernel
theorem dL_law_262 : decode cL_law 262 = .ok (.iload 4, 2) := by decide +kernel
theorem dL_law_264 : decode cL_law 264 = .ok (.iconst 3, 1) := by decide +kernel
theorem dL_law_265 : decode cL_law 265 = .ok (.iadd, 1) := by decide +kernel
theorem dL_law_266 : decode cL_law 266 = .ok (.iaload, 1) := by decide +kernel
theorem dL_law_267 : decode cL_law 267 = .ok (.aload_n 0, 1) := by decide +kernel
theorem dL_law_268 : decode cL_law 268 = .ok (.iload 4, 2) := by decide +kernel
theorem dL_law_270 : decode cL_law 270 = .ok (.iconst 4, 1) := by decide +kernel
theorem dL_law_271 : decode cL_law 271 = .ok (.iadd, 1) := by decide +kernel
theorem dL_law_272 : decode cL_law 272 = .ok (.iaload, 1) := by decide +kernel
theorem dL_law_273 : decode cL_law 273 = .ok (.aload_n 0, 1) := by decide +kernel
theorem dL_law_274 : decode cL_law 274 = .ok (.iload 4, 2) := by decide +kernel
theorem dL_law_276 : decode cL_law 276 = .ok (.iconst 5, 1) := by decide +kernel
theorem dL_law_277 : decode cL_law 277 = .ok (.iadd, 1) := by decide +kernel
theorem dL_law_278 : decode cL_law 278 = .ok (.iaload, 1) := by decide +kernel
theorem dL_law_279 : decode cL_law 279 = .ok (.invokevirtual 139, 3) := by decide +kernel
theorem dL_law_282 : decode cL_law 282 = .ok (.aload_n 2, 1) := by decide +kernel
theorem dL_law_283 : decode cL_law 283 = .ok (.aload_n 0, 1) := by decide +kernel
theorem dL_law_284 : decode cL_law 284 = .ok (.iload 4, 2) := by decide +kernel
theorem dL_law_286 : decode cL_law 286 = .ok (.iconst 1, 1) := by decide +kernel
theorem dL_law_287 : decode cL_law 287 = .ok (.iadd, 1) := by decide +kernel
theorem dL_law_288 : decode cL_law 288 = .ok (.iaload, 1) := by decide +kernel
theorem dL_law_289 : decode cL_law 289 = .ok (.aload_n 0, 1) := by decide +kernel
theorem dL_law_290 : decode cL_law 290 = .ok (.iload 4, 2) := by decide +kernel
theorem dL_law_292 : decode cL_law 292 = .ok (.iconst 2, 1) := by decide +kernel
theorem dL_law_293 : decode cL_law 293 = .ok (.iadd, 1) := by decide +kernel
theorem dL_law_294 : decode cL_law 294 = .ok (.iaload, 1) := by decide +kernel
theorem dL_law_295 : decode cL_law 295 = .ok (.aload_n 0, 1) := by decide +kernel
theorem dL_law_296 : decode cL_law 296 = .ok (.iload 4, 2) := by decide +kernel
theorem dL_law_298 : decode cL_law 298 = .ok (.iconst 3, 1) := by decide +kernel
theorem dL_law_299 : decode cL_law 299 = .ok (.iadd, 1) := by decide +kernel
theorem dL_law_300 : decode cL_law 300 = .ok (.iaload, 1) := by decide +kernel
theorem dL_law_301 : decode cL_law 301 = .ok (.aload_n 0, 1) := by decide +kernel
theorem dL_law_302 : decode cL_law 302 = .ok (.iload 4, 2) := by decide +kernel
theorem dL_law_304 : decode cL_law 304 = .ok (.iconst 4, 1) := by decide +kernel
theorem dL_law_305 : decode cL_law 305 = .ok (.iadd, 1) := by decide +kernel
theorem dL_law_306 : decode cL_law 306 = .ok (.iaload, 1) := by decide +kernel
theorem dL_law_307 : decode cL_law 307 = .ok (.aload_n 0, 1) := by decide +kernel
theorem dL_law_308 : decode cL_law 308 = .ok (.iload 4, 2) := by decide +kernel
theorem dL_law_310 : decode cL_law 310 = .ok (.iconst 5, 1) := by decide +kernel
theorem dL_law_311 : decode cL_law 311 = .ok (.iadd, 1) := by decide +kernel
theorem dL_law_312 : decode cL_law 312 = .ok (.iaload, 1) := by decide +kernel
theorem dL_law_313 : decode cL_law 313 = .ok (.invokevirtual 143, 3) := by decide +kernel
theorem dL_law_316 : decode cL_law 316 = .ok (.if_icmp .eq 2391, 3) := by decide +kernel
theorem dL_law_319 : decode cL_law 319 = .ok (.iconst 0, 1) := by decide +kernel
theorem dL_law_320 : decode cL_law 320 = .ok (.ireturn, 1) := by decide +kernel
theorem dL_law_321 : decode cL_law 321 = .ok (.aload_n 1, 1) := by decide +kernel
theorem dL_law_322 : decode cL_law 322 = .ok (.aload_n 0, 1) := by decide +kernel
theorem dL_law_323 : decode cL_law 323 = .ok (.iload 4, 2) := by decide +kernel
theorem dL_law_325 : decode cL_law 325 = .ok (.iconst 1, 1) := by decide +kernel
theorem dL_law_326 : decode cL_law 326 = .ok (.iadd, 1) := by decide +kernel
theorem dL_law_327 : decode cL_law 327 = .ok (.iaload, 1) := by decide +kernel
theorem dL_law_328 : decode cL_law 328 = .ok (.aload_n 3, 1) := by decide +kernel
theorem dL_law_329 : decode cL_law 329 = .ok (.invokestatic 144, 3) := by decide +kernel
theorem dL_law_332 : decode cL_law 332 = .ok (.istore 5, 2) := by decide +kernel
theorem dL_law_334 : decode cL_law 334 = .ok (.aload_n 2, 1) := by decide +kernel
theorem dL_law_335 : decode cL_law 335 = .ok (.aload_n 0, 1) := by decide +kernel
theorem dL_law_336 : decode cL_law 336 = .ok (.iload 4, 2) := by decide +kernel
theorem dL_law_338 : decode cL_law 338 = .ok (.iconst 1, 1) := by decide +kernel
theorem dL_law_339 : decode cL_law 339 = .ok (.iadd, 1) := by decide +kernel
theorem dL_law_340 : decode cL_law 340 = .ok (.iaload, 1) := by decide +kernel
theorem dL_law_341 : decode cL_law 341 = .ok (.invokevirtual 149, 3) := by decide +kernel
theorem dL_law_344 : decode cL_law 344 = .ok (.istore 6, 2) := by decide +kernel
theorem dL_law_346 : decode cL_law 346 = .ok (.aload_n 2, 1) := by decide +kernel
theorem dL_law_347 : decode cL_law 347 = .ok (.invokevirtual 150, 3) := by decide +kernel
theorem dL_law_350 : decode cL_law 350 = .ok (.iload 5, 2) := by decide +kernel
theorem dL_law_352 : decode cL_law 352 = .ok (.if_icmp .eq 5, 3) := by decide +kernel
theorem dL_law_355 : decode cL_law 355 = .ok (.iconst 0, 1) := by decide +kernel
theorem dL_law_356 : decode cL_law 356 = .ok (.ireturn, 1) := by decide +kernel
theorem dL_law_357 : decode cL_law 357 = .ok (.iload 5, 2) := by decide +kernel
theorem dL_law_359 : decode cL_law 359 = .ok (.ifCond .ne 15, 3) := by decide +kernel
theorem dL_law_362 : decode cL_law 362 = .ok (.aload_n 3, 1) := by decide +kernel
theorem dL_law_363 : decode cL_law 363 = .ok (.iconst 0, 1) := by decide +kernel
theorem dL_law_364 : decode cL_law 364 = .ok (.laload, 1) := by decide +kernel
theorem dL_law_365 : decode cL_law 365 = .ok (.iload 6, 2) := by decide +kernel
theorem dL_law_367 : decode cL_law 367 = .ok (.i2l, 1) := by decide +kernel
theorem dL_law_368 : decode cL_law 368 = .ok (.lcmp, 1) := by decide +kernel
theorem dL_law_369 : decode cL_law 369 = .ok (.ifCond .eq 5, 3) := by decide +kernel
theorem dL_law_372 : decode cL_law 372 = .ok (.iconst 0, 1) := by decide +kernel
theorem dL_law_373 : decode cL_law 373 = .ok (.ireturn, 1) := by decide +kernel
theorem dL_law_374 : decode cL_law 374 = .ok (.goto 2333, 3) := by decide +kernel
theorem dL_law_377 : decode cL_law 377 = .ok (.aload_n 1, 1) := by decide +kernel
theorem dL_law_378 : decode cL_law 378 = .ok (.invokevirtual 154, 3) := by decide +kernel
theorem dL_law_381 : decode cL_law 381 = .ok (.aload_n 2, 1) := by decide +kernel
theorem dL_law_382 : decode cL_law 382 = .ok (.invokevirtual 157, 3) := by decide +kernel
theorem dL_law_385 : decode cL_law 385 = .ok (.if_icmp .eq 2322, 3) := by decide +kernel
theorem dL_law_388 : decode cL_law 388 = .ok (.iconst 0, 1) := by decide +kernel
theorem dL_law_389 : decode cL_law 389 = .ok (.ireturn, 1) := by decide +kernel
theorem dL_law_390 : decode cL_law 390 = .ok (.aload_n 1, 1) := by decide +kernel
theorem dL_law_391 : decode cL_law 391 = .ok (.invokevirtual 158, 3) := by decide +kernel
theorem dL_law_394 : decode cL_law 394 = .ok (.aload_n 2, 1) := by decide +kernel
theorem dL_law_395 : decode cL_law 395 = .ok (.invokevirtual 161, 3) := by decide +kernel
theorem dL_law_398 : decode cL_law 398 = .ok (.if_icmp .eq 2309, 3) := by decide +kernel
theorem dL_law_401 : decode cL_law 401 = .ok (.iconst 0, 1) := by decide +kernel
theorem dL_law_402 : decode cL_law 402 = .ok (.ireturn, 1) := by decide +kernel
theorem dL_law_403 : decode cL_law 403 = .ok (.aload_n 1, 1) := by decide +kernel
theorem dL_law_404 : decode cL_law 404 = .ok (.invokevirtual 162, 3) := by decide +kernel
theorem dL_law_407 : decode cL_law 407 = .ok (.aload_n 2, 1) := by decide +kernel
theorem dL_law_408 : decode cL_law 408 = .ok (.invokevirtual 165, 3) := by decide +kernel
theorem dL_law_411 : decode cL_law 411 = .ok (.if_icmp .eq 2296, 3) := by decide +kernel
theorem dL_law_414 : decode cL_law 414 = .ok (.iconst 0, 1) := by decide +kernel
theorem dL_law_415 : decode cL_law 415 = .ok (.ireturn, 1) := by decide +kernel
theorem dL_law_416 : decode cL_law 416 = .ok (.aload_n 1, 1) := by decide +kernel
theorem dL_law_417 : decode cL_law 417 = .ok (.aload_n 0, 1) := by decide +kernel
theorem dL_law_418 : decode cL_law 418 = .ok (.iload 4, 2) := by decide +kernel
theorem dL_law_420 : decode cL_law 420 = .ok (.iconst 1, 1) := by decide +kernel
theorem dL_law_421 : decode cL_law 421 = .ok (.iadd, 1) := by decide +kernel
theorem dL_law_422 : decode cL_law 422 = .ok (.iaload, 1) := by decide +kernel
theorem dL_law_423 : decode cL_law 423 = .ok (.aload_n 3, 1) := by decide +kernel
theorem dL_law_424 : decode cL_law 424 = .ok (.invokestatic 166, 3) := by decide +kernel
theorem dL_law_427 : decode cL_law 427 = .ok (.istore 5, 2) := by decide +kernel
theorem dL_law_429 : decode cL_law 429 = .ok (.aload_n 2, 1) := by decide +kernel
theorem dL_law_430 : decode cL_law 430 = .ok (.aload_n 0, 1) := by decide +kernel
theorem dL_law_431 : decode cL_law 431 = .ok (.iload 4, 2) := by decide +kernel
theorem dL_law_433 : decode cL_law 433 = .ok (.iconst 1, 1) := by decide +kernel
theorem dL_law_434 : decode cL_law 434 = .ok (.iadd, 1) := by decide +kernel
theorem dL_law_435 : decode cL_law 435 = .ok (.iaload, 1) := by decide +kernel
theorem dL_law_436 : decode cL_law 436 = .ok (.invokevirtual 168, 3) := by decide +kernel
theorem dL_law_439 : decode cL_law 439 = .ok (.istore 6, 2) := by decide +kernel
theorem dL_law_441 : decode cL_law 441 = .ok (.aload_n 2, 1) := by decide +kernel
theorem dL_law_442 : decode cL_law 442 = .ok (.invokevirtual 150, 3) := by decide +kernel
theorem dL_law_445 : decode cL_law 445 = .ok (.iload 5, 2) := by decide +kernel
theorem dL_law_447 : decode cL_law 447 = .ok (.if_icmp .eq 5, 3) := by decide +kernel
theorem dL_law_450 : decode cL_law 450 = .ok (.iconst 0, 1) := by decide +kernel
theorem dL_law_451 : decode cL_law 451 = .ok (.ireturn, 1) := by decide +kernel
theorem dL_law_452 : decode cL_law 452 = .ok (.iload 5, 2) := by decide +kernel
theorem dL_law_454 : decode cL_law 454 = .ok (.ifCond .ne 15, 3) := by decide +kernel
theorem dL_law_457 : decode cL_law 457 = .ok (.aload_n 3, 1) := by decide +kernel
theorem dL_law_458 : decode cL_law 458 = .ok (.iconst 0, 1) := by decide +kernel
theorem dL_law_459 : decode cL_law 459 = .ok (.laload, 1) := by decide +kernel
theorem dL_law_460 : decode cL_law 460 = .ok (.iload 6, 2) := by decide +kernel
theorem dL_law_462 : decode cL_law 462 = .ok (.i2l, 1) := by decide +kernel
theorem dL_law_463 : decode cL_law 463 = .ok (.lcmp, 1) := by decide +kernel
theorem dL_law_464 : decode cL_law 464 = .ok (.ifCond .eq 5, 3) := by decide +kernel
theorem dL_law_467 : decode cL_law 467 = .ok (.iconst 0, 1) := by decide +kernel
theorem dL_law_468 : decode cL_law 468 = .ok (.ireturn, 1) := by decide +kernel
theorem dL_law_469 : decode cL_law 469 = .ok (.goto 2238, 3) := by decide +kernel
theorem dL_law_472 : decode cL_law 472 = .ok (.aload_n 1, 1) := by decide +kernel
theorem dL_law_473 : decode cL_law 473 = .ok (.aload_n 0, 1) := by decide +kernel
theorem dL_law_474 : decode cL_law 474 = .ok (.iload 4, 2) := by decide +kernel
theorem dL_law_476 : decode cL_law 476 = .ok (.iconst 1, 1) := by decide +kernel
theorem dL_law_477 : decode cL_law 477 = .ok (.iadd, 1) := by decide +kernel
theorem dL_law_478 : decode cL_law 478 = .ok (.iaload, 1) := by decide +kernel
theorem dL_law_479 : decode cL_law 479 = .ok (.aload_n 3, 1) := by decide +kernel
theorem dL_law_480 : decode cL_law 480 = .ok (.invokestatic 169, 3) := by decide +kernel
theorem dL_law_483 : decode cL_law 483 = .ok (.istore 5, 2) := by decide +kernel
theorem dL_law_485 : decode cL_law 485 = .ok (.aload_n 2, 1) := by decide +kernel
theorem dL_law_486 : decode cL_law 486 = .ok (.aload_n 0, 1) := by decide +kernel
theorem dL_law_487 : decode cL_law 487 = .ok (.iload 4, 2) := by decide +kernel
theorem dL_law_489 : decode cL_law 489 = .ok (.iconst 1, 1) := by decide +kernel
theorem dL_law_490 : decode cL_law 490 = .ok (.iadd, 1) := by decide +kernel
theorem dL_law_491 : decode cL_law 491 = .ok (.iaload, 1) := by decide +kernel
theorem dL_law_492 : decode cL_law 492 = .ok (.invokevirtual 171, 3) := by decide +kernel
theorem dL_law_495 : decode cL_law 495 = .ok (.istore 6, 2) := by decide +kernel
theorem dL_law_497 : decode cL_law 497 = .ok (.aload_n 2, 1) := by decide +kernel
theorem dL_law_498 : decode cL_law 498 = .ok (.invokevirtual 150, 3) := by decide +kernel
theorem dL_law_501 : decode cL_law 501 = .ok (.iload 5, 2) := by decide +kernel
theorem dL_law_503 : decode cL_law 503 = .ok (.if_icmp .eq 5, 3) := by decide +kernel
theorem dL_law_506 : decode cL_law 506 = .ok (.iconst 0, 1) := by decide +kernel
theorem dL_law_507 : decode cL_law 507 = .ok (.ireturn, 1) := by decide +kernel
theorem dL_law_508 : decode cL_law 508 = .ok (.iload 5, 2) := by decide +kernel
theorem dL_law_510 : decode cL_law 510 = .ok (.ifCond .ne 15, 3) := by decide +kernel
theorem dL_law_513 : decode cL_law 513 = .ok (.aload_n 3, 1) := by decide +kernel
theorem dL_law_514 : decode cL_law 514 = .ok (.iconst 0, 1) := by decide +kernel
theorem dL_law_515 : decode cL_law 515 = .ok (.laload, 1) := by decide +kernel
theorem dL_law_516 : decode cL_law 516 = .ok (.iload 6, 2) := by decide +kernel
theorem dL_law_518 : decode cL_law 518 = .ok (.i2l, 1) := by decide +kernel
theorem dL_law_519 : decode cL_law 519 = .ok (.lcmp, 1) := by decide +kernel
theorem dL_law_520 : decode cL_law 520 = .ok (.ifCond .eq 5, 3) := by decide +kernel
theorem dL_law_523 : decode cL_law 523 = .ok (.iconst 0, 1) := by decide +kernel
theorem dL_law_524 : decode cL_law 524 = .ok (.ireturn, 1) := by decide +kernel
theorem dL_law_525 : decode cL_law 525 = .ok (.goto 2182, 3) := by decide +kernel
theorem dL_law_528 : decode cL_law 528 = .ok (.aload_n 1, 1) := by decide +kernel
theorem dL_law_529 : decode cL_law 529 = .ok (.aload_n 0, 1) := by decide +kernel
theorem dL_law_530 : decode cL_law 530 = .ok (.iload 4, 2) := by decide +kernel
theorem dL_law_532 : decode cL_law 532 = .ok (.iconst 1, 1) := by decide +kernel
theorem dL_law_533 : decode cL_law 533 = .ok (.iadd, 1) := by decide +kernel
theorem dL_law_534 : decode cL_law 534 = .ok (.iaload, 1) := by decide +kernel
theorem dL_law_535 : decode cL_law 535 = .ok (.aload_n 0, 1) := by decide +kernel
theorem dL_law_536 : decode cL_law 536 = .ok (.iload 4, 2) := by decide +kernel
theorem dL_law_538 : decode cL_law 538 = .ok (.iconst 2, 1) := by decide +kernel
theorem dL_law_539 : decode cL_law 539 = .ok (.iadd, 1) := by decide +kernel
theorem dL_law_540 : decode cL_law 540 = .ok (.iaload, 1) := by decide +kernel
theorem dL_law_541 : decode cL_law 541 = .ok (.aload_n 3, 1) := by decide +kernel
theorem dL_law_542 : decode cL_law 542 = .ok (.invokestatic 172, 3) := by decide +kernel
theorem dL_law_545 : decode cL_law 545 = .ok (.istore 5, 2) := by decide +kernel
theorem dL_law_547 : decode cL_law 547 = .ok (.aload_n 2, 1) := by decide +kernel
theorem dL_law_548 : decode cL_law 548 = .ok (.aload_n 0, 1) := by decide +kernel
theorem dL_law_549 : decode cL_law 549 = .ok (.iload 4, 2) := by decide +kernel
theorem dL_law_551 : decode cL_law 551 = .ok (.iconst 1, 1) := by decide +kernel
theorem dL_law_552 : decode cL_law 552 = .ok (.iadd, 1) := by decide +kernel
theorem dL_law_553 : decode cL_law 553 = .ok (.iaload, 1) := by decide +kernel
theorem dL_law_554 : decode cL_law 554 = .ok (.aload_n 0, 1) := by decide +kernel
theorem dL_law_555 : decode cL_law 555 = .ok (.iload 4, 2) := by decide +kernel
theorem dL_law_557 : decode cL_law 557 = .ok (.iconst 2, 1) := by decide +kernel
theorem dL_law_558 : decode cL_law 558 = .ok (.iadd, 1) := by decide +kernel
theorem dL_law_559 : decode cL_law 559 = .ok (.iaload, 1) := by decide +kernel
theorem dL_law_560 : decode cL_law 560 = .ok (.invokevirtual 175, 3) := by decide +kernel
theorem dL_law_563 : decode cL_law 563 = .ok (.istore 6, 2) := by decide +kernel
theorem dL_law_565 : decode cL_law 565 = .ok (.aload_n 2, 1) := by decide +kernel
theorem dL_law_566 : decode cL_law 566 = .ok (.invokevirtual 150, 3) := by decide +kernel
theorem dL_law_569 : decode cL_law 569 = .ok (.iload 5, 2) := by decide +kernel
theorem dL_law_571 : decode cL_law 571 = .ok (.if_icmp .eq 5, 3) := by decide +kernel
theorem dL_law_574 : decode cL_law 574 = .ok (.iconst 0, 1) := by decide +kernel
theorem dL_law_575 : decode cL_law 575 = .ok (.ireturn, 1) := by decide +kernel
theorem dL_law_576 : decode cL_law 576 = .ok (.iload 5, 2) := by decide +kernel
theorem dL_law_578 : decode cL_law 578 = .ok (.ifCond .ne 15, 3) := by decide +kernel
theorem dL_law_581 : decode cL_law 581 = .ok (.aload_n 3, 1) := by decide +kernel
theorem dL_law_582 : decode cL_law 582 = .ok (.iconst 0, 1) := by decide +kernel
theorem dL_law_583 : decode cL_law 583 = .ok (.laload, 1) := by decide +kernel
theorem dL_law_584 : decode cL_law 584 = .ok (.iload 6, 2) := by decide +kernel
theorem dL_law_586 : decode cL_law 586 = .ok (.i2l, 1) := by decide +kernel
theorem dL_law_587 : decode cL_law 587 = .ok (.lcmp, 1) := by decide +kernel
theorem dL_law_588 : decode cL_law 588 = .ok (.ifCond .eq 5, 3) := by decide +kernel
theorem dL_law_591 : decode cL_law 591 = .ok (.iconst 0, 1) := by decide +kernel
theorem dL_law_592 : decode cL_law 592 = .ok (.ireturn, 1) := by decide +kernel
theorem dL_law_593 : decode cL_law 593 = .ok (.goto 2114, 3) := by decide +kernel
theorem dL_law_596 : decode cL_law 596 = .ok (.aload_n 1, 1) := by decide +kernel
theorem dL_law_597 : decode cL_law 597 = .ok (.aload_n 0, 1) := by decide +kernel
theorem dL_law_598 : decode cL_law 598 = .ok (.iload 4, 2) := by decide +kernel
theorem dL_law_600 : decode cL_law 600 = .ok (.iconst 1, 1) := by decide +kernel
theorem dL_law_601 : decode cL_law 601 = .ok (.iadd, 1) := by decide +kernel
theorem dL_law_602 : decode cL_law 602 = .ok (.iaload, 1) := by decide +kernel
theorem dL_law_603 : decode cL_law 603 = .ok (.aload_n 0, 1) := by decide +kernel
theorem dL_law_604 : decode cL_law 604 = .ok (.iload 4, 2) := by decide +kernel
theorem dL_law_606 : decode cL_law 606 = .ok (.iconst 2, 1) := by decide +kernel
theorem dL_law_607 : decode cL_law 607 = .ok (.iadd, 1) := by decide +kernel
theorem dL_law_608 : decode cL_law 608 = .ok (.iaload, 1) := by decide +kernel
theorem dL_law_609 : decode cL_law 609 = .ok (.aload_n 3, 1) := by decide +kernel
theorem dL_law_610 : decode cL_law 610 = .ok (.invokestatic 176, 3) := by decide +kernel
theorem dL_law_613 : decode cL_law 613 = .ok (.istore 5, 2) := by decide +kernel
theorem dL_law_615 : decode cL_law 615 = .ok (.aload_n 2, 1) := by decide +kernel
theorem dL_law_616 : decode cL_law 616 = .ok (.aload_n 0, 1) := by decide +kernel
theorem dL_law_617 : decode cL_law 617 = .ok (.iload 4, 2) := by decide +kernel
theorem dL_law_619 : decode cL_law 619 = .ok (.iconst 1, 1) := by decide +kernel
theorem dL_law_620 : decode cL_law 620 = .ok (.iadd, 1) := by decide +kernel
theorem dL_law_621 : decode cL_law 621 = .ok (.iaload, 1) := by decide +kernel
theorem dL_law_622 : decode cL_law 622 = .ok (.aload_n 0, 1) := by decide +kernel
theorem dL_law_623 : decode cL_law 623 = .ok (.iload 4, 2) := by decide +kernel
theorem dL_law_625 : decode cL_law 625 = .ok (.iconst 2, 1) := by decide +kernel
theorem dL_law_626 : decode cL_law 626 = .ok (.iadd, 1) := by decide +kernel
theorem dL_law_627 : decode cL_law 627 = .ok (.iaload, 1) := by decide +kernel
theorem dL_law_628 : decode cL_law 628 = .ok (.invokevirtual 178, 3) := by decide +kernel
theorem dL_law_631 : decode cL_law 631 = .ok (.istore 6, 2) := by decide +kernel
theorem dL_law_633 : decode cL_law 633 = .ok (.aload_n 2, 1) := by decide +kernel
theorem dL_law_634 : decode cL_law 634 = .ok (.invokevirtual 150, 3) := by decide +kernel
theorem dL_law_637 : decode cL_law 637 = .ok (.iload 5, 2) := by decide +kernel
theorem dL_law_639 : decode cL_law 639 = .ok (.if_icmp .eq 5, 3) := by decide +kernel
theorem dL_law_642 : decode cL_law 642 = .ok (.iconst 0, 1) := by decide +kernel
theorem dL_law_643 : decode cL_law 643 = .ok (.ireturn, 1) := by decide +kernel
theorem dL_law_644 : decode cL_law 644 = .ok (.iload 5, 2) := by decide +kernel
theorem dL_law_646 : decode cL_law 646 = .ok (.ifCond .ne 15, 3) := by decide +kernel
theorem dL_law_649 : decode cL_law 649 = .ok (.aload_n 3, 1) := by decide +kernel
theorem dL_law_650 : decode cL_law 650 = .ok (.iconst 0, 1) := by decide +kernel
theorem dL_law_651 : decode cL_law 651 = .ok (.laload, 1) := by decide +kernel
theorem dL_law_652 : decode cL_law 652 = .ok (.iload 6, 2) := by decide +kernel
theorem dL_law_654 : decode cL_law 654 = .ok (.i2l, 1) := by decide +kernel
theorem dL_law_655 : decode cL_law 655 = .ok (.lcmp, 1) := by decide +kernel
theorem dL_law_656 : decode cL_law 656 = .ok (.ifCond .eq 5, 3) := by decide +kernel
theorem dL_law_659 : decode cL_law 659 = .ok (.iconst 0, 1) := by decide +kernel
theorem dL_law_660 : decode cL_law 660 = .ok (.ireturn, 1) := by decide +kernel
theorem dL_law_661 : decode cL_law 661 = .ok (.goto 2046, 3) := by decide +kernel
theorem dL_law_664 : decode cL_law 664 = .ok (.aload_n 1, 1) := by decide +kernel
theorem dL_law_665 : decode cL_law 665 = .ok (.aload_n 0, 1) := by decide +kernel
theorem dL_law_666 : decode cL_law 666 = .ok (.iload 4, 2) := by decide +kernel
theorem dL_law_668 : decode cL_law 668 = .ok (.iconst 1, 1) := by decide +kernel
theorem dL_law_669 : decode cL_law 669 = .ok (.iadd, 1) := by decide +kernel
theorem dL_law_670 : decode cL_law 670 = .ok (.iaload, 1) := by decide +kernel
theorem dL_law_671 : decode cL_law 671 = .ok (.aload_n 0, 1) := by decide +kernel
theorem dL_law_672 : decode cL_law 672 = .ok (.iload 4, 2) := by decide +kernel
theorem dL_law_674 : decode cL_law 674 = .ok (.iconst 2, 1) := by decide +kernel
theorem dL_law_675 : decode cL_law 675 = .ok (.iadd, 1) := by decide +kernel
theorem dL_law_676 : decode cL_law 676 = .ok (.iaload, 1) := by decide +kernel
theorem dL_law_677 : decode cL_law 677 = .ok (.aload_n 3, 1) := by decide +kernel
theorem dL_law_678 : decode cL_law 678 = .ok (.invokestatic 179, 3) := by decide +kernel
theorem dL_law_681 : decode cL_law 681 = .ok (.istore 5, 2) := by decide +kernel
theorem dL_law_683 : decode cL_law 683 = .ok (.aload_n 2, 1) := by decide +kernel
theorem dL_law_684 : decode cL_law 684 = .ok (.aload_n 0, 1) := by decide +kernel
theorem dL_law_685 : decode cL_law 685 = .ok (.iload 4, 2) := by decide +kernel
theorem dL_law_687 : decode cL_law 687 = .ok (.iconst 1, 1) := by decide +kernel
theorem dL_law_688 : decode cL_law 688 = .ok (.iadd, 1) := by decide +kernel
theorem dL_law_689 : decode cL_law 689 = .ok (.iaload, 1) := by decide +kernel
theorem dL_law_690 : decode cL_law 690 = .ok (.aload_n 0, 1) := by decide +kernel
theorem dL_law_691 : decode cL_law 691 = .ok (.iload 4, 2) := by decide +kernel
theorem dL_law_693 : decode cL_law 693 = .ok (.iconst 2, 1) := by decide +kernel
theorem dL_law_694 : decode cL_law 694 = .ok (.iadd, 1) := by decide +kernel
theorem dL_law_695 : decode cL_law 695 = .ok (.iaload, 1) := by decide +kernel
theorem dL_law_696 : decode cL_law 696 = .ok (.invokevirtual 181, 3) := by decide +kernel
theorem dL_law_699 : decode cL_law 699 = .ok (.lstore 6, 2) := by decide +kernel
theorem dL_law_701 : decode cL_law 701 = .ok (.aload_n 2, 1) := by decide +kernel
theorem dL_law_702 : decode cL_law 702 = .ok (.invokevirtual 150, 3) := by decide +kernel
theorem dL_law_705 : decode cL_law 705 = .ok (.iload 5, 2) := by decide +kernel
theorem dL_law_707 : decode cL_law 707 = .ok (.if_icmp .eq 5, 3) := by decide +kernel
theorem dL_law_710 : decode cL_law 710 = .ok (.iconst 0, 1) := by decide +kernel
theorem dL_law_711 : decode cL_law 711 = .ok (.ireturn, 1) := by decide +kernel
theorem dL_law_712 : decode cL_law 712 = .ok (.iload 5, 2) := by decide +kernel
theorem dL_law_714 : decode cL_law 714 = .ok (.ifCond .ne 14, 3) := by decide +kernel
theorem dL_law_717 : decode cL_law 717 = .ok (.aload_n 3, 1) := by decide +kernel
theorem dL_law_718 : decode cL_law 718 = .ok (.iconst 0, 1) := by decide +kernel
theorem dL_law_719 : decode cL_law 719 = .ok (.laload, 1) := by decide +kernel
theorem dL_law_720 : decode cL_law 720 = .ok (.lload 6, 2) := by decide +kernel
theorem dL_law_722 : decode cL_law 722 = .ok (.lcmp, 1) := by decide +kernel
theorem dL_law_723 : decode cL_law 723 = .ok (.ifCond .eq 5, 3) := by decide +kernel
theorem dL_law_726 : decode cL_law 726 = .ok (.iconst 0, 1) := by decide +kernel
theorem dL_law_727 : decode cL_law 727 = .ok (.ireturn, 1) := by decide +kernel
theorem dL_law_728 : decode cL_law 728 = .ok (.goto 1979, 3) := by decide +kernel
theorem dL_law_731 : decode cL_law 731 = .ok (.aload_n 1, 1) := by decide +kernel
theorem dL_law_732 : decode cL_law 732 = .ok (.aload_n 0, 1) := by decide +kernel
theorem dL_law_733 : decode cL_law 733 = .ok (.iload 4, 2) := by decide +kernel
theorem dL_law_735 : decode cL_law 735 = .ok (.iconst 1, 1) := by decide +kernel
theorem dL_law_736 : decode cL_law 736 = .ok (.iadd, 1) := by decide +kernel
theorem dL_law_737 : decode cL_law 737 = .ok (.iaload, 1) := by decide +kernel
theorem dL_law_738 : decode cL_law 738 = .ok (.aload_n 3, 1) := by decide +kernel
theorem dL_law_739 : decode cL_law 739 = .ok (.invokestatic 182, 3) := by decide +kernel
theorem dL_law_742 : decode cL_law 742 = .ok (.istore 5, 2) := by decide +kernel
theorem dL_law_744 : decode cL_law 744 = .ok (.aload_n 2, 1) := by decide +kernel
theorem dL_law_745 : decode cL_law 745 = .ok (.aload_n 0, 1) := by decide +kernel
theorem dL_law_746 : decode cL_law 746 = .ok (.iload 4, 2) := by decide +kernel
theorem dL_law_748 : decode cL_law 748 = .ok (.iconst 1, 1) := by decide +kernel
theorem dL_law_749 : decode cL_law 749 = .ok (.iadd, 1) := by decide +kernel
theorem dL_law_750 : decode cL_law 750 = .ok (.iaload, 1) := by decide +kernel
theorem dL_law_751 : decode cL_law 751 = .ok (.invokevirtual 184, 3) := by decide +kernel
theorem dL_law_754 : decode cL_law 754 = .ok (.lstore 6, 2) := by decide +kernel
theorem dL_law_756 : decode cL_law 756 = .ok (.aload_n 2, 1) := by decide +kernel
theorem dL_law_757 : decode cL_law 757 = .ok (.invokevirtual 150, 3) := by decide +kernel
theorem dL_law_760 : decode cL_law 760 = .ok (.iload 5, 2) := by decide +kernel
theorem dL_law_762 : decode cL_law 762 = .ok (.if_icmp .eq 5, 3) := by decide +kernel
theorem dL_law_765 : decode cL_law 765 = .ok (.iconst 0, 1) := by decide +kernel
theorem dL_law_766 : decode cL_law 766 = .ok (.ireturn, 1) := by decide +kernel
theorem dL_law_767 : decode cL_law 767 = .ok (.iload 5, 2) := by decide +kernel
theorem dL_law_769 : decode cL_law 769 = .ok (.ifCond .ne 14, 3) := by decide +kernel
theorem dL_law_772 : decode cL_law 772 = .ok (.aload_n 3, 1) := by decide +kernel
theorem dL_law_773 : decode cL_law 773 = .ok (.iconst 0, 1) := by decide +kernel
theorem dL_law_774 : decode cL_law 774 = .ok (.laload, 1) := by decide +kernel
theorem dL_law_775 : decode cL_law 775 = .ok (.lload 6, 2) := by decide +kernel
theorem dL_law_777 : decode cL_law 777 = .ok (.lcmp, 1) := by decide +kernel
theorem dL_law_778 : decode cL_law 778 = .ok (.ifCond .eq 5, 3) := by decide +kernel
theorem dL_law_781 : decode cL_law 781 = .ok (.iconst 0, 1) := by decide +kernel
theorem dL_law_782 : decode cL_law 782 = .ok (.ireturn, 1) := by decide +kernel
theorem dL_law_783 : decode cL_law 783 = .ok (.goto 1924, 3) := by decide +kernel
theorem dL_law_786 : decode cL_law 786 = .ok (.aload_n 1, 1) := by decide +kernel
theorem dL_law_787 : decode cL_law 787 = .ok (.aload_n 0, 1) := by decide +kernel
theorem dL_law_788 : decode cL_law 788 = .ok (.iload 4, 2) := by decide +kernel
theorem dL_law_790 : decode cL_law 790 = .ok (.iconst 1, 1) := by decide +kernel
theorem dL_law_791 : decode cL_law 791 = .ok (.iadd, 1) := by decide +kernel
theorem dL_law_792 : decode cL_law 792 = .ok (.iaload, 1) := by decide +kernel
theorem dL_law_793 : decode cL_law 793 = .ok (.aload_n 3, 1) := by decide +kernel
theorem dL_law_794 : decode cL_law 794 = .ok (.invokestatic 185, 3) := by decide +kernel
theorem dL_law_797 : decode cL_law 797 = .ok (.istore 5, 2) := by decide +kernel
theorem dL_law_799 : decode cL_law 799 = .ok (.aload_n 2, 1) := by decide +kernel
theorem dL_law_800 : decode cL_law 800 = .ok (.aload_n 0, 1) := by decide +kernel
theorem dL_law_801 : decode cL_law 801 = .ok (.iload 4, 2) := by decide +kernel
theorem dL_law_803 : decode cL_law 803 = .ok (.iconst 1, 1) := by decide +kernel
theorem dL_law_804 : decode cL_law 804 = .ok (.iadd, 1) := by decide +kernel
theorem dL_law_805 : decode cL_law 805 = .ok (.iaload, 1) := by decide +kernel
theorem dL_law_806 : decode cL_law 806 = .ok (.invokevirtual 187, 3) := by decide +kernel
theorem dL_law_809 : decode cL_law 809 = .ok (.lstore 6, 2) := by decide +kernel
theorem dL_law_811 : decode cL_law 811 = .ok (.aload_n 2, 1) := by decide +kernel
theorem dL_law_812 : decode cL_law 812 = .ok (.invokevirtual 150, 3) := by decide +kernel
theorem dL_law_815 : decode cL_law 815 = .ok (.iload 5, 2) := by decide +kernel
theorem dL_law_817 : decode cL_law 817 = .ok (.if_icmp .eq 5, 3) := by decide +kernel
theorem dL_law_820 : decode cL_law 820 = .ok (.iconst 0, 1) := by decide +kernel
theorem dL_law_821 : decode cL_law 821 = .ok (.ireturn, 1) := by decide +kernel
theorem dL_law_822 : decode cL_law 822 = .ok (.iload 5, 2) := by decide +kernel
theorem dL_law_824 : decode cL_law 824 = .ok (.ifCond .ne 14, 3) := by decide +kernel
theorem dL_law_827 : decode cL_law 827 = .ok (.aload_n 3, 1) := by decide +kernel
theorem dL_law_828 : decode cL_law 828 = .ok (.iconst 0, 1) := by decide +kernel
theorem dL_law_829 : decode cL_law 829 = .ok (.laload, 1) := by decide +kernel
theorem dL_law_830 : decode cL_law 830 = .ok (.lload 6, 2) := by decide +kernel
theorem dL_law_832 : decode cL_law 832 = .ok (.lcmp, 1) := by decide +kernel
theorem dL_law_833 : decode cL_law 833 = .ok (.ifCond .eq 5, 3) := by decide +kernel
theorem dL_law_836 : decode cL_law 836 = .ok (.iconst 0, 1) := by decide +kernel
theorem dL_law_837 : decode cL_law 837 = .ok (.ireturn, 1) := by decide +kernel
theorem dL_law_838 : decode cL_law 838 = .ok (.goto 1869, 3) := by decide +kernel
theorem dL_law_841 : decode cL_law 841 = .ok (.aload_n 1, 1) := by decide +kernel
theorem dL_law_842 : decode cL_law 842 = .ok (.aload_n 0, 1) := by decide +kernel
theorem dL_law_843 : decode cL_law 843 = .ok (.iload 4, 2) := by decide +kernel
theorem dL_law_845 : decode cL_law 845 = .ok (.iconst 1, 1) := by decide +kernel
theorem dL_law_846 : decode cL_law 846 = .ok (.iadd, 1) := by decide +kernel
theorem dL_law_847 : decode cL_law 847 = .ok (.iaload, 1) := by decide +kernel
theorem dL_law_848 : decode cL_law 848 = .ok (.aload_n 3, 1) := by decide +kernel
theorem dL_law_849 : decode cL_law 849 = .ok (.invokestatic 188, 3) := by decide +kernel
theorem dL_law_852 : decode cL_law 852 = .ok (.istore 5, 2) := by decide +kernel
theorem dL_law_854 : decode cL_law 854 = .ok (.aload_n 2, 1) := by decide +kernel
theorem dL_law_855 : decode cL_law 855 = .ok (.aload_n 0, 1) := by decide +kernel
theorem dL_law_856 : decode cL_law 856 = .ok (.iload 4, 2) := by decide +kernel
theorem dL_law_858 : decode cL_law 858 = .ok (.iconst 1, 1) := by decide +kernel
theorem dL_law_859 : decode cL_law 859 = .ok (.iadd, 1) := by decide +kernel
theorem dL_law_860 : decode cL_law 860 = .ok (.iaload, 1) := by decide +kernel
theorem dL_law_861 : decode cL_law 861 = .ok (.invokevirtual 190, 3) := by decide +kernel
theorem dL_law_864 : decode cL_law 864 = .ok (.lstore 6, 2) := by decide +kernel
theorem dL_law_866 : decode cL_law 866 = .ok (.aload_n 2, 1) := by decide +kernel
theorem dL_law_867 : decode cL_law 867 = .ok (.invokevirtual 150, 3) := by decide +kernel
theorem dL_law_870 : decode cL_law 870 = .ok (.iload 5, 2) := by decide +kernel
theorem dL_law_872 : decode cL_law 872 = .ok (.if_icmp .eq 5, 3) := by decide +kernel
theorem dL_law_875 : decode cL_law 875 = .ok (.iconst 0, 1) := by decide +kernel
theorem dL_law_876 : decode cL_law 876 = .ok (.ireturn, 1) := by decide +kernel
theorem dL_law_877 : decode cL_law 877 = .ok (.iload 5, 2) := by decide +kernel
theorem dL_law_879 : decode cL_law 879 = .ok (.ifCond .ne 14, 3) := by decide +kernel
theorem dL_law_882 : decode cL_law 882 = .ok (.aload_n 3, 1) := by decide +kernel
theorem dL_law_883 : decode cL_law 883 = .ok (.iconst 0, 1) := by decide +kernel
theorem dL_law_884 : decode cL_law 884 = .ok (.laload, 1) := by decide +kernel
theorem dL_law_885 : decode cL_law 885 = .ok (.lload 6, 2) := by decide +kernel
theorem dL_law_887 : decode cL_law 887 = .ok (.lcmp, 1) := by decide +kernel
theorem dL_law_888 : decode cL_law 888 = .ok (.ifCond .eq 5, 3) := by decide +kernel
theorem dL_law_891 : decode cL_law 891 = .ok (.iconst 0, 1) := by decide +kernel
theorem dL_law_892 : decode cL_law 892 = .ok (.ireturn, 1) := by decide +kernel
theorem dL_law_893 : decode cL_law 893 = .ok (.goto 1814, 3) := by decide +kernel
theorem dL_law_896 : decode cL_law 896 = .ok (.aload_n 1, 1) := by decide +kernel
theorem dL_law_897 : decode cL_law 897 = .ok (.aload_n 0, 1) := by decide +kernel
theorem dL_law_898 : decode cL_law 898 = .ok (.iload 4, 2) := by decide +kernel
theorem dL_law_900 : decode cL_law 900 = .ok (.iconst 1, 1) := by decide +kernel
theorem dL_law_901 : decode cL_law 901 = .ok (.iadd, 1) := by decide +kernel
theorem dL_law_902 : decode cL_law 902 = .ok (.iaload, 1) := by decide +kernel
theorem dL_law_903 : decode cL_law 903 = .ok (.aload_n 3, 1) := by decide +kernel
theorem dL_law_904 : decode cL_law 904 = .ok (.invokestatic 191, 3) := by decide +kernel
theorem dL_law_907 : decode cL_law 907 = .ok (.istore 5, 2) := by decide +kernel
theorem dL_law_909 : decode cL_law 909 = .ok (.aload_n 2, 1) := by decide +kernel
theorem dL_law_910 : decode cL_law 910 = .ok (.aload_n 0, 1) := by decide +kernel
theorem dL_law_911 : decode cL_law 911 = .ok (.iload 4, 2) := by decide +kernel
theorem dL_law_913 : decode cL_law 913 = .ok (.iconst 1, 1) := by decide +kernel
theorem dL_law_914 : decode cL_law 914 = .ok (.iadd, 1) := by decide +kernel
theorem dL_law_915 : decode cL_law 915 = .ok (.iaload, 1) := by decide +kernel
theorem dL_law_916 : decode cL_law 916 = .ok (.invokevirtual 193, 3) := by decide +kernel
theorem dL_law_919 : decode cL_law 919 = .ok (.lstore 6, 2) := by decide +kernel
theorem dL_law_921 : decode cL_law 921 = .ok (.aload_n 2, 1) := by decide +kernel
theorem dL_law_922 : decode cL_law 922 = .ok (.invokevirtual 150, 3) := by decide +kernel
theorem dL_law_925 : decode cL_law 925 = .ok (.iload 5, 2) := by decide +kernel
theorem dL_law_927 : decode cL_law 927 = .ok (.if_icmp .eq 5, 3) := by decide +kernel
theorem dL_law_930 : decode cL_law 930 = .ok (.iconst 0, 1) := by decide +kernel
theorem dL_law_931 : decode cL_law 931 = .ok (.ireturn, 1) := by decide +kernel
theorem dL_law_932 : decode cL_law 932 = .ok (.iload 5, 2) := by decide +kernel
theorem dL_law_934 : decode cL_law 934 = .ok (.ifCond .ne 14, 3) := by decide +kernel
theorem dL_law_937 : decode cL_law 937 = .ok (.aload_n 3, 1) := by decide +kernel
theorem dL_law_938 : decode cL_law 938 = .ok (.iconst 0, 1) := by decide +kernel
theorem dL_law_939 : decode cL_law 939 = .ok (.laload, 1) := by decide +kernel
theorem dL_law_940 : decode cL_law 940 = .ok (.lload 6, 2) := by decide +kernel
theorem dL_law_942 : decode cL_law 942 = .ok (.lcmp, 1) := by decide +kernel
theorem dL_law_943 : decode cL_law 943 = .ok (.ifCond .eq 5, 3) := by decide +kernel
theorem dL_law_946 : decode cL_law 946 = .ok (.iconst 0, 1) := by decide +kernel
theorem dL_law_947 : decode cL_law 947 = .ok (.ireturn, 1) := by decide +kernel
theorem dL_law_948 : decode cL_law 948 = .ok (.goto 1759, 3) := by decide +kernel
theorem dL_law_951 : decode cL_law 951 = .ok (.aload_n 1, 1) := by decide +kernel
theorem dL_law_952 : decode cL_law 952 = .ok (.aload_n 0, 1) := by decide +kernel
theorem dL_law_953 : decode cL_law 953 = .ok (.iload 4, 2) := by decide +kernel
theorem dL_law_955 : decode cL_law 955 = .ok (.iconst 1, 1) := by decide +kernel
theorem dL_law_956 : decode cL_law 956 = .ok (.iadd, 1) := by decide +kernel
theorem dL_law_957 : decode cL_law 957 = .ok (.iaload, 1) := by decide +kernel
theorem dL_law_958 : decode cL_law 958 = .ok (.aload_n 3, 1) := by decide +kernel
theorem dL_law_959 : decode cL_law 959 = .ok (.invokestatic 194, 3) := by decide +kernel
theorem dL_law_962 : decode cL_law 962 = .ok (.istore 5, 2) := by decide +kernel
theorem dL_law_964 : decode cL_law 964 = .ok (.aload_n 2, 1) := by decide +kernel
theorem dL_law_965 : decode cL_law 965 = .ok (.aload_n 0, 1) := by decide +kernel
theorem dL_law_966 : decode cL_law 966 = .ok (.iload 4, 2) := by decide +kernel
theorem dL_law_968 : decode cL_law 968 = .ok (.iconst 1, 1) := by decide +kernel
theorem dL_law_969 : decode cL_law 969 = .ok (.iadd, 1) := by decide +kernel
theorem dL_law_970 : decode cL_law 970 = .ok (.iaload, 1) := by decide +kernel
theorem dL_law_971 : decode cL_law 971 = .ok (.invokevirtual 196, 3) := by decide +kernel
theorem dL_law_974 : decode cL_law 974 = .ok (.lstore 6, 2) := by decide +kernel
theorem dL_law_976 : decode cL_law 976 = .ok (.aload_n 2, 1) := by decide +kernel
theorem dL_law_977 : decode cL_law 977 = .ok (.invokevirtual 150, 3) := by decide +kernel
theorem dL_law_980 : decode cL_law 980 = .ok (.iload 5, 2) := by decide +kernel
theorem dL_law_982 : decode cL_law 982 = .ok (.if_icmp .eq 5, 3) := by decide +kernel
theorem dL_law_985 : decode cL_law 985 = .ok (.iconst 0, 1) := by decide +kernel
theorem dL_law_986 : decode cL_law 986 = .ok (.ireturn, 1) := by decide +kernel
theorem dL_law_987 : decode cL_law 987 = .ok (.iload 5, 2) := by decide +kernel
theorem dL_law_989 : decode cL_law 989 = .ok (.ifCond .ne 14, 3) := by decide +kernel
theorem dL_law_992 : decode cL_law 992 = .ok (.aload_n 3, 1) := by decide +kernel
theorem dL_law_993 : decode cL_law 993 = .ok (.iconst 0, 1) := by decide +kernel
theorem dL_law_994 : decode cL_law 994 = .ok (.laload, 1) := by decide +kernel
theorem dL_law_995 : decode cL_law 995 = .ok (.lload 6, 2) := by decide +kernel
theorem dL_law_997 : decode cL_law 997 = .ok (.lcmp, 1) := by decide +kernel
theorem dL_law_998 : decode cL_law 998 = .ok (.ifCond .eq 5, 3) := by decide +kernel
theorem dL_law_1001 : decode cL_law 1001 = .ok (.iconst 0, 1) := by decide +kernel
theorem dL_law_1002 : decode cL_law 1002 = .ok (.ireturn, 1) := by decide +kernel
theorem dL_law_1003 : decode cL_law 1003 = .ok (.goto 1704, 3) := by decide +kernel
theorem dL_law_1006 : decode cL_law 1006 = .ok (.aload_n 1, 1) := by decide +kernel
theorem dL_law_1007 : decode cL_law 1007 = .ok (.aload_n 0, 1) := by decide +kernel
theorem dL_law_1008 : decode cL_law 1008 = .ok (.iload 4, 2) := by decide +kernel
theorem dL_law_1010 : decode cL_law 1010 = .ok (.iconst 1, 1) := by decide +kernel
theorem dL_law_1011 : decode cL_law 1011 = .ok (.iadd, 1) := by decide +kernel
theorem dL_law_1012 : decode cL_law 1012 = .ok (.iaload, 1) := by decide +kernel
theorem dL_law_1013 : decode cL_law 1013 = .ok (.aload_n 3, 1) := by decide +kernel
theorem dL_law_1014 : decode cL_law 1014 = .ok (.invokestatic 197, 3) := by decide +kernel
theorem dL_law_1017 : decode cL_law 1017 = .ok (.istore 5, 2) := by decide +kernel
theorem dL_law_1019 : decode cL_law 1019 = .ok (.aload_n 2, 1) := by decide +kernel
theorem dL_law_1020 : decode cL_law 1020 = .ok (.aload_n 0, 1) := by decide +kernel
theorem dL_law_1021 : decode cL_law 1021 = .ok (.iload 4, 2) := by decide +kernel
theorem dL_law_1023 : decode cL_law 1023 = .ok (.iconst 1, 1) := by decide +kernel
theorem dL_law_1024 : decode cL_law 1024 = .ok (.iadd, 1) := by decide +kernel
theorem dL_law_1025 : decode cL_law 1025 = .ok (.iaload, 1) := by decide +kernel
theorem dL_law_1026 : decode cL_law 1026 = .ok (.invokevirtual 199, 3) := by decide +kernel
theorem dL_law_1029 : decode cL_law 1029 = .ok (.lstore 6, 2) := by decide +kernel
theorem dL_law_1031 : decode cL_law 1031 = .ok (.aload_n 2, 1) := by decide +kernel
theorem dL_law_1032 : decode cL_law 1032 = .ok (.invokevirtual 150, 3) := by decide +kernel
theorem dL_law_1035 : decode cL_law 1035 = .ok (.iload 5, 2) := by decide +kernel
theorem dL_law_1037 : decode cL_law 1037 = .ok (.if_icmp .eq 5, 3) := by decide +kernel
theorem dL_law_1040 : decode cL_law 1040 = .ok (.iconst 0, 1) := by decide +kernel
theorem dL_law_1041 : decode cL_law 1041 = .ok (.ireturn, 1) := by decide +kernel
theorem dL_law_1042 : decode cL_law 1042 = .ok (.iload 5, 2) := by decide +kernel
theorem dL_law_1044 : decode cL_law 1044 = .ok (.ifCond .ne 14, 3) := by decide +kernel
theorem dL_law_1047 : decode cL_law 1047 = .ok (.aload_n 3, 1) := by decide +kernel
theorem dL_law_1048 : decode cL_law 1048 = .ok (.iconst 0, 1) := by decide +kernel
theorem dL_law_1049 : decode cL_law 1049 = .ok (.laload, 1) := by decide +kernel
theorem dL_law_1050 : decode cL_law 1050 = .ok (.lload 6, 2) := by decide +kernel
theorem dL_law_1052 : decode cL_law 1052 = .ok (.lcmp, 1) := by decide +kernel
theorem dL_law_1053 : decode cL_law 1053 = .ok (.ifCond .eq 5, 3) := by decide +kernel
theorem dL_law_1056 : decode cL_law 1056 = .ok (.iconst 0, 1) := by decide +kernel
theorem dL_law_1057 : decode cL_law 1057 = .ok (.ireturn, 1) := by decide +kernel
theorem dL_law_1058 : decode cL_law 1058 = .ok (.goto 1649, 3) := by decide +kernel
theorem dL_law_1061 : decode cL_law 1061 = .ok (.aload_n 1, 1) := by decide +kernel
theorem dL_law_1062 : decode cL_law 1062 = .ok (.aload_n 0, 1) := by decide +kernel
theorem dL_law_1063 : decode cL_law 1063 = .ok (.iload 4, 2) := by decide +kernel
theorem dL_law_1065 : decode cL_law 1065 = .ok (.iconst 1, 1) := by decide +kernel
theorem dL_law_1066 : decode cL_law 1066 = .ok (.iadd, 1) := by decide +kernel
theorem dL_law_1067 : decode cL_law 1067 = .ok (.iaload, 1) := by decide +kernel
theorem dL_law_1068 : decode cL_law 1068 = .ok (.aload_n 3, 1) := by decide +kernel
theorem dL_law_1069 : decode cL_law 1069 = .ok (.invokestatic 200, 3) := by decide +kernel
theorem dL_law_1072 : decode cL_law 1072 = .ok (.istore 5, 2) := by decide +kernel
theorem dL_law_1074 : decode cL_law 1074 = .ok (.aload_n 2, 1) := by decide +kernel
theorem dL_law_1075 : decode cL_law 1075 = .ok (.aload_n 0, 1) := by decide +kernel
theorem dL_law_1076 : decode cL_law 1076 = .ok (.iload 4, 2) := by decide +kernel
theorem dL_law_1078 : decode cL_law 1078 = .ok (.iconst 1, 1) := by decide +kernel
theorem dL_law_1079 : decode cL_law 1079 = .ok (.iadd, 1) := by decide +kernel
theorem dL_law_1080 : decode cL_law 1080 = .ok (.iaload, 1) := by decide +kernel
theorem dL_law_1081 : decode cL_law 1081 = .ok (.invokevirtual 202, 3) := by decide +kernel
theorem dL_law_1084 : decode cL_law 1084 = .ok (.lstore 6, 2) := by decide +kernel
theorem dL_law_1086 : decode cL_law 1086 = .ok (.aload_n 2, 1) := by decide +kernel
theorem dL_law_1087 : decode cL_law 1087 = .ok (.invokevirtual 150, 3) := by decide +kernel
theorem dL_law_1090 : decode cL_law 1090 = .ok (.iload 5, 2) := by decide +kernel
theorem dL_law_1092 : decode cL_law 1092 = .ok (.if_icmp .eq 5, 3) := by decide +kernel
theorem dL_law_1095 : decode cL_law 1095 = .ok (.iconst 0, 1) := by decide +kernel
theorem dL_law_1096 : decode cL_law 1096 = .ok (.ireturn, 1) := by decide +kernel
theorem dL_law_1097 : decode cL_law 1097 = .ok (.iload 5, 2) := by decide +kernel
theorem dL_law_1099 : decode cL_law 1099 = .ok (.ifCond .ne 14, 3) := by decide +kernel
theorem dL_law_1102 : decode cL_law 1102 = .ok (.aload_n 3, 1) := by decide +kernel
theorem dL_law_1103 : decode cL_law 1103 = .ok (.iconst 0, 1) := by decide +kernel
theorem dL_law_1104 : decode cL_law 1104 = .ok (.laload, 1) := by decide +kernel
theorem dL_law_1105 : decode cL_law 1105 = .ok (.lload 6, 2) := by decide +kernel
theorem dL_law_1107 : decode cL_law 1107 = .ok (.lcmp, 1) := by decide +kernel
theorem dL_law_1108 : decode cL_law 1108 = .ok (.ifCond .eq 5, 3) := by decide +kernel
theorem dL_law_1111 : decode cL_law 1111 = .ok (.iconst 0, 1) := by decide +kernel
theorem dL_law_1112 : decode cL_law 1112 = .ok (.ireturn, 1) := by decide +kernel
theorem dL_law_1113 : decode cL_law 1113 = .ok (.goto 1594, 3) := by decide +kernel
theorem dL_law_1116 : decode cL_law 1116 = .ok (.aload_n 1, 1) := by decide +kernel
theorem dL_law_1117 : decode cL_law 1117 = .ok (.aload_n 0, 1) := by decide +kernel
theorem dL_law_1118 : decode cL_law 1118 = .ok (.iload 4, 2) := by decide +kernel
theorem dL_law_1120 : decode cL_law 1120 = .ok (.iconst 1, 1) := by decide +kernel
theorem dL_law_1121 : decode cL_law 1121 = .ok (.iadd, 1) := by decide +kernel
theorem dL_law_1122 : decode cL_law 1122 = .ok (.iaload, 1) := by decide +kernel
theorem dL_law_1123 : decode cL_law 1123 = .ok (.aload_n 3, 1) := by decide +kernel
theorem dL_law_1124 : decode cL_law 1124 = .ok (.invokestatic 203, 3) := by decide +kernel
theorem dL_law_1127 : decode cL_law 1127 = .ok (.istore 5, 2) := by decide +kernel
theorem dL_law_1129 : decode cL_law 1129 = .ok (.aload_n 2, 1) := by decide +kernel
theorem dL_law_1130 : decode cL_law 1130 = .ok (.aload_n 0, 1) := by decide +kernel
theorem dL_law_1131 : decode cL_law 1131 = .ok (.iload 4, 2) := by decide +kernel
theorem dL_law_1133 : decode cL_law 1133 = .ok (.iconst 1, 1) := by decide +kernel
theorem dL_law_1134 : decode cL_law 1134 = .ok (.iadd, 1) := by decide +kernel
theorem dL_law_1135 : decode cL_law 1135 = .ok (.iaload, 1) := by decide +kernel
theorem dL_law_1136 : decode cL_law 1136 = .ok (.invokevirtual 205, 3) := by decide +kernel
theorem dL_law_1139 : decode cL_law 1139 = .ok (.istore 6, 2) := by decide +kernel
theorem dL_law_1141 : decode cL_law 1141 = .ok (.aload_n 2, 1) := by decide +kernel
theorem dL_law_1142 : decode cL_law 1142 = .ok (.invokevirtual 150, 3) := by decide +kernel
theorem dL_law_1145 : decode cL_law 1145 = .ok (.iload 5, 2) := by decide +kernel
theorem dL_law_1147 : decode cL_law 1147 = .ok (.if_icmp .eq 5, 3) := by decide +kernel
theorem dL_law_1150 : decode cL_law 1150 = .ok (.iconst 0, 1) := by decide +kernel
theorem dL_law_1151 : decode cL_law 1151 = .ok (.ireturn, 1) := by decide +kernel
theorem dL_law_1152 : decode cL_law 1152 = .ok (.iload 5, 2) := by decide +kernel
theorem dL_law_1154 : decode cL_law 1154 = .ok (.ifCond .ne 15, 3) := by decide +kernel
theorem dL_law_1157 : decode cL_law 1157 = .ok (.aload_n 3, 1) := by decide +kernel
theorem dL_law_1158 : decode cL_law 1158 = .ok (.iconst 0, 1) := by decide +kernel
theorem dL_law_1159 : decode cL_law 1159 = .ok (.laload, 1) := by decide +kernel
theorem dL_law_1160 : decode cL_law 1160 = .ok (.iload 6, 2) := by decide +kernel
theorem dL_law_1162 : decode cL_law 1162 = .ok (.i2l, 1) := by decide +kernel
theorem dL_law_1163 : decode cL_law 1163 = .ok (.lcmp, 1) := by decide +kernel
theorem dL_law_1164 : decode cL_law 1164 = .ok (.ifCond .eq 5, 3) := by decide +kernel
theorem dL_law_1167 : decode cL_law 1167 = .ok (.iconst 0, 1) := by decide +kernel
theorem dL_law_1168 : decode cL_law 1168 = .ok (.ireturn, 1) := by decide +kernel
theorem dL_law_1169 : decode cL_law 1169 = .ok (.goto 1538, 3) := by decide +kernel
theorem dL_law_1172 : decode cL_law 1172 = .ok (.aload_n 1, 1) := by decide +kernel
theorem dL_law_1173 : decode cL_law 1173 = .ok (.aload_n 0, 1) := by decide +kernel
theorem dL_law_1174 : decode cL_law 1174 = .ok (.iload 4, 2) := by decide +kernel
theorem dL_law_1176 : decode cL_law 1176 = .ok (.iconst 1, 1) := by decide +kernel
theorem dL_law_1177 : decode cL_law 1177 = .ok (.iadd, 1) := by decide +kernel
theorem dL_law_1178 : decode cL_law 1178 = .ok (.iaload, 1) := by decide +kernel
theorem dL_law_1179 : decode cL_law 1179 = .ok (.aload_n 3, 1) := by decide +kernel
theorem dL_law_1180 : decode cL_law 1180 = .ok (.invokestatic 206, 3) := by decide +kernel
theorem dL_law_1183 : decode cL_law 1183 = .ok (.istore 5, 2) := by decide +kernel
theorem dL_law_1185 : decode cL_law 1185 = .ok (.aload_n 2, 1) := by decide +kernel
theorem dL_law_1186 : decode cL_law 1186 = .ok (.aload_n 0, 1) := by decide +kernel
theorem dL_law_1187 : decode cL_law 1187 = .ok (.iload 4, 2) := by decide +kernel
theorem dL_law_1189 : decode cL_law 1189 = .ok (.iconst 1, 1) := by decide +kernel
theorem dL_law_1190 : decode cL_law 1190 = .ok (.iadd, 1) := by decide +kernel
theorem dL_law_1191 : decode cL_law 1191 = .ok (.iaload, 1) := by decide +kernel
theorem dL_law_1192 : decode cL_law 1192 = .ok (.invokevirtual 208, 3) := by decide +kernel
theorem dL_law_1195 : decode cL_law 1195 = .ok (.lstore 6, 2) := by decide +kernel
theorem dL_law_1197 : decode cL_law 1197 = .ok (.aload_n 2, 1) := by decide +kernel
theorem dL_law_1198 : decode cL_law 1198 = .ok (.invokevirtual 150, 3) := by decide +kernel
theorem dL_law_1201 : decode cL_law 1201 = .ok (.iload 5, 2) := by decide +kernel
theorem dL_law_1203 : decode cL_law 1203 = .ok (.if_icmp .eq 5, 3) := by decide +kernel
theorem dL_law_1206 : decode cL_law 1206 = .ok (.iconst 0, 1) := by decide +kernel
theorem dL_law_1207 : decode cL_law 1207 = .ok (.ireturn, 1) := by decide +kernel
theorem dL_law_1208 : decode cL_law 1208 = .ok (.iload 5, 2) := by decide +kernel
theorem dL_law_1210 : decode cL_law 1210 = .ok (.ifCond .ne 14, 3) := by decide +kernel
theorem dL_law_1213 : decode cL_law 1213 = .ok (.aload_n 3, 1) := by decide +kernel
theorem dL_law_1214 : decode cL_law 1214 = .ok (.iconst 0, 1) := by decide +kernel
theorem dL_law_1215 : decode cL_law 1215 = .ok (.laload, 1) := by decide +kernel
theorem dL_law_1216 : decode cL_law 1216 = .ok (.lload 6, 2) := by decide +kernel
theorem dL_law_1218 : decode cL_law 1218 = .ok (.lcmp, 1) := by decide +kernel
theorem dL_law_1219 : decode cL_law 1219 = .ok (.ifCond .eq 5, 3) := by decide +kernel
theorem dL_law_1222 : decode cL_law 1222 = .ok (.iconst 0, 1) := by decide +kernel
theorem dL_law_1223 : decode cL_law 1223 = .ok (.ireturn, 1) := by decide +kernel
theorem dL_law_1224 : decode cL_law 1224 = .ok (.goto 1483, 3) := by decide +kernel
theorem dL_law_1227 : decode cL_law 1227 = .ok (.aload_n 1, 1) := by decide +kernel
theorem dL_law_1228 : decode cL_law 1228 = .ok (.aload_n 0, 1) := by decide +kernel
theorem dL_law_1229 : decode cL_law 1229 = .ok (.iload 4, 2) := by decide +kernel
theorem dL_law_1231 : decode cL_law 1231 = .ok (.iconst 1, 1) := by decide +kernel
theorem dL_law_1232 : decode cL_law 1232 = .ok (.iadd, 1) := by decide +kernel
theorem dL_law_1233 : decode cL_law 1233 = .ok (.iaload, 1) := by decide +kernel
theorem dL_law_1234 : decode cL_law 1234 = .ok (.aload_n 3, 1) := by decide +kernel
theorem dL_law_1235 : decode cL_law 1235 = .ok (.invokestatic 209, 3) := by decide +kernel
theorem dL_law_1238 : decode cL_law 1238 = .ok (.istore 5, 2) := by decide +kernel
theorem dL_law_1240 : decode cL_law 1240 = .ok (.aload_n 2, 1) := by decide +kernel
theorem dL_law_1241 : decode cL_law 1241 = .ok (.aload_n 0, 1) := by decide +kernel
theorem dL_law_1242 : decode cL_law 1242 = .ok (.iload 4, 2) := by decide +kernel
theorem dL_law_1244 : decode cL_law 1244 = .ok (.iconst 1, 1) := by decide +kernel
theorem dL_law_1245 : decode cL_law 1245 = .ok (.iadd, 1) := by decide +kernel
theorem dL_law_1246 : decode cL_law 1246 = .ok (.iaload, 1) := by decide +kernel
theorem dL_law_1247 : decode cL_law 1247 = .ok (.invokevirtual 211, 3) := by decide +kernel
theorem dL_law_1250 : decode cL_law 1250 = .ok (.lstore 6, 2) := by decide +kernel
theorem dL_law_1252 : decode cL_law 1252 = .ok (.aload_n 2, 1) := by decide +kernel
theorem dL_law_1253 : decode cL_law 1253 = .ok (.invokevirtual 150, 3) := by decide +kernel
theorem dL_law_1256 : decode cL_law 1256 = .ok (.iload 5, 2) := by decide +kernel
theorem dL_law_1258 : decode cL_law 1258 = .ok (.if_icmp .eq 5, 3) := by decide +kernel
theorem dL_law_1261 : decode cL_law 1261 = .ok (.iconst 0, 1) := by decide +kernel
theorem dL_law_1262 : decode cL_law 1262 = .ok (.ireturn, 1) := by decide +kernel
theorem dL_law_1263 : decode cL_law 1263 = .ok (.iload 5, 2) := by decide +kernel
theorem dL_law_1265 : decode cL_law 1265 = .ok (.ifCond .ne 14, 3) := by decide +kernel
theorem dL_law_1268 : decode cL_law 1268 = .ok (.aload_n 3, 1) := by decide +kernel
theorem dL_law_1269 : decode cL_law 1269 = .ok (.iconst 0, 1) := by decide +kernel
theorem dL_law_1270 : decode cL_law 1270 = .ok (.laload, 1) := by decide +kernel
theorem dL_law_1271 : decode cL_law 1271 = .ok (.lload 6, 2) := by decide +kernel
theorem dL_law_1273 : decode cL_law 1273 = .ok (.lcmp, 1) := by decide +kernel
theorem dL_law_1274 : decode cL_law 1274 = .ok (.ifCond .eq 5, 3) := by decide +kernel
theorem dL_law_1277 : decode cL_law 1277 = .ok (.iconst 0, 1) := by decide +kernel
theorem dL_law_1278 : decode cL_law 1278 = .ok (.ireturn, 1) := by decide +kernel
theorem dL_law_1279 : decode cL_law 1279 = .ok (.goto 1428, 3) := by decide +kernel
theorem dL_law_1282 : decode cL_law 1282 = .ok (.aload_n 1, 1) := by decide +kernel
theorem dL_law_1283 : decode cL_law 1283 = .ok (.invokevirtual 212, 3) := by decide +kernel
theorem dL_law_1286 : decode cL_law 1286 = .ok (.aload_n 2, 1) := by decide +kernel
theorem dL_law_1287 : decode cL_law 1287 = .ok (.invokevirtual 215, 3) := by decide +kernel
theorem dL_law_1290 : decode cL_law 1290 = .ok (.if_icmp .eq 1417, 3) := by decide +kernel
theorem dL_law_1293 : decode cL_law 1293 = .ok (.iconst 0, 1) := by decide +kernel
theorem dL_law_1294 : decode cL_law 1294 = .ok (.ireturn, 1) := by decide +kernel
theorem dL_law_1295 : decode cL_law 1295 = .ok (.aload_n 1, 1) := by decide +kernel
theorem dL_law_1296 : decode cL_law 1296 = .ok (.aload_n 0, 1) := by decide +kernel
theorem dL_law_1297 : decode cL_law 1297 = .ok (.iload 4, 2) := by decide +kernel
theorem dL_law_1299 : decode cL_law 1299 = .ok (.iconst 1, 1) := by decide +kernel
theorem dL_law_1300 : decode cL_law 1300 = .ok (.iadd, 1) := by decide +kernel
theorem dL_law_1301 : decode cL_law 1301 = .ok (.iaload, 1) := by decide +kernel
theorem dL_law_1302 : decode cL_law 1302 = .ok (.aload_n 3, 1) := by decide +kernel
theorem dL_law_1303 : decode cL_law 1303 = .ok (.invokestatic 216, 3) := by decide +kernel
theorem dL_law_1306 : decode cL_law 1306 = .ok (.istore 5, 2) := by decide +kernel
theorem dL_law_1308 : decode cL_law 1308 = .ok (.aload_n 2, 1) := by decide +kernel
theorem dL_law_1309 : decode cL_law 1309 = .ok (.aload_n 0, 1) := by decide +kernel
theorem dL_law_1310 : decode cL_law 1310 = .ok (.iload 4, 2) := by decide +kernel
theorem dL_law_1312 : decode cL_law 1312 = .ok (.iconst 1, 1) := by decide +kernel
theorem dL_law_1313 : decode cL_law 1313 = .ok (.iadd, 1) := by decide +kernel
theorem dL_law_1314 : decode cL_law 1314 = .ok (.iaload, 1) := by decide +kernel
theorem dL_law_1315 : decode cL_law 1315 = .ok (.invokevirtual 218, 3) := by decide +kernel
theorem dL_law_1318 : decode cL_law 1318 = .ok (.istore 6, 2) := by decide +kernel
theorem dL_law_1320 : decode cL_law 1320 = .ok (.aload_n 2, 1) := by decide +kernel
theorem dL_law_1321 : decode cL_law 1321 = .ok (.invokevirtual 150, 3) := by decide +kernel
theorem dL_law_1324 : decode cL_law 1324 = .ok (.iload 5, 2) := by decide +kernel
theorem dL_law_1326 : decode cL_law 1326 = .ok (.if_icmp .eq 5, 3) := by decide +kernel
theorem dL_law_1329 : decode cL_law 1329 = .ok (.iconst 0, 1) := by decide +kernel
theorem dL_law_1330 : decode cL_law 1330 = .ok (.ireturn, 1) := by decide +kernel
theorem dL_law_1331 : decode cL_law 1331 = .ok (.iload 5, 2) := by decide +kernel
theorem dL_law_1333 : decode cL_law 1333 = .ok (.ifCond .ne 15, 3) := by decide +kernel
theorem dL_law_1336 : decode cL_law 1336 = .ok (.aload_n 3, 1) := by decide +kernel
theorem dL_law_1337 : decode cL_law 1337 = .ok (.iconst 0, 1) := by decide +kernel
theorem dL_law_1338 : decode cL_law 1338 = .ok (.laload, 1) := by decide +kernel
theorem dL_law_1339 : decode cL_law 1339 = .ok (.iload 6, 2) := by decide +kernel
theorem dL_law_1341 : decode cL_law 1341 = .ok (.i2l, 1) := by decide +kernel
theorem dL_law_1342 : decode cL_law 1342 = .ok (.lcmp, 1) := by decide +kernel
theorem dL_law_1343 : decode cL_law 1343 = .ok (.ifCond .eq 5, 3) := by decide +kernel
theorem dL_law_1346 : decode cL_law 1346 = .ok (.iconst 0, 1) := by decide +kernel
theorem dL_law_1347 : decode cL_law 1347 = .ok (.ireturn, 1) := by decide +kernel
theorem dL_law_1348 : decode cL_law 1348 = .ok (.goto 1359, 3) := by decide +kernel
theorem dL_law_1351 : decode cL_law 1351 = .ok (.aload_n 1, 1) := by decide +kernel
theorem dL_law_1352 : decode cL_law 1352 = .ok (.aload_n 0, 1) := by decide +kernel
theorem dL_law_1353 : decode cL_law 1353 = .ok (.iload 4, 2) := by decide +kernel
theorem dL_law_1355 : decode cL_law 1355 = .ok (.iconst 1, 1) := by decide +kernel
theorem dL_law_1356 : decode cL_law 1356 = .ok (.iadd, 1) := by decide +kernel
theorem dL_law_1357 : decode cL_law 1357 = .ok (.iaload, 1) := by decide +kernel
theorem dL_law_1358 : decode cL_law 1358 = .ok (.aload_n 3, 1) := by decide +kernel
theorem dL_law_1359 : decode cL_law 1359 = .ok (.invokestatic 219, 3) := by decide +kernel
theorem dL_law_1362 : decode cL_law 1362 = .ok (.istore 5, 2) := by decide +kernel
theorem dL_law_1364 : decode cL_law 1364 = .ok (.aload_n 2, 1) := by decide +kernel
theorem dL_law_1365 : decode cL_law 1365 = .ok (.aload_n 0, 1) := by decide +kernel
theorem dL_law_1366 : decode cL_law 1366 = .ok (.iload 4, 2) := by decide +kernel
theorem dL_law_1368 : decode cL_law 1368 = .ok (.iconst 1, 1) := by decide +kernel
theorem dL_law_1369 : decode cL_law 1369 = .ok (.iadd, 1) := by decide +kernel
theorem dL_law_1370 : decode cL_law 1370 = .ok (.iaload, 1) := by decide +kernel
theorem dL_law_1371 : decode cL_law 1371 = .ok (.invokevirtual 221, 3) := by decide +kernel
theorem dL_law_1374 : decode cL_law 1374 = .ok (.lstore 6, 2) := by decide +kernel
theorem dL_law_1376 : decode cL_law 1376 = .ok (.aload_n 2, 1) := by decide +kernel
theorem dL_law_1377 : decode cL_law 1377 = .ok (.invokevirtual 150, 3) := by decide +kernel
theorem dL_law_1380 : decode cL_law 1380 = .ok (.iload 5, 2) := by decide +kernel
theorem dL_law_1382 : decode cL_law 1382 = .ok (.if_icmp .eq 5, 3) := by decide +kernel
theorem dL_law_1385 : decode cL_law 1385 = .ok (.iconst 0, 1) := by decide +kernel
theorem dL_law_1386 : decode cL_law 1386 = .ok (.ireturn, 1) := by decide +kernel
theorem dL_law_1387 : decode cL_law 1387 = .ok (.iload 5, 2) := by decide +kernel
theorem dL_law_1389 : decode cL_law 1389 = .ok (.ifCond .ne 14, 3) := by decide +kernel
theorem dL_law_1392 : decode cL_law 1392 = .ok (.aload_n 3, 1) := by decide +kernel
theorem dL_law_1393 : decode cL_law 1393 = .ok (.iconst 0, 1) := by decide +kernel
theorem dL_law_1394 : decode cL_law 1394 = .ok (.laload, 1) := by decide +kernel
theorem dL_law_1395 : decode cL_law 1395 = .ok (.lload 6, 2) := by decide +kernel
theorem dL_law_1397 : decode cL_law 1397 = .ok (.lcmp, 1) := by decide +kernel
theorem dL_law_1398 : decode cL_law 1398 = .ok (.ifCond .eq 5, 3) := by decide +kernel
theorem dL_law_1401 : decode cL_law 1401 = .ok (.iconst 0, 1) := by decide +kernel
theorem dL_law_1402 : decode cL_law 1402 = .ok (.ireturn, 1) := by decide +kernel
theorem dL_law_1403 : decode cL_law 1403 = .ok (.goto 1304, 3) := by decide +kernel
theorem dL_law_1406 : decode cL_law 1406 = .ok (.aload_n 1, 1) := by decide +kernel
theorem dL_law_1407 : decode cL_law 1407 = .ok (.aload_n 0, 1) := by decide +kernel
theorem dL_law_1408 : decode cL_law 1408 = .ok (.iload 4, 2) := by decide +kernel
theorem dL_law_1410 : decode cL_law 1410 = .ok (.iconst 1, 1) := by decide +kernel
theorem dL_law_1411 : decode cL_law 1411 = .ok (.iadd, 1) := by decide +kernel
theorem dL_law_1412 : decode cL_law 1412 = .ok (.iaload, 1) := by decide +kernel
theorem dL_law_1413 : decode cL_law 1413 = .ok (.aload_n 3, 1) := by decide +kernel
theorem dL_law_1414 : decode cL_law 1414 = .ok (.invokestatic 222, 3) := by decide +kernel
theorem dL_law_1417 : decode cL_law 1417 = .ok (.istore 5, 2) := by decide +kernel
theorem dL_law_1419 : decode cL_law 1419 = .ok (.aload_n 2, 1) := by decide +kernel
theorem dL_law_1420 : decode cL_law 1420 = .ok (.aload_n 0, 1) := by decide +kernel
theorem dL_law_1421 : decode cL_law 1421 = .ok (.iload 4, 2) := by decide +kernel
theorem dL_law_1423 : decode cL_law 1423 = .ok (.iconst 1, 1) := by decide +kernel
theorem dL_law_1424 : decode cL_law 1424 = .ok (.iadd, 1) := by decide +kernel
theorem dL_law_1425 : decode cL_law 1425 = .ok (.iaload, 1) := by decide +kernel
theorem dL_law_1426 : decode cL_law 1426 = .ok (.invokevirtual 224, 3) := by decide +kernel
theorem dL_law_1429 : decode cL_law 1429 = .ok (.lstore 6, 2) := by decide +kernel
theorem dL_law_1431 : decode cL_law 1431 = .ok (.aload_n 2, 1) := by decide +kernel
theorem dL_law_1432 : decode cL_law 1432 = .ok (.invokevirtual 150, 3) := by decide +kernel
theorem dL_law_1435 : decode cL_law 1435 = .ok (.iload 5, 2) := by decide +kernel
theorem dL_law_1437 : decode cL_law 1437 = .ok (.if_icmp .eq 5, 3) := by decide +kernel
theorem dL_law_1440 : decode cL_law 1440 = .ok (.iconst 0, 1) := by decide +kernel
theorem dL_law_1441 : decode cL_law 1441 = .ok (.ireturn, 1) := by decide +kernel
theorem dL_law_1442 : decode cL_law 1442 = .ok (.iload 5, 2) := by decide +kernel
theorem dL_law_1444 : decode cL_law 1444 = .ok (.ifCond .ne 14, 3) := by decide +kernel
theorem dL_law_1447 : decode cL_law 1447 = .ok (.aload_n 3, 1) := by decide +kernel
theorem dL_law_1448 : decode cL_law 1448 = .ok (.iconst 0, 1) := by decide +kernel
theorem dL_law_1449 : decode cL_law 1449 = .ok (.laload, 1) := by decide +kernel
theorem dL_law_1450 : decode cL_law 1450 = .ok (.lload 6, 2) := by decide +kernel
theorem dL_law_1452 : decode cL_law 1452 = .ok (.lcmp, 1) := by decide +kernel
theorem dL_law_1453 : decode cL_law 1453 = .ok (.ifCond .eq 5, 3) := by decide +kernel
theorem dL_law_1456 : decode cL_law 1456 = .ok (.iconst 0, 1) := by decide +kernel
theorem dL_law_1457 : decode cL_law 1457 = .ok (.ireturn, 1) := by decide +kernel
theorem dL_law_1458 : decode cL_law 1458 = .ok (.goto 1249, 3) := by decide +kernel
theorem dL_law_1461 : decode cL_law 1461 = .ok (.aload_n 1, 1) := by decide +kernel
theorem dL_law_1462 : decode cL_law 1462 = .ok (.aload_n 0, 1) := by decide +kernel
theorem dL_law_1463 : decode cL_law 1463 = .ok (.iload 4, 2) := by decide +kernel
theorem dL_law_1465 : decode cL_law 1465 = .ok (.iconst 1, 1) := by decide +kernel
theorem dL_law_1466 : decode cL_law 1466 = .ok (.iadd, 1) := by decide +kernel
theorem dL_law_1467 : decode cL_law 1467 = .ok (.iaload, 1) := by decide +kernel
theorem dL_law_1468 : decode cL_law 1468 = .ok (.aload_n 3, 1) := by decide +kernel
theorem dL_law_1469 : decode cL_law 1469 = .ok (.invokestatic 225, 3) := by decide +kernel
theorem dL_law_1472 : decode cL_law 1472 = .ok (.istore 5, 2) := by decide +kernel
theorem dL_law_1474 : decode cL_law 1474 = .ok (.aload_n 2, 1) := by decide +kernel
theorem dL_law_1475 : decode cL_law 1475 = .ok (.aload_n 0, 1) := by decide +kernel
theorem dL_law_1476 : decode cL_law 1476 = .ok (.iload 4, 2) := by decide +kernel
theorem dL_law_1478 : decode cL_law 1478 = .ok (.iconst 1, 1) := by decide +kernel
theorem dL_law_1479 : decode cL_law 1479 = .ok (.iadd, 1) := by decide +kernel
theorem dL_law_1480 : decode cL_law 1480 = .ok (.iaload, 1) := by decide +kernel
theorem dL_law_1481 : decode cL_law 1481 = .ok (.invokevirtual 227, 3) := by decide +kernel
theorem dL_law_1484 : decode cL_law 1484 = .ok (.istore 6, 2) := by decide +kernel
theorem dL_law_1486 : decode cL_law 1486 = .ok (.aload_n 2, 1) := by decide +kernel
theorem dL_law_1487 : decode cL_law 1487 = .ok (.invokevirtual 150, 3) := by decide +kernel
theorem dL_law_1490 : decode cL_law 1490 = .ok (.iload 5, 2) := by decide +kernel
theorem dL_law_1492 : decode cL_law 1492 = .ok (.if_icmp .eq 5, 3) := by decide +kernel
theorem dL_law_1495 : decode cL_law 1495 = .ok (.iconst 0, 1) := by decide +kernel
theorem dL_law_1496 : decode cL_law 1496 = .ok (.ireturn, 1) := by decide +kernel
theorem dL_law_1497 : decode cL_law 1497 = .ok (.iload 5, 2) := by decide +kernel
theorem dL_law_1499 : decode cL_law 1499 = .ok (.ifCond .ne 15, 3) := by decide +kernel
theorem dL_law_1502 : decode cL_law 1502 = .ok (.aload_n 3, 1) := by decide +kernel
theorem dL_law_1503 : decode cL_law 1503 = .ok (.iconst 0, 1) := by decide +kernel
theorem dL_law_1504 : decode cL_law 1504 = .ok (.laload, 1) := by decide +kernel
theorem dL_law_1505 : decode cL_law 1505 = .ok (.iload 6, 2) := by decide +kernel
theorem dL_law_1507 : decode cL_law 1507 = .ok (.i2l, 1) := by decide +kernel
theorem dL_law_1508 : decode cL_law 1508 = .ok (.lcmp, 1) := by decide +kernel
theorem dL_law_1509 : decode cL_law 1509 = .ok (.ifCond .eq 5, 3) := by decide +kernel
theorem dL_law_1512 : decode cL_law 1512 = .ok (.iconst 0, 1) := by decide +kernel
theorem dL_law_1513 : decode cL_law 1513 = .ok (.ireturn, 1) := by decide +kernel
theorem dL_law_1514 : decode cL_law 1514 = .ok (.goto 1193, 3) := by decide +kernel
theorem dL_law_1517 : decode cL_law 1517 = .ok (.aload_n 1, 1) := by decide +kernel
theorem dL_law_1518 : decode cL_law 1518 = .ok (.aload_n 0, 1) := by decide +kernel
theorem dL_law_1519 : decode cL_law 1519 = .ok (.iload 4, 2) := by decide +kernel
theorem dL_law_1521 : decode cL_law 1521 = .ok (.iconst 1, 1) := by decide +kernel
theorem dL_law_1522 : decode cL_law 1522 = .ok (.iadd, 1) := by decide +kernel
theorem dL_law_1523 : decode cL_law 1523 = .ok (.iaload, 1) := by decide +kernel
theorem dL_law_1524 : decode cL_law 1524 = .ok (.aload_n 3, 1) := by decide +kernel
theorem dL_law_1525 : decode cL_law 1525 = .ok (.invokestatic 228, 3) := by decide +kernel
theorem dL_law_1528 : decode cL_law 1528 = .ok (.istore 5, 2) := by decide +kernel
theorem dL_law_1530 : decode cL_law 1530 = .ok (.aload_n 2, 1) := by decide +kernel
theorem dL_law_1531 : decode cL_law 1531 = .ok (.aload_n 0, 1) := by decide +kernel
theorem dL_law_1532 : decode cL_law 1532 = .ok (.iload 4, 2) := by decide +kernel
theorem dL_law_1534 : decode cL_law 1534 = .ok (.iconst 1, 1) := by decide +kernel
theorem dL_law_1535 : decode cL_law 1535 = .ok (.iadd, 1) := by decide +kernel
theorem dL_law_1536 : decode cL_law 1536 = .ok (.iaload, 1) := by decide +kernel
theorem dL_law_1537 : decode cL_law 1537 = .ok (.invokevirtual 230, 3) := by decide +kernel
theorem dL_law_1540 : decode cL_law 1540 = .ok (.istore 6, 2) := by decide +kernel
theorem dL_law_1542 : decode cL_law 1542 = .ok (.aload_n 2, 1) := by decide +kernel
theorem dL_law_1543 : decode cL_law 1543 = .ok (.invokevirtual 150, 3) := by decide +kernel
theorem dL_law_1546 : decode cL_law 1546 = .ok (.iload 5, 2) := by decide +kernel
theorem dL_law_1548 : decode cL_law 1548 = .ok (.if_icmp .eq 5, 3) := by decide +kernel
theorem dL_law_1551 : decode cL_law 1551 = .ok (.iconst 0, 1) := by decide +kernel
theorem dL_law_1552 : decode cL_law 1552 = .ok (.ireturn, 1) := by decide +kernel
theorem dL_law_1553 : decode cL_law 1553 = .ok (.iload 5, 2) := by decide +kernel
theorem dL_law_1555 : decode cL_law 1555 = .ok (.ifCond .ne 22, 3) := by decide +kernel
theorem dL_law_1558 : decode cL_law 1558 = .ok (.aload_n 3, 1) := by decide +kernel
theorem dL_law_1559 : decode cL_law 1559 = .ok (.iconst 0, 1) := by decide +kernel
theorem dL_law_1560 : decode cL_law 1560 = .ok (.laload, 1) := by decide +kernel
theorem dL_law_1561 : decode cL_law 1561 = .ok (.iload 6, 2) := by decide +kernel
theorem dL_law_1563 : decode cL_law 1563 = .ok (.ifCond .eq 7, 3) := by decide +kernel
theorem dL_law_1566 : decode cL_law 1566 = .ok (.lconst 1, 1) := by decide +kernel
theorem dL_law_1567 : decode cL_law 1567 = .ok (.goto 4, 3) := by decide +kernel
theorem dL_law_1570 : decode cL_law 1570 = .ok (.lconst 0, 1) := by decide +kernel
theorem dL_law_1571 : decode cL_law 1571 = .ok (.lcmp, 1) := by decide +kernel
theorem dL_law_1572 : decode cL_law 1572 = .ok (.ifCond .eq 5, 3) := by decide +kernel
theorem dL_law_1575 : decode cL_law 1575 = .ok (.iconst 0, 1) := by decide +kernel
theorem dL_law_1576 : decode cL_law 1576 = .ok (.ireturn, 1) := by decide +kernel
theorem dL_law_1577 : decode cL_law 1577 = .ok (.goto 1130, 3) := by decide +kernel
theorem dL_law_1580 : decode cL_law 1580 = .ok (.aload_n 1, 1) := by decide +kernel
theorem dL_law_1581 : decode cL_law 1581 = .ok (.aload_n 0, 1) := by decide +kernel
theorem dL_law_1582 : decode cL_law 1582 = .ok (.iload 4, 2) := by decide +kernel
theorem dL_law_1584 : decode cL_law 1584 = .ok (.iconst 1, 1) := by decide +kernel
theorem dL_law_1585 : decode cL_law 1585 = .ok (.iadd, 1) := by decide +kernel
theorem dL_law_1586 : decode cL_law 1586 = .ok (.iaload, 1) := by decide +kernel
theorem dL_law_1587 : decode cL_law 1587 = .ok (.aload_n 0, 1) := by decide +kernel
theorem dL_law_1588 : decode cL_law 1588 = .ok (.iload 4, 2) := by decide +kernel
theorem dL_law_1590 : decode cL_law 1590 = .ok (.iconst 2, 1) := by decide +kernel
theorem dL_law_1591 : decode cL_law 1591 = .ok (.iadd, 1) := by decide +kernel
theorem dL_law_1592 : decode cL_law 1592 = .ok (.iaload, 1) := by decide +kernel
theorem dL_law_1593 : decode cL_law 1593 = .ok (.invokevirtual 231, 3) := by decide +kernel
theorem dL_law_1596 : decode cL_law 1596 = .ok (.aload_n 2, 1) := by decide +kernel
theorem dL_law_1597 : decode cL_law 1597 = .ok (.aload_n 0, 1) := by decide +kernel
theorem dL_law_1598 : decode cL_law 1598 = .ok (.iload 4, 2) := by decide +kernel
theorem dL_law_1600 : decode cL_law 1600 = .ok (.iconst 1, 1) := by decide +kernel
theorem dL_law_1601 : decode cL_law 1601 = .ok (.iadd, 1) := by decide +kernel
theorem dL_law_1602 : decode cL_law 1602 = .ok (.iaload, 1) := by decide +kernel
theorem dL_law_1603 : decode cL_law 1603 = .ok (.aload_n 0, 1) := by decide +kernel
theorem dL_law_1604 : decode cL_law 1604 = .ok (.iload 4, 2) := by decide +kernel
theorem dL_law_1606 : decode cL_law 1606 = .ok (.iconst 2, 1) := by decide +kernel
theorem dL_law_1607 : decode cL_law 1607 = .ok (.iadd, 1) := by decide +kernel
theorem dL_law_1608 : decode cL_law 1608 = .ok (.iaload, 1) := by decide +kernel
theorem dL_law_1609 : decode cL_law 1609 = .ok (.invokevirtual 234, 3) := by decide +kernel
theorem dL_law_1612 : decode cL_law 1612 = .ok (.lcmp, 1) := by decide +kernel
theorem dL_law_1613 : decode cL_law 1613 = .ok (.ifCond .eq 1094, 3) := by decide +kernel
theorem dL_law_1616 : decode cL_law 1616 = .ok (.iconst 0, 1) := by decide +kernel
theorem dL_law_1617 : decode cL_law 1617 = .ok (.ireturn, 1) := by decide +kernel
theorem dL_law_1618 : decode cL_law 1618 = .ok (.aload_n 1, 1) := by decide +kernel
theorem dL_law_1619 : decode cL_law 1619 = .ok (.aload_n 0, 1) := by decide +kernel
theorem dL_law_1620 : decode cL_law 1620 = .ok (.iload 4, 2) := by decide +kernel
theorem dL_law_1622 : decode cL_law 1622 = .ok (.iconst 1, 1) := by decide +kernel
theorem dL_law_1623 : decode cL_law 1623 = .ok (.iadd, 1) := by decide +kernel
theorem dL_law_1624 : decode cL_law 1624 = .ok (.iaload, 1) := by decide +kernel
theorem dL_law_1625 : decode cL_law 1625 = .ok (.aload_n 0, 1) := by decide +kernel
theorem dL_law_1626 : decode cL_law 1626 = .ok (.iload 4, 2) := by decide +kernel
theorem dL_law_1628 : decode cL_law 1628 = .ok (.iconst 2, 1) := by decide +kernel
theorem dL_law_1629 : decode cL_law 1629 = .ok (.iadd, 1) := by decide +kernel
theorem dL_law_1630 : decode cL_law 1630 = .ok (.iaload, 1) := by decide +kernel
theorem dL_law_1631 : decode cL_law 1631 = .ok (.aload_n 3, 1) := by decide +kernel
theorem dL_law_1632 : decode cL_law 1632 = .ok (.invokestatic 235, 3) := by decide +kernel
theorem dL_law_1635 : decode cL_law 1635 = .ok (.istore 5, 2) := by decide +kernel
theorem dL_law_1637 : decode cL_law 1637 = .ok (.aload_n 2, 1) := by decide +kernel
theorem dL_law_1638 : decode cL_law 1638 = .ok (.aload_n 0, 1) := by decide +kernel
theorem dL_law_1639 : decode cL_law 1639 = .ok (.iload 4, 2) := by decide +kernel
theorem dL_law_1641 : decode cL_law 1641 = .ok (.iconst 1, 1) := by decide +kernel
theorem dL_law_1642 : decode cL_law 1642 = .ok (.iadd, 1) := by decide +kernel
theorem dL_law_1643 : decode cL_law 1643 = .ok (.iaload, 1) := by decide +kernel
theorem dL_law_1644 : decode cL_law 1644 = .ok (.aload_n 0, 1) := by decide +kernel
theorem dL_law_1645 : decode cL_law 1645 = .ok (.iload 4, 2) := by decide +kernel
theorem dL_law_1647 : decode cL_law 1647 = .ok (.iconst 2, 1) := by decide +kernel
theorem dL_law_1648 : decode cL_law 1648 = .ok (.iadd, 1) := by decide +kernel
theorem dL_law_1649 : decode cL_law 1649 = .ok (.iaload, 1) := by decide +kernel
theorem dL_law_1650 : decode cL_law 1650 = .ok (.invokevirtual 237, 3) := by decide +kernel
theorem dL_law_1653 : decode cL_law 1653 = .ok (.istore 6, 2) := by decide +kernel
theorem dL_law_1655 : decode cL_law 1655 = .ok (.aload_n 2, 1) := by decide +kernel
theorem dL_law_1656 : decode cL_law 1656 = .ok (.invokevirtual 150, 3) := by decide +kernel
theorem dL_law_1659 : decode cL_law 1659 = .ok (.iload 5, 2) := by decide +kernel
theorem dL_law_1661 : decode cL_law 1661 = .ok (.if_icmp .eq 5, 3) := by decide +kernel
theorem dL_law_1664 : decode cL_law 1664 = .ok (.iconst 0, 1) := by decide +kernel
theorem dL_law_1665 : decode cL_law 1665 = .ok (.ireturn, 1) := by decide +kernel
theorem dL_law_1666 : decode cL_law 1666 = .ok (.iload 5, 2) := by decide +kernel
theorem dL_law_1668 : decode cL_law 1668 = .ok (.ifCond .ne 15, 3) := by decide +kernel
theorem dL_law_1671 : decode cL_law 1671 = .ok (.aload_n 3, 1) := by decide +kernel
theorem dL_law_1672 : decode cL_law 1672 = .ok (.iconst 0, 1) := by decide +kernel
theorem dL_law_1673 : decode cL_law 1673 = .ok (.laload, 1) := by decide +kernel
theorem dL_law_1674 : decode cL_law 1674 = .ok (.iload 6, 2) := by decide +kernel
theorem dL_law_1676 : decode cL_law 1676 = .ok (.i2l, 1) := by decide +kernel
theorem dL_law_1677 : decode cL_law 1677 = .ok (.lcmp, 1) := by decide +kernel
theorem dL_law_1678 : decode cL_law 1678 = .ok (.ifCond .eq 5, 3) := by decide +kernel
theorem dL_law_1681 : decode cL_law 1681 = .ok (.iconst 0, 1) := by decide +kernel
theorem dL_law_1682 : decode cL_law 1682 = .ok (.ireturn, 1) := by decide +kernel
theorem dL_law_1683 : decode cL_law 1683 = .ok (.goto 1024, 3) := by decide +kernel
theorem dL_law_1686 : decode cL_law 1686 = .ok (.aload_n 1, 1) := by decide +kernel
theorem dL_law_1687 : decode cL_law 1687 = .ok (.invokevirtual 238, 3) := by decide +kernel
theorem dL_law_1690 : decode cL_law 1690 = .ok (.aload_n 2, 1) := by decide +kernel
theorem dL_law_1691 : decode cL_law 1691 = .ok (.invokevirtual 241, 3) := by decide +kernel
theorem dL_law_1694 : decode cL_law 1694 = .ok (.if_icmp .eq 1013, 3) := by decide +kernel
theorem dL_law_1697 : decode cL_law 1697 = .ok (.iconst 0, 1) := by decide +kernel
theorem dL_law_1698 : decode cL_law 1698 = .ok (.ireturn, 1) := by decide +kernel
theorem dL_law_1699 : decode cL_law 1699 = .ok (.aload_n 1, 1) := by decide +kernel
theorem dL_law_1700 : decode cL_law 1700 = .ok (.aload_n 0, 1) := by decide +kernel
theorem dL_law_1701 : decode cL_law 1701 = .ok (.iload 4, 2) := by decide +kernel
theorem dL_law_1703 : decode cL_law 1703 = .ok (.iconst 1, 1) := by decide +kernel
theorem dL_law_1704 : decode cL_law 1704 = .ok (.iadd, 1) := by decide +kernel
theorem dL_law_1705 : decode cL_law 1705 = .ok (.iaload, 1) := by decide +kernel
theorem dL_law_1706 : decode cL_law 1706 = .ok (.aload_n 3, 1) := by decide +kernel
theorem dL_law_1707 : decode cL_law 1707 = .ok (.invokestatic 242, 3) := by decide +kernel
theorem dL_law_1710 : decode cL_law 1710 = .ok (.istore 5, 2) := by decide +kernel
theorem dL_law_1712 : decode cL_law 1712 = .ok (.aload_n 2, 1) := by decide +kernel
theorem dL_law_1713 : decode cL_law 1713 = .ok (.aload_n 0, 1) := by decide +kernel
theorem dL_law_1714 : decode cL_law 1714 = .ok (.iload 4, 2) := by decide +kernel
theorem dL_law_1716 : decode cL_law 1716 = .ok (.iconst 1, 1) := by decide +kernel
theorem dL_law_1717 : decode cL_law 1717 = .ok (.iadd, 1) := by decide +kernel
theorem dL_law_1718 : decode cL_law 1718 = .ok (.iaload, 1) := by decide +kernel
theorem dL_law_1719 : decode cL_law 1719 = .ok (.invokevirtual 244, 3) := by decide +kernel
theorem dL_law_1722 : decode cL_law 1722 = .ok (.istore 6, 2) := by decide +kernel
theorem dL_law_1724 : decode cL_law 1724 = .ok (.aload_n 2, 1) := by decide +kernel
theorem dL_law_1725 : decode cL_law 1725 = .ok (.invokevirtual 150, 3) := by decide +kernel
theorem dL_law_1728 : decode cL_law 1728 = .ok (.iload 5, 2) := by decide +kernel
theorem dL_law_1730 : decode cL_law 1730 = .ok (.if_icmp .eq 5, 3) := by decide +kernel
theorem dL_law_1733 : decode cL_law 1733 = .ok (.iconst 0, 1) := by decide +kernel
theorem dL_law_1734 : decode cL_law 1734 = .ok (.ireturn, 1) := by decide +kernel
theorem dL_law_1735 : decode cL_law 1735 = .ok (.iload 5, 2) := by decide +kernel
theorem dL_law_1737 : decode cL_law 1737 = .ok (.ifCond .ne 22, 3) := by decide +kernel
theorem dL_law_1740 : decode cL_law 1740 = .ok (.aload_n 3, 1) := by decide +kernel
theorem dL_law_1741 : decode cL_law 1741 = .ok (.iconst 0, 1) := by decide +kernel
theorem dL_law_1742 : decode cL_law 1742 = .ok (.laload, 1) := by decide +kernel
theorem dL_law_1743 : decode cL_law 1743 = .ok (.iload 6, 2) := by decide +kernel
theorem dL_law_1745 : decode cL_law 1745 = .ok (.ifCond .eq 7, 3) := by decide +kernel
theorem dL_law_1748 : decode cL_law 1748 = .ok (.lconst 1, 1) := by decide +kernel
theorem dL_law_1749 : decode cL_law 1749 = .ok (.goto 4, 3) := by decide +kernel
theorem dL_law_1752 : decode cL_law 1752 = .ok (.lconst 0, 1) := by decide +kernel
theorem dL_law_1753 : decode cL_law 1753 = .ok (.lcmp, 1) := by decide +kernel
theorem dL_law_1754 : decode cL_law 1754 = .ok (.ifCond .eq 5, 3) := by decide +kernel
theorem dL_law_1757 : decode cL_law 1757 = .ok (.iconst 0, 1) := by decide +kernel
theorem dL_law_1758 : decode cL_law 1758 = .ok (.ireturn, 1) := by decide +kernel
theorem dL_law_1759 : decode cL_law 1759 = .ok (.goto 948, 3) := by decide +kernel
theorem dL_law_1762 : decode cL_law 1762 = .ok (.aload_n 1, 1) := by decide +kernel
theorem dL_law_1763 : decode cL_law 1763 = .ok (.aload_n 0, 1) := by decide +kernel
theorem dL_law_1764 : decode cL_law 1764 = .ok (.iload 4, 2) := by decide +kernel
theorem dL_law_1766 : decode cL_law 1766 = .ok (.iconst 1, 1) := by decide +kernel
theorem dL_law_1767 : decode cL_law 1767 = .ok (.iadd, 1) := by decide +kernel
theorem dL_law_1768 : decode cL_law 1768 = .ok (.iaload, 1) := by decide +kernel
theorem dL_law_1769 : decode cL_law 1769 = .ok (.aload_n 3, 1) := by decide +kernel
theorem dL_law_1770 : decode cL_law 1770 = .ok (.invokestatic 245, 3) := by decide +kernel
theorem dL_law_1773 : decode cL_law 1773 = .ok (.istore 5, 2) := by decide +kernel
theorem dL_law_1775 : decode cL_law 1775 = .ok (.aload_n 2, 1) := by decide +kernel
theorem dL_law_1776 : decode cL_law 1776 = .ok (.aload_n 0, 1) := by decide +kernel
theorem dL_law_1777 : decode cL_law 1777 = .ok (.iload 4, 2) := by decide +kernel
theorem dL_law_1779 : decode cL_law 1779 = .ok (.iconst 1, 1) := by decide +kernel
theorem dL_law_1780 : decode cL_law 1780 = .ok (.iadd, 1) := by decide +kernel
theorem dL_law_1781 : decode cL_law 1781 = .ok (.iaload, 1) := by decide +kernel
theorem dL_law_1782 : decode cL_law 1782 = .ok (.invokevirtual 247, 3) := by decide +kernel
theorem dL_law_1785 : decode cL_law 1785 = .ok (.lstore 6, 2) := by decide +kernel
theorem dL_law_1787 : decode cL_law 1787 = .ok (.aload_n 2, 1) := by decide +kernel
theorem dL_law_1788 : decode cL_law 1788 = .ok (.invokevirtual 150, 3) := by decide +kernel
theorem dL_law_1791 : decode cL_law 1791 = .ok (.iload 5, 2) := by decide +kernel
theorem dL_law_1793 : decode cL_law 1793 = .ok (.if_icmp .eq 5, 3) := by decide +kernel
theorem dL_law_1796 : decode cL_law 1796 = .ok (.iconst 0, 1) := by decide +kernel
theorem dL_law_1797 : decode cL_law 1797 = .ok (.ireturn, 1) := by decide +kernel
theorem dL_law_1798 : decode cL_law 1798 = .ok (.iload 5, 2) := by decide +kernel
theorem dL_law_1800 : decode cL_law 1800 = .ok (.ifCond .ne 14, 3) := by decide +kernel
theorem dL_law_1803 : decode cL_law 1803 = .ok (.aload_n 3, 1) := by decide +kernel
theorem dL_law_1804 : decode cL_law 1804 = .ok (.iconst 0, 1) := by decide +kernel
theorem dL_law_1805 : decode cL_law 1805 = .ok (.laload, 1) := by decide +kernel
theorem dL_law_1806 : decode cL_law 1806 = .ok (.lload 6, 2) := by decide +kernel
theorem dL_law_1808 : decode cL_law 1808 = .ok (.lcmp, 1) := by decide +kernel
theorem dL_law_1809 : decode cL_law 1809 = .ok (.ifCond .eq 5, 3) := by decide +kernel
theorem dL_law_1812 : decode cL_law 1812 = .ok (.iconst 0, 1) := by decide +kernel
theorem dL_law_1813 : decode cL_law 1813 = .ok (.ireturn, 1) := by decide +kernel
theorem dL_law_1814 : decode cL_law 1814 = .ok (.goto 893, 3) := by decide +kernel
theorem dL_law_1817 : decode cL_law 1817 = .ok (.aload_n 1, 1) := by decide +kernel
theorem dL_law_1818 : decode cL_law 1818 = .ok (.invokevirtual 248, 3) := by decide +kernel
theorem dL_law_1821 : decode cL_law 1821 = .ok (.aload_n 2, 1) := by decide +kernel
theorem dL_law_1822 : decode cL_law 1822 = .ok (.invokevirtual 251, 3) := by decide +kernel
theorem dL_law_1825 : decode cL_law 1825 = .ok (.if_icmp .eq 882, 3) := by decide +kernel
theorem dL_law_1828 : decode cL_law 1828 = .ok (.iconst 0, 1) := by decide +kernel
theorem dL_law_1829 : decode cL_law 1829 = .ok (.ireturn, 1) := by decide +kernel
theorem dL_law_1830 : decode cL_law 1830 = .ok (.aload_n 1, 1) := by decide +kernel
theorem dL_law_1831 : decode cL_law 1831 = .ok (.aload_n 0, 1) := by decide +kernel
theorem dL_law_1832 : decode cL_law 1832 = .ok (.iload 4, 2) := by decide +kernel
theorem dL_law_1834 : decode cL_law 1834 = .ok (.iconst 1, 1) := by decide +kernel
theorem dL_law_1835 : decode cL_law 1835 = .ok (.iadd, 1) := by decide +kernel
theorem dL_law_1836 : decode cL_law 1836 = .ok (.iaload, 1) := by decide +kernel
theorem dL_law_1837 : decode cL_law 1837 = .ok (.aload_n 3, 1) := by decide +kernel
theorem dL_law_1838 : decode cL_law 1838 = .ok (.invokestatic 252, 3) := by decide +kernel
theorem dL_law_1841 : decode cL_law 1841 = .ok (.istore 5, 2) := by decide +kernel
theorem dL_law_1843 : decode cL_law 1843 = .ok (.aload_n 2, 1) := by decide +kernel
theorem dL_law_1844 : decode cL_law 1844 = .ok (.aload_n 0, 1) := by decide +kernel
theorem dL_law_1845 : decode cL_law 1845 = .ok (.iload 4, 2) := by decide +kernel
theorem dL_law_1847 : decode cL_law 1847 = .ok (.iconst 1, 1) := by decide +kernel
theorem dL_law_1848 : decode cL_law 1848 = .ok (.iadd, 1) := by decide +kernel
theorem dL_law_1849 : decode cL_law 1849 = .ok (.iaload, 1) := by decide +kernel
theorem dL_law_1850 : decode cL_law 1850 = .ok (.invokevirtual 254, 3) := by decide +kernel
theorem dL_law_1853 : decode cL_law 1853 = .ok (.lstore 6, 2) := by decide +kernel
theorem dL_law_1855 : decode cL_law 1855 = .ok (.aload_n 2, 1) := by decide +kernel
theorem dL_law_1856 : decode cL_law 1856 = .ok (.invokevirtual 150, 3) := by decide +kernel
theorem dL_law_1859 : decode cL_law 1859 = .ok (.iload 5, 2) := by decide +kernel
theorem dL_law_1861 : decode cL_law 1861 = .ok (.if_icmp .eq 5, 3) := by decide +kernel
theorem dL_law_1864 : decode cL_law 1864 = .ok (.iconst 0, 1) := by decide +kernel
theorem dL_law_1865 : decode cL_law 1865 = .ok (.ireturn, 1) := by decide +kernel
theorem dL_law_1866 : decode cL_law 1866 = .ok (.iload 5, 2) := by decide +kernel
theorem dL_law_1868 : decode cL_law 1868 = .ok (.ifCond .ne 14, 3) := by decide +kernel
theorem dL_law_1871 : decode cL_law 1871 = .ok (.aload_n 3, 1) := by decide +kernel
theorem dL_law_1872 : decode cL_law 1872 = .ok (.iconst 0, 1) := by decide +kernel
theorem dL_law_1873 : decode cL_law 1873 = .ok (.laload, 1) := by decide +kernel
theorem dL_law_1874 : decode cL_law 1874 = .ok (.lload 6, 2) := by decide +kernel
theorem dL_law_1876 : decode cL_law 1876 = .ok (.lcmp, 1) := by decide +kernel
theorem dL_law_1877 : decode cL_law 1877 = .ok (.ifCond .eq 5, 3) := by decide +kernel
theorem dL_law_1880 : decode cL_law 1880 = .ok (.iconst 0, 1) := by decide +kernel
theorem dL_law_1881 : decode cL_law 1881 = .ok (.ireturn, 1) := by decide +kernel
theorem dL_law_1882 : decode cL_law 1882 = .ok (.goto 825, 3) := by decide +kernel
theorem dL_law_1885 : decode cL_law 1885 = .ok (.aload_n 1, 1) := by decide +kernel
theorem dL_law_1886 : decode cL_law 1886 = .ok (.aload_n 0, 1) := by decide +kernel
theorem dL_law_1887 : decode cL_law 1887 = .ok (.iload 4, 2) := by decide +kernel
theorem dL_law_1889 : decode cL_law 1889 = .ok (.iconst 1, 1) := by decide +kernel
theorem dL_law_1890 : decode cL_law 1890 = .ok (.iadd, 1) := by decide +kernel
theorem dL_law_1891 : decode cL_law 1891 = .ok (.iaload, 1) := by decide +kernel
theorem dL_law_1892 : decode cL_law 1892 = .ok (.aload_n 3, 1) := by decide +kernel
theorem dL_law_1893 : decode cL_law 1893 = .ok (.invokestatic 255, 3) := by decide +kernel
theorem dL_law_1896 : decode cL_law 1896 = .ok (.istore 5, 2) := by decide +kernel
theorem dL_law_1898 : decode cL_law 1898 = .ok (.aload_n 2, 1) := by decide +kernel
theorem dL_law_1899 : decode cL_law 1899 = .ok (.aload_n 0, 1) := by decide +kernel
theorem dL_law_1900 : decode cL_law 1900 = .ok (.iload 4, 2) := by decide +kernel
theorem dL_law_1902 : decode cL_law 1902 = .ok (.iconst 1, 1) := by decide +kernel
theorem dL_law_1903 : decode cL_law 1903 = .ok (.iadd, 1) := by decide +kernel
theorem dL_law_1904 : decode cL_law 1904 = .ok (.iaload, 1) := by decide +kernel
theorem dL_law_1905 : decode cL_law 1905 = .ok (.invokevirtual 257, 3) := by decide +kernel
theorem dL_law_1908 : decode cL_law 1908 = .ok (.istore 6, 2) := by decide +kernel
theorem dL_law_1910 : decode cL_law 1910 = .ok (.aload_n 2, 1) := by decide +kernel
theorem dL_law_1911 : decode cL_law 1911 = .ok (.invokevirtual 150, 3) := by decide +kernel
theorem dL_law_1914 : decode cL_law 1914 = .ok (.iload 5, 2) := by decide +kernel
theorem dL_law_1916 : decode cL_law 1916 = .ok (.if_icmp .eq 5, 3) := by decide +kernel
theorem dL_law_1919 : decode cL_law 1919 = .ok (.iconst 0, 1) := by decide +kernel
theorem dL_law_1920 : decode cL_law 1920 = .ok (.ireturn, 1) := by decide +kernel
theorem dL_law_1921 : decode cL_law 1921 = .ok (.iload 5, 2) := by decide +kernel
theorem dL_law_1923 : decode cL_law 1923 = .ok (.ifCond .ne 15, 3) := by decide +kernel
theorem dL_law_1926 : decode cL_law 1926 = .ok (.aload_n 3, 1) := by decide +kernel
theorem dL_law_1927 : decode cL_law 1927 = .ok (.iconst 0, 1) := by decide +kernel
theorem dL_law_1928 : decode cL_law 1928 = .ok (.laload, 1) := by decide +kernel
theorem dL_law_1929 : decode cL_law 1929 = .ok (.iload 6, 2) := by decide +kernel
theorem dL_law_1931 : decode cL_law 1931 = .ok (.i2l, 1) := by decide +kernel
theorem dL_law_1932 : decode cL_law 1932 = .ok (.lcmp, 1) := by decide +kernel
theorem dL_law_1933 : decode cL_law 1933 = .ok (.ifCond .eq 5, 3) := by decide +kernel
theorem dL_law_1936 : decode cL_law 1936 = .ok (.iconst 0, 1) := by decide +kernel
theorem dL_law_1937 : decode cL_law 1937 = .ok (.ireturn, 1) := by decide +kernel
theorem dL_law_1938 : decode cL_law 1938 = .ok (.goto 769, 3) := by decide +kernel
theorem dL_law_1941 : decode cL_law 1941 = .ok (.aload_n 1, 1) := by decide +kernel
theorem dL_law_1942 : decode cL_law 1942 = .ok (.aload_n 0, 1) := by decide +kernel
theorem dL_law_1943 : decode cL_law 1943 = .ok (.iload 4, 2) := by decide +kernel
theorem dL_law_1945 : decode cL_law 1945 = .ok (.iconst 1, 1) := by decide +kernel
theorem dL_law_1946 : decode cL_law 1946 = .ok (.iadd, 1) := by decide +kernel
theorem dL_law_1947 : decode cL_law 1947 = .ok (.iaload, 1) := by decide +kernel
theorem dL_law_1948 : decode cL_law 1948 = .ok (.aload_n 0, 1) := by decide +kernel
theorem dL_law_1949 : decode cL_law 1949 = .ok (.iload 4, 2) := by decide +kernel
theorem dL_law_1951 : decode cL_law 1951 = .ok (.iconst 2, 1) := by decide +kernel
theorem dL_law_1952 : decode cL_law 1952 = .ok (.iadd, 1) := by decide +kernel
theorem dL_law_1953 : decode cL_law 1953 = .ok (.iaload, 1) := by decide +kernel
theorem dL_law_1954 : decode cL_law 1954 = .ok (.aload_n 3, 1) := by decide +kernel
theorem dL_law_1955 : decode cL_law 1955 = .ok (.invokestatic 258, 3) := by decide +kernel
theorem dL_law_1958 : decode cL_law 1958 = .ok (.istore 5, 2) := by decide +kernel
theorem dL_law_1960 : decode cL_law 1960 = .ok (.aload_n 2, 1) := by decide +kernel
theorem dL_law_1961 : decode cL_law 1961 = .ok (.aload_n 0, 1) := by decide +kernel
theorem dL_law_1962 : decode cL_law 1962 = .ok (.iload 4, 2) := by decide +kernel
theorem dL_law_1964 : decode cL_law 1964 = .ok (.iconst 1, 1) := by decide +kernel
theorem dL_law_1965 : decode cL_law 1965 = .ok (.iadd, 1) := by decide +kernel
theorem dL_law_1966 : decode cL_law 1966 = .ok (.iaload, 1) := by decide +kernel
theorem dL_law_1967 : decode cL_law 1967 = .ok (.aload_n 0, 1) := by decide +kernel
theorem dL_law_1968 : decode cL_law 1968 = .ok (.iload 4, 2) := by decide +kernel
theorem dL_law_1970 : decode cL_law 1970 = .ok (.iconst 2, 1) := by decide +kernel
theorem dL_law_1971 : decode cL_law 1971 = .ok (.iadd, 1) := by decide +kernel
theorem dL_law_1972 : decode cL_law 1972 = .ok (.iaload, 1) := by decide +kernel
theorem dL_law_1973 : decode cL_law 1973 = .ok (.invokevirtual 260, 3) := by decide +kernel
theorem dL_law_1976 : decode cL_law 1976 = .ok (.lstore 6, 2) := by decide +kernel
theorem dL_law_1978 : decode cL_law 1978 = .ok (.aload_n 2, 1) := by decide +kernel
theorem dL_law_1979 : decode cL_law 1979 = .ok (.invokevirtual 150, 3) := by decide +kernel
theorem dL_law_1982 : decode cL_law 1982 = .ok (.iload 5, 2) := by decide +kernel
theorem dL_law_1984 : decode cL_law 1984 = .ok (.if_icmp .eq 5, 3) := by decide +kernel
theorem dL_law_1987 : decode cL_law 1987 = .ok (.iconst 0, 1) := by decide +kernel
theorem dL_law_1988 : decode cL_law 1988 = .ok (.ireturn, 1) := by decide +kernel
theorem dL_law_1989 : decode cL_law 1989 = .ok (.iload 5, 2) := by decide +kernel
theorem dL_law_1991 : decode cL_law 1991 = .ok (.ifCond .ne 14, 3) := by decide +kernel
theorem dL_law_1994 : decode cL_law 1994 = .ok (.aload_n 3, 1) := by decide +kernel
theorem dL_law_1995 : decode cL_law 1995 = .ok (.iconst 0, 1) := by decide +kernel
theorem dL_law_1996 : decode cL_law 1996 = .ok (.laload, 1) := by decide +kernel
theorem dL_law_1997 : decode cL_law 1997 = .ok (.lload 6, 2) := by decide +kernel
theorem dL_law_1999 : decode cL_law 1999 = .ok (.lcmp, 1) := by decide +kernel
theorem dL_law_2000 : decode cL_law 2000 = .ok (.ifCond .eq 5, 3) := by decide +kernel
theorem dL_law_2003 : decode cL_law 2003 = .ok (.iconst 0, 1) := by decide +kernel
theorem dL_law_2004 : decode cL_law 2004 = .ok (.ireturn, 1) := by decide +kernel
theorem dL_law_2005 : decode cL_law 2005 = .ok (.goto 702, 3) := by decide +kernel
theorem dL_law_2008 : decode cL_law 2008 = .ok (.aload_n 1, 1) := by decide +kernel
theorem dL_law_2009 : decode cL_law 2009 = .ok (.aload_n 0, 1) := by decide +kernel
theorem dL_law_2010 : decode cL_law 2010 = .ok (.iload 4, 2) := by decide +kernel
theorem dL_law_2012 : decode cL_law 2012 = .ok (.iconst 1, 1) := by decide +kernel
theorem dL_law_2013 : decode cL_law 2013 = .ok (.iadd, 1) := by decide +kernel
theorem dL_law_2014 : decode cL_law 2014 = .ok (.iaload, 1) := by decide +kernel
theorem dL_law_2015 : decode cL_law 2015 = .ok (.aload_n 0, 1) := by decide +kernel
theorem dL_law_2016 : decode cL_law 2016 = .ok (.iload 4, 2) := by decide +kernel
theorem dL_law_2018 : decode cL_law 2018 = .ok (.iconst 2, 1) := by decide +kernel
theorem dL_law_2019 : decode cL_law 2019 = .ok (.iadd, 1) := by decide +kernel
theorem dL_law_2020 : decode cL_law 2020 = .ok (.iaload, 1) := by decide +kernel
theorem dL_law_2021 : decode cL_law 2021 = .ok (.aload_n 0, 1) := by decide +kernel
theorem dL_law_2022 : decode cL_law 2022 = .ok (.iload 4, 2) := by decide +kernel
theorem dL_law_2024 : decode cL_law 2024 = .ok (.iconst 3, 1) := by decide +kernel
theorem dL_law_2025 : decode cL_law 2025 = .ok (.iadd, 1) := by decide +kernel
theorem dL_law_2026 : decode cL_law 2026 = .ok (.iaload, 1) := by decide +kernel
theorem dL_law_2027 : decode cL_law 2027 = .ok (.aload_n 3, 1) := by decide +kernel
theorem dL_law_2028 : decode cL_law 2028 = .ok (.invokestatic 261, 3) := by decide +kernel
theorem dL_law_2031 : decode cL_law 2031 = .ok (.istore 5, 2) := by decide +kernel
theorem dL_law_2033 : decode cL_law 2033 = .ok (.aload_n 2, 1) := by decide +kernel
theorem dL_law_2034 : decode cL_law 2034 = .ok (.aload_n 0, 1) := by decide +kernel
theorem dL_law_2035 : decode cL_law 2035 = .ok (.iload 4, 2) := by decide +kernel
theorem dL_law_2037 : decode cL_law 2037 = .ok (.iconst 1, 1) := by decide +kernel
theorem dL_law_2038 : decode cL_law 2038 = .ok (.iadd, 1) := by decide +kernel
theorem dL_law_2039 : decode cL_law 2039 = .ok (.iaload, 1) := by decide +kernel
theorem dL_law_2040 : decode cL_law 2040 = .ok (.aload_n 0, 1) := by decide +kernel
theorem dL_law_2041 : decode cL_law 2041 = .ok (.iload 4, 2) := by decide +kernel
theorem dL_law_2043 : decode cL_law 2043 = .ok (.iconst 2, 1) := by decide +kernel
theorem dL_law_2044 : decode cL_law 2044 = .ok (.iadd, 1) := by decide +kernel
theorem dL_law_2045 : decode cL_law 2045 = .ok (.iaload, 1) := by decide +kernel
theorem dL_law_2046 : decode cL_law 2046 = .ok (.aload_n 0, 1) := by decide +kernel
theorem dL_law_2047 : decode cL_law 2047 = .ok (.iload 4, 2) := by decide +kernel
theorem dL_law_2049 : decode cL_law 2049 = .ok (.iconst 3, 1) := by decide +kernel
theorem dL_law_2050 : decode cL_law 2050 = .ok (.iadd, 1) := by decide +kernel
theorem dL_law_2051 : decode cL_law 2051 = .ok (.iaload, 1) := by decide +kernel
theorem dL_law_2052 : decode cL_law 2052 = .ok (.invokevirtual 264, 3) := by decide +kernel
theorem dL_law_2055 : decode cL_law 2055 = .ok (.istore 6, 2) := by decide +kernel
theorem dL_law_2057 : decode cL_law 2057 = .ok (.aload_n 2, 1) := by decide +kernel
theorem dL_law_2058 : decode cL_law 2058 = .ok (.invokevirtual 150, 3) := by decide +kernel
theorem dL_law_2061 : decode cL_law 2061 = .ok (.iload 5, 2) := by decide +kernel
theorem dL_law_2063 : decode cL_law 2063 = .ok (.if_icmp .eq 5, 3) := by decide +kernel
theorem dL_law_2066 : decode cL_law 2066 = .ok (.iconst 0, 1) := by decide +kernel
theorem dL_law_2067 : decode cL_law 2067 = .ok (.ireturn, 1) := by decide +kernel
theorem dL_law_2068 : decode cL_law 2068 = .ok (.iload 5, 2) := by decide +kernel
theorem dL_law_2070 : decode cL_law 2070 = .ok (.ifCond .ne 15, 3) := by decide +kernel
theorem dL_law_2073 : decode cL_law 2073 = .ok (.aload_n 3, 1) := by decide +kernel
theorem dL_law_2074 : decode cL_law 2074 = .ok (.iconst 0, 1) := by decide +kernel
theorem dL_law_2075 : decode cL_law 2075 = .ok (.laload, 1) := by decide +kernel
theorem dL_law_2076 : decode cL_law 2076 = .ok (.iload 6, 2) := by decide +kernel
theorem dL_law_2078 : decode cL_law 2078 = .ok (.i2l, 1) := by decide +kernel
theorem dL_law_2079 : decode cL_law 2079 = .ok (.lcmp, 1) := by decide +kernel
theorem dL_law_2080 : decode cL_law 2080 = .ok (.ifCond .eq 5, 3) := by decide +kernel
theorem dL_law_2083 : decode cL_law 2083 = .ok (.iconst 0, 1) := by decide +kernel
theorem dL_law_2084 : decode cL_law 2084 = .ok (.ireturn, 1) := by decide +kernel
theorem dL_law_2085 : decode cL_law 2085 = .ok (.goto 622, 3) := by decide +kernel
theorem dL_law_2088 : decode cL_law 2088 = .ok (.aload_n 1, 1) := by decide +kernel
theorem dL_law_2089 : decode cL_law 2089 = .ok (.aload_n 0, 1) := by decide +kernel
theorem dL_law_2090 : decode cL_law 2090 = .ok (.iload 4, 2) := by decide +kernel
theorem dL_law_2092 : decode cL_law 2092 = .ok (.iconst 1, 1) := by decide +kernel
theorem dL_law_2093 : decode cL_law 2093 = .ok (.iadd, 1) := by decide +kernel
theorem dL_law_2094 : decode cL_law 2094 = .ok (.iaload, 1) := by decide +kernel
theorem dL_law_2095 : decode cL_law 2095 = .ok (.aload_n 0, 1) := by decide +kernel
theorem dL_law_2096 : decode cL_law 2096 = .ok (.iload 4, 2) := by decide +kernel
theorem dL_law_2098 : decode cL_law 2098 = .ok (.iconst 2, 1) := by decide +kernel
theorem dL_law_2099 : decode cL_law 2099 = .ok (.iadd, 1) := by decide +kernel
theorem dL_law_2100 : decode cL_law 2100 = .ok (.iaload, 1) := by decide +kernel
theorem dL_law_2101 : decode cL_law 2101 = .ok (.aload_n 0, 1) := by decide +kernel
theorem dL_law_2102 : decode cL_law 2102 = .ok (.iload 4, 2) := by decide +kernel
theorem dL_law_2104 : decode cL_law 2104 = .ok (.iconst 3, 1) := by decide +kernel
theorem dL_law_2105 : decode cL_law 2105 = .ok (.iadd, 1) := by decide +kernel
theorem dL_law_2106 : decode cL_law 2106 = .ok (.iaload, 1) := by decide +kernel
theorem dL_law_2107 : decode cL_law 2107 = .ok (.aload_n 3, 1) := by decide +kernel
theorem dL_law_2108 : decode cL_law 2108 = .ok (.invokestatic 265, 3) := by decide +kernel
theorem dL_law_2111 : decode cL_law 2111 = .ok (.istore 5, 2) := by decide +kernel
theorem dL_law_2113 : decode cL_law 2113 = .ok (.aload_n 2, 1) := by decide +kernel
theorem dL_law_2114 : decode cL_law 2114 = .ok (.aload_n 0, 1) := by decide +kernel
theorem dL_law_2115 : decode cL_law 2115 = .ok (.iload 4, 2) := by decide +kernel
theorem dL_law_2117 : decode cL_law 2117 = .ok (.iconst 1, 1) := by decide +kernel
theorem dL_law_2118 : decode cL_law 2118 = .ok (.iadd, 1) := by decide +kernel
theorem dL_law_2119 : decode cL_law 2119 = .ok (.iaload, 1) := by decide +kernel
theorem dL_law_2120 : decode cL_law 2120 = .ok (.aload_n 0, 1) := by decide +kernel
theorem dL_law_2121 : decode cL_law 2121 = .ok (.iload 4, 2) := by decide +kernel
theorem dL_law_2123 : decode cL_law 2123 = .ok (.iconst 2, 1) := by decide +kernel
theorem dL_law_2124 : decode cL_law 2124 = .ok (.iadd, 1) := by decide +kernel
theorem dL_law_2125 : decode cL_law 2125 = .ok (.iaload, 1) := by decide +kernel
theorem dL_law_2126 : decode cL_law 2126 = .ok (.aload_n 0, 1) := by decide +kernel
theorem dL_law_2127 : decode cL_law 2127 = .ok (.iload 4, 2) := by decide +kernel
theorem dL_law_2129 : decode cL_law 2129 = .ok (.iconst 3, 1) := by decide +kernel
theorem dL_law_2130 : decode cL_law 2130 = .ok (.iadd, 1) := by decide +kernel
theorem dL_law_2131 : decode cL_law 2131 = .ok (.iaload, 1) := by decide +kernel
theorem dL_law_2132 : decode cL_law 2132 = .ok (.invokevirtual 267, 3) := by decide +kernel
theorem dL_law_2135 : decode cL_law 2135 = .ok (.istore 6, 2) := by decide +kernel
theorem dL_law_2137 : decode cL_law 2137 = .ok (.aload_n 2, 1) := by decide +kernel
theorem dL_law_2138 : decode cL_law 2138 = .ok (.invokevirtual 150, 3) := by decide +kernel
theorem dL_law_2141 : decode cL_law 2141 = .ok (.iload 5, 2) := by decide +kernel
theorem dL_law_2143 : decode cL_law 2143 = .ok (.if_icmp .eq 5, 3) := by decide +kernel
theorem dL_law_2146 : decode cL_law 2146 = .ok (.iconst 0, 1) := by decide +kernel
theorem dL_law_2147 : decode cL_law 2147 = .ok (.ireturn, 1) := by decide +kernel
theorem dL_law_2148 : decode cL_law 2148 = .ok (.iload 5, 2) := by decide +kernel
theorem dL_law_2150 : decode cL_law 2150 = .ok (.ifCond .ne 15, 3) := by decide +kernel
theorem dL_law_2153 : decode cL_law 2153 = .ok (.aload_n 3, 1) := by decide +kernel
theorem dL_law_2154 : decode cL_law 2154 = .ok (.iconst 0, 1) := by decide +kernel
theorem dL_law_2155 : decode cL_law 2155 = .ok (.laload, 1) := by decide +kernel
theorem dL_law_2156 : decode cL_law 2156 = .ok (.iload 6, 2) := by decide +kernel
theorem dL_law_2158 : decode cL_law 2158 = .ok (.i2l, 1) := by decide +kernel
theorem dL_law_2159 : decode cL_law 2159 = .ok (.lcmp, 1) := by decide +kernel
theorem dL_law_2160 : decode cL_law 2160 = .ok (.ifCond .eq 5, 3) := by decide +kernel
theorem dL_law_2163 : decode cL_law 2163 = .ok (.iconst 0, 1) := by decide +kernel
theorem dL_law_2164 : decode cL_law 2164 = .ok (.ireturn, 1) := by decide +kernel
theorem dL_law_2165 : decode cL_law 2165 = .ok (.goto 542, 3) := by decide +kernel
theorem dL_law_2168 : decode cL_law 2168 = .ok (.aload_n 1, 1) := by decide +kernel
theorem dL_law_2169 : decode cL_law 2169 = .ok (.aload_n 0, 1) := by decide +kernel
theorem dL_law_2170 : decode cL_law 2170 = .ok (.iload 4, 2) := by decide +kernel
theorem dL_law_2172 : decode cL_law 2172 = .ok (.iconst 1, 1) := by decide +kernel
theorem dL_law_2173 : decode cL_law 2173 = .ok (.iadd, 1) := by decide +kernel
theorem dL_law_2174 : decode cL_law 2174 = .ok (.iaload, 1) := by decide +kernel
theorem dL_law_2175 : decode cL_law 2175 = .ok (.aload_n 3, 1) := by decide +kernel
theorem dL_law_2176 : decode cL_law 2176 = .ok (.invokestatic 268, 3) := by decide +kernel
theorem dL_law_2179 : decode cL_law 2179 = .ok (.istore 5, 2) := by decide +kernel
theorem dL_law_2181 : decode cL_law 2181 = .ok (.aload_n 2, 1) := by decide +kernel
theorem dL_law_2182 : decode cL_law 2182 = .ok (.aload_n 0, 1) := by decide +kernel
theorem dL_law_2183 : decode cL_law 2183 = .ok (.iload 4, 2) := by decide +kernel
theorem dL_law_2185 : decode cL_law 2185 = .ok (.iconst 1, 1) := by decide +kernel
theorem dL_law_2186 : decode cL_law 2186 = .ok (.iadd, 1) := by decide +kernel
theorem dL_law_2187 : decode cL_law 2187 = .ok (.iaload, 1) := by decide +kernel
theorem dL_law_2188 : decode cL_law 2188 = .ok (.invokevirtual 270, 3) := by decide +kernel
theorem dL_law_2191 : decode cL_law 2191 = .ok (.istore 6, 2) := by decide +kernel
theorem dL_law_2193 : decode cL_law 2193 = .ok (.aload_n 2, 1) := by decide +kernel
theorem dL_law_2194 : decode cL_law 2194 = .ok (.invokevirtual 150, 3) := by decide +kernel
theorem dL_law_2197 : decode cL_law 2197 = .ok (.iload 5, 2) := by decide +kernel
theorem dL_law_2199 : decode cL_law 2199 = .ok (.if_icmp .eq 5, 3) := by decide +kernel
theorem dL_law_2202 : decode cL_law 2202 = .ok (.iconst 0, 1) := by decide +kernel
theorem dL_law_2203 : decode cL_law 2203 = .ok (.ireturn, 1) := by decide +kernel
theorem dL_law_2204 : decode cL_law 2204 = .ok (.iload 5, 2) := by decide +kernel
theorem dL_law_2206 : decode cL_law 2206 = .ok (.ifCond .ne 15, 3) := by decide +kernel
theorem dL_law_2209 : decode cL_law 2209 = .ok (.aload_n 3, 1) := by decide +kernel
theorem dL_law_2210 : decode cL_law 2210 = .ok (.iconst 0, 1) := by decide +kernel
theorem dL_law_2211 : decode cL_law 2211 = .ok (.laload, 1) := by decide +kernel
theorem dL_law_2212 : decode cL_law 2212 = .ok (.iload 6, 2) := by decide +kernel
theorem dL_law_2214 : decode cL_law 2214 = .ok (.i2l, 1) := by decide +kernel
theorem dL_law_2215 : decode cL_law 2215 = .ok (.lcmp, 1) := by decide +kernel
theorem dL_law_2216 : decode cL_law 2216 = .ok (.ifCond .eq 5, 3) := by decide +kernel
theorem dL_law_2219 : decode cL_law 2219 = .ok (.iconst 0, 1) := by decide +kernel
theorem dL_law_2220 : decode cL_law 2220 = .ok (.ireturn, 1) := by decide +kernel
theorem dL_law_2221 : decode cL_law 2221 = .ok (.goto 486, 3) := by decide +kernel
theorem dL_law_2224 : decode cL_law 2224 = .ok (.aload_n 1, 1) := by decide +kernel
theorem dL_law_2225 : decode cL_law 2225 = .ok (.aload_n 0, 1) := by decide +kernel
theorem dL_law_2226 : decode cL_law 2226 = .ok (.iload 4, 2) := by decide +kernel
theorem dL_law_2228 : decode cL_law 2228 = .ok (.iconst 1, 1) := by decide +kernel
theorem dL_law_2229 : decode cL_law 2229 = .ok (.iadd, 1) := by decide +kernel
theorem dL_law_2230 : decode cL_law 2230 = .ok (.iaload, 1) := by decide +kernel
theorem dL_law_2231 : decode cL_law 2231 = .ok (.aload_n 3, 1) := by decide +kernel
theorem dL_law_2232 : decode cL_law 2232 = .ok (.invokestatic 271, 3) := by decide +kernel
theorem dL_law_2235 : decode cL_law 2235 = .ok (.istore 5, 2) := by decide +kernel
theorem dL_law_2237 : decode cL_law 2237 = .ok (.aload_n 2, 1) := by decide +kernel
theorem dL_law_2238 : decode cL_law 2238 = .ok (.aload_n 0, 1) := by decide +kernel
theorem dL_law_2239 : decode cL_law 2239 = .ok (.iload 4, 2) := by decide +kernel
theorem dL_law_2241 : decode cL_law 2241 = .ok (.iconst 1, 1) := by decide +kernel
theorem dL_law_2242 : decode cL_law 2242 = .ok (.iadd, 1) := by decide +kernel
theorem dL_law_2243 : decode cL_law 2243 = .ok (.iaload, 1) := by decide +kernel
theorem dL_law_2244 : decode cL_law 2244 = .ok (.invokevirtual 273, 3) := by decide +kernel
theorem dL_law_2247 : decode cL_law 2247 = .ok (.istore 6, 2) := by decide +kernel
theorem dL_law_2249 : decode cL_law 2249 = .ok (.aload_n 2, 1) := by decide +kernel
theorem dL_law_2250 : decode cL_law 2250 = .ok (.invokevirtual 150, 3) := by decide +kernel
theorem dL_law_2253 : decode cL_law 2253 = .ok (.iload 5, 2) := by decide +kernel
theorem dL_law_2255 : decode cL_law 2255 = .ok (.if_icmp .eq 5, 3) := by decide +kernel
theorem dL_law_2258 : decode cL_law 2258 = .ok (.iconst 0, 1) := by decide +kernel
theorem dL_law_2259 : decode cL_law 2259 = .ok (.ireturn, 1) := by decide +kernel
theorem dL_law_2260 : decode cL_law 2260 = .ok (.iload 5, 2) := by decide +kernel
theorem dL_law_2262 : decode cL_law 2262 = .ok (.ifCond .ne 15, 3) := by decide +kernel
theorem dL_law_2265 : decode cL_law 2265 = .ok (.aload_n 3, 1) := by decide +kernel
theorem dL_law_2266 : decode cL_law 2266 = .ok (.iconst 0, 1) := by decide +kernel
theorem dL_law_2267 : decode cL_law 2267 = .ok (.laload, 1) := by decide +kernel
theorem dL_law_2268 : decode cL_law 2268 = .ok (.iload 6, 2) := by decide +kernel
theorem dL_law_2270 : decode cL_law 2270 = .ok (.i2l, 1) := by decide +kernel
theorem dL_law_2271 : decode cL_law 2271 = .ok (.lcmp, 1) := by decide +kernel
theorem dL_law_2272 : decode cL_law 2272 = .ok (.ifCond .eq 5, 3) := by decide +kernel
theorem dL_law_2275 : decode cL_law 2275 = .ok (.iconst 0, 1) := by decide +kernel
theorem dL_law_2276 : decode cL_law 2276 = .ok (.ireturn, 1) := by decide +kernel
theorem dL_law_2277 : decode cL_law 2277 = .ok (.goto 430, 3) := by decide +kernel
theorem dL_law_2280 : decode cL_law 2280 = .ok (.aload_n 1, 1) := by decide +kernel
theorem dL_law_2281 : decode cL_law 2281 = .ok (.aload_n 0, 1) := by decide +kernel
theorem dL_law_2282 : decode cL_law 2282 = .ok (.iload 4, 2) := by decide +kernel
theorem dL_law_2284 : decode cL_law 2284 = .ok (.iconst 1, 1) := by decide +kernel
theorem dL_law_2285 : decode cL_law 2285 = .ok (.iadd, 1) := by decide +kernel
theorem dL_law_2286 : decode cL_law 2286 = .ok (.iaload, 1) := by decide +kernel
theorem dL_law_2287 : decode cL_law 2287 = .ok (.aload_n 3, 1) := by decide +kernel
theorem dL_law_2288 : decode cL_law 2288 = .ok (.invokestatic 274, 3) := by decide +kernel
theorem dL_law_2291 : decode cL_law 2291 = .ok (.istore 5, 2) := by decide +kernel
theorem dL_law_2293 : decode cL_law 2293 = .ok (.aload_n 2, 1) := by decide +kernel
theorem dL_law_2294 : decode cL_law 2294 = .ok (.aload_n 0, 1) := by decide +kernel
theorem dL_law_2295 : decode cL_law 2295 = .ok (.iload 4, 2) := by decide +kernel
theorem dL_law_2297 : decode cL_law 2297 = .ok (.iconst 1, 1) := by decide +kernel
theorem dL_law_2298 : decode cL_law 2298 = .ok (.iadd, 1) := by decide +kernel
theorem dL_law_2299 : decode cL_law 2299 = .ok (.iaload, 1) := by decide +kernel
theorem dL_law_2300 : decode cL_law 2300 = .ok (.invokevirtual 276, 3) := by decide +kernel
theorem dL_law_2303 : decode cL_law 2303 = .ok (.istore 6, 2) := by decide +kernel
theorem dL_law_2305 : decode cL_law 2305 = .ok (.aload_n 2, 1) := by decide +kernel
theorem dL_law_2306 : decode cL_law 2306 = .ok (.invokevirtual 150, 3) := by decide +kernel
theorem dL_law_2309 : decode cL_law 2309 = .ok (.iload 5, 2) := by decide +kernel
theorem dL_law_2311 : decode cL_law 2311 = .ok (.if_icmp .eq 5, 3) := by decide +kernel
theorem dL_law_2314 : decode cL_law 2314 = .ok (.iconst 0, 1) := by decide +kernel
theorem dL_law_2315 : decode cL_law 2315 = .ok (.ireturn, 1) := by decide +kernel
theorem dL_law_2316 : decode cL_law 2316 = .ok (.iload 5, 2) := by decide +kernel
theorem dL_law_2318 : decode cL_law 2318 = .ok (.ifCond .ne 15, 3) := by decide +kernel
theorem dL_law_2321 : decode cL_law 2321 = .ok (.aload_n 3, 1) := by decide +kernel
theorem dL_law_2322 : decode cL_law 2322 = .ok (.iconst 0, 1) := by decide +kernel
theorem dL_law_2323 : decode cL_law 2323 = .ok (.laload, 1) := by decide +kernel
theorem dL_law_2324 : decode cL_law 2324 = .ok (.iload 6, 2) := by decide +kernel
theorem dL_law_2326 : decode cL_law 2326 = .ok (.i2l, 1) := by decide +kernel
theorem dL_law_2327 : decode cL_law 2327 = .ok (.lcmp, 1) := by decide +kernel
theorem dL_law_2328 : decode cL_law 2328 = .ok (.ifCond .eq 5, 3) := by decide +kernel
theorem dL_law_2331 : decode cL_law 2331 = .ok (.iconst 0, 1) := by decide +kernel
theorem dL_law_2332 : decode cL_law 2332 = .ok (.ireturn, 1) := by decide +kernel
theorem dL_law_2333 : decode cL_law 2333 = .ok (.goto 374, 3) := by decide +kernel
theorem dL_law_2336 : decode cL_law 2336 = .ok (.aload_n 1, 1) := by decide +kernel
theorem dL_law_2337 : decode cL_law 2337 = .ok (.aload_n 0, 1) := by decide +kernel
theorem dL_law_2338 : decode cL_law 2338 = .ok (.iload 4, 2) := by decide +kernel
theorem dL_law_2340 : decode cL_law 2340 = .ok (.iconst 1, 1) := by decide +kernel
theorem dL_law_2341 : decode cL_law 2341 = .ok (.iadd, 1) := by decide +kernel
theorem dL_law_2342 : decode cL_law 2342 = .ok (.iaload, 1) := by decide +kernel
theorem dL_law_2343 : decode cL_law 2343 = .ok (.aload_n 0, 1) := by decide +kernel
theorem dL_law_2344 : decode cL_law 2344 = .ok (.iload 4, 2) := by decide +kernel
theorem dL_law_2346 : decode cL_law 2346 = .ok (.iconst 2, 1) := by decide +kernel
theorem dL_law_2347 : decode cL_law 2347 = .ok (.iadd, 1) := by decide +kernel
theorem dL_law_2348 : decode cL_law 2348 = .ok (.iaload, 1) := by decide +kernel
theorem dL_law_2349 : decode cL_law 2349 = .ok (.aload_n 3, 1) := by decide +kernel
theorem dL_law_2350 : decode cL_law 2350 = .ok (.invokestatic 277, 3) := by decide +kernel
theorem dL_law_2353 : decode cL_law 2353 = .ok (.istore 5, 2) := by decide +kernel
theorem dL_law_2355 : decode cL_law 2355 = .ok (.aload_n 2, 1) := by decide +kernel
theorem dL_law_2356 : decode cL_law 2356 = .ok (.aload_n 0, 1) := by decide +kernel
theorem dL_law_2357 : decode cL_law 2357 = .ok (.iload 4, 2) := by decide +kernel
theorem dL_law_2359 : decode cL_law 2359 = .ok (.iconst 1, 1) := by decide +kernel
theorem dL_law_2360 : decode cL_law 2360 = .ok (.iadd, 1) := by decide +kernel
theorem dL_law_2361 : decode cL_law 2361 = .ok (.iaload, 1) := by decide +kernel
theorem dL_law_2362 : decode cL_law 2362 = .ok (.aload_n 0, 1) := by decide +kernel
theorem dL_law_2363 : decode cL_law 2363 = .ok (.iload 4, 2) := by decide +kernel
theorem dL_law_2365 : decode cL_law 2365 = .ok (.iconst 2, 1) := by decide +kernel
theorem dL_law_2366 : decode cL_law 2366 = .ok (.iadd, 1) := by decide +kernel
theorem dL_law_2367 : decode cL_law 2367 = .ok (.iaload, 1) := by decide +kernel
theorem dL_law_2368 : decode cL_law 2368 = .ok (.invokevirtual 279, 3) := by decide +kernel
theorem dL_law_2371 : decode cL_law 2371 = .ok (.lstore 6, 2) := by decide +kernel
theorem dL_law_2373 : decode cL_law 2373 = .ok (.aload_n 2, 1) := by decide +kernel
theorem dL_law_2374 : decode cL_law 2374 = .ok (.invokevirtual 150, 3) := by decide +kernel
theorem dL_law_2377 : decode cL_law 2377 = .ok (.iload 5, 2) := by decide +kernel
theorem dL_law_2379 : decode cL_law 2379 = .ok (.if_icmp .eq 5, 3) := by decide +kernel
theorem dL_law_2382 : decode cL_law 2382 = .ok (.iconst 0, 1) := by decide +kernel
theorem dL_law_2383 : decode cL_law 2383 = .ok (.ireturn, 1) := by decide +kernel
theorem dL_law_2384 : decode cL_law 2384 = .ok (.iload 5, 2) := by decide +kernel
theorem dL_law_2386 : decode cL_law 2386 = .ok (.ifCond .ne 14, 3) := by decide +kernel
theorem dL_law_2389 : decode cL_law 2389 = .ok (.aload_n 3, 1) := by decide +kernel
theorem dL_law_2390 : decode cL_law 2390 = .ok (.iconst 0, 1) := by decide +kernel
theorem dL_law_2391 : decode cL_law 2391 = .ok (.laload, 1) := by decide +kernel
theorem dL_law_2392 : decode cL_law 2392 = .ok (.lload 6, 2) := by decide +kernel
theorem dL_law_2394 : decode cL_law 2394 = .ok (.lcmp, 1) := by decide +kernel
theorem dL_law_2395 : decode cL_law 2395 = .ok (.ifCond .eq 5, 3) := by decide +kernel
theorem dL_law_2398 : decode cL_law 2398 = .ok (.iconst 0, 1) := by decide +kernel
theorem dL_law_2399 : decode cL_law 2399 = .ok (.ireturn, 1) := by decide +kernel
theorem dL_law_2400 : decode cL_law 2400 = .ok (.goto 307, 3) := by decide +kernel
theorem dL_law_2403 : decode cL_law 2403 = .ok (.aload_n 1, 1) := by decide +kernel
theorem dL_law_2404 : decode cL_law 2404 = .ok (.aload_n 0, 1) := by decide +kernel
theorem dL_law_2405 : decode cL_law 2405 = .ok (.iload 4, 2) := by decide +kernel
theorem dL_law_2407 : decode cL_law 2407 = .ok (.iconst 1, 1) := by decide +kernel
theorem dL_law_2408 : decode cL_law 2408 = .ok (.iadd, 1) := by decide +kernel
theorem dL_law_2409 : decode cL_law 2409 = .ok (.iaload, 1) := by decide +kernel
theorem dL_law_2410 : decode cL_law 2410 = .ok (.aload_n 3, 1) := by decide +kernel
theorem dL_law_2411 : decode cL_law 2411 = .ok (.invokestatic 280, 3) := by decide +kernel
theorem dL_law_2414 : decode cL_law 2414 = .ok (.istore 5, 2) := by decide +kernel
theorem dL_law_2416 : decode cL_law 2416 = .ok (.aload_n 2, 1) := by decide +kernel
theorem dL_law_2417 : decode cL_law 2417 = .ok (.aload_n 0, 1) := by decide +kernel
theorem dL_law_2418 : decode cL_law 2418 = .ok (.iload 4, 2) := by decide +kernel
theorem dL_law_2420 : decode cL_law 2420 = .ok (.iconst 1, 1) := by decide +kernel
theorem dL_law_2421 : decode cL_law 2421 = .ok (.iadd, 1) := by decide +kernel
theorem dL_law_2422 : decode cL_law 2422 = .ok (.iaload, 1) := by decide +kernel
theorem dL_law_2423 : decode cL_law 2423 = .ok (.invokevirtual 282, 3) := by decide +kernel
theorem dL_law_2426 : decode cL_law 2426 = .ok (.lstore 6, 2) := by decide +kernel
theorem dL_law_2428 : decode cL_law 2428 = .ok (.aload_n 2, 1) := by decide +kernel
theorem dL_law_2429 : decode cL_law 2429 = .ok (.invokevirtual 150, 3) := by decide +kernel
theorem dL_law_2432 : decode cL_law 2432 = .ok (.iload 5, 2) := by decide +kernel
theorem dL_law_2434 : decode cL_law 2434 = .ok (.if_icmp .eq 5, 3) := by decide +kernel
theorem dL_law_2437 : decode cL_law 2437 = .ok (.iconst 0, 1) := by decide +kernel
theorem dL_law_2438 : decode cL_law 2438 = .ok (.ireturn, 1) := by decide +kernel
theorem dL_law_2439 : decode cL_law 2439 = .ok (.iload 5, 2) := by decide +kernel
theorem dL_law_2441 : decode cL_law 2441 = .ok (.ifCond .ne 14, 3) := by decide +kernel
theorem dL_law_2444 : decode cL_law 2444 = .ok (.aload_n 3, 1) := by decide +kernel
theorem dL_law_2445 : decode cL_law 2445 = .ok (.iconst 0, 1) := by decide +kernel
theorem dL_law_2446 : decode cL_law 2446 = .ok (.laload, 1) := by decide +kernel
theorem dL_law_2447 : decode cL_law 2447 = .ok (.lload 6, 2) := by decide +kernel
theorem dL_law_2449 : decode cL_law 2449 = .ok (.lcmp, 1) := by decide +kernel
theorem dL_law_2450 : decode cL_law 2450 = .ok (.ifCond .eq 5, 3) := by decide +kernel
theorem dL_law_2453 : decode cL_law 2453 = .ok (.iconst 0, 1) := by decide +kernel
theorem dL_law_2454 : decode cL_law 2454 = .ok (.ireturn, 1) := by decide +kernel
theorem dL_law_2455 : decode cL_law 2455 = .ok (.goto 252, 3) := by decide +kernel
theorem dL_law_2458 : decode cL_law 2458 = .ok (.aload_n 1, 1) := by decide +kernel
theorem dL_law_2459 : decode cL_law 2459 = .ok (.aload_n 0, 1) := by decide +kernel
theorem dL_law_2460 : decode cL_law 2460 = .ok (.iload 4, 2) := by decide +kernel
theorem dL_law_2462 : decode cL_law 2462 = .ok (.iconst 1, 1) := by decide +kernel
theorem dL_law_2463 : decode cL_law 2463 = .ok (.iadd, 1) := by decide +kernel
theorem dL_law_2464 : decode cL_law 2464 = .ok (.iaload, 1) := by decide +kernel
theorem dL_law_2465 : decode cL_law 2465 = .ok (.aload_n 3, 1) := by decide +kernel
theorem dL_law_2466 : decode cL_law 2466 = .ok (.invokestatic 283, 3) := by decide +kernel
theorem dL_law_2469 : decode cL_law 2469 = .ok (.istore 5, 2) := by decide +kernel
theorem dL_law_2471 : decode cL_law 2471 = .ok (.aload_n 2, 1) := by decide +kernel
theorem dL_law_2472 : decode cL_law 2472 = .ok (.aload_n 0, 1) := by decide +kernel
theorem dL_law_2473 : decode cL_law 2473 = .ok (.iload 4, 2) := by decide +kernel
theorem dL_law_2475 : decode cL_law 2475 = .ok (.iconst 1, 1) := by decide +kernel
theorem dL_law_2476 : decode cL_law 2476 = .ok (.iadd, 1) := by decide +kernel
theorem dL_law_2477 : decode cL_law 2477 = .ok (.iaload, 1) := by decide +kernel
theorem dL_law_2478 : decode cL_law 2478 = .ok (.invokevirtual 285, 3) := by decide +kernel
theorem dL_law_2481 : decode cL_law 2481 = .ok (.istore 6, 2) := by decide +kernel
theorem dL_law_2483 : decode cL_law 2483 = .ok (.aload_n 2, 1) := by decide +kernel
theorem dL_law_2484 : decode cL_law 2484 = .ok (.invokevirtual 150, 3) := by decide +kernel
theorem dL_law_2487 : decode cL_law 2487 = .ok (.iload 5, 2) := by decide +kernel
theorem dL_law_2489 : decode cL_law 2489 = .ok (.if_icmp .eq 5, 3) := by decide +kernel
theorem dL_law_2492 : decode cL_law 2492 = .ok (.iconst 0, 1) := by decide +kernel
theorem dL_law_2493 : decode cL_law 2493 = .ok (.ireturn, 1) := by decide +kernel
theorem dL_law_2494 : decode cL_law 2494 = .ok (.iload 5, 2) := by decide +kernel
theorem dL_law_2496 : decode cL_law 2496 = .ok (.ifCond .ne 15, 3) := by decide +kernel
theorem dL_law_2499 : decode cL_law 2499 = .ok (.aload_n 3, 1) := by decide +kernel
theorem dL_law_2500 : decode cL_law 2500 = .ok (.iconst 0, 1) := by decide +kernel
theorem dL_law_2501 : decode cL_law 2501 = .ok (.laload, 1) := by decide +kernel
theorem dL_law_2502 : decode cL_law 2502 = .ok (.iload 6, 2) := by decide +kernel
theorem dL_law_2504 : decode cL_law 2504 = .ok (.i2l, 1) := by decide +kernel
theorem dL_law_2505 : decode cL_law 2505 = .ok (.lcmp, 1) := by decide +kernel
theorem dL_law_2506 : decode cL_law 2506 = .ok (.ifCond .eq 5, 3) := by decide +kernel
theorem dL_law_2509 : decode cL_law 2509 = .ok (.iconst 0, 1) := by decide +kernel
theorem dL_law_2510 : decode cL_law 2510 = .ok (.ireturn, 1) := by decide +kernel
theorem dL_law_2511 : decode cL_law 2511 = .ok (.goto 196, 3) := by decide +kernel
theorem dL_law_2514 : decode cL_law 2514 = .ok (.aload_n 1, 1) := by decide +kernel
theorem dL_law_2515 : decode cL_law 2515 = .ok (.aload_n 0, 1) := by decide +kernel
theorem dL_law_2516 : decode cL_law 2516 = .ok (.iload 4, 2) := by decide +kernel
theorem dL_law_2518 : decode cL_law 2518 = .ok (.iconst 1, 1) := by decide +kernel
theorem dL_law_2519 : decode cL_law 2519 = .ok (.iadd, 1) := by decide +kernel
theorem dL_law_2520 : decode cL_law 2520 = .ok (.iaload, 1) := by decide +kernel
theorem dL_law_2521 : decode cL_law 2521 = .ok (.aload_n 3, 1) := by decide +kernel
theorem dL_law_2522 : decode cL_law 2522 = .ok (.invokestatic 286, 3) := by decide +kernel
theorem dL_law_2525 : decode cL_law 2525 = .ok (.istore 5, 2) := by decide +kernel
theorem dL_law_2527 : decode cL_law 2527 = .ok (.aload_n 2, 1) := by decide +kernel
theorem dL_law_2528 : decode cL_law 2528 = .ok (.aload_n 0, 1) := by decide +kernel
theorem dL_law_2529 : decode cL_law 2529 = .ok (.iload 4, 2) := by decide +kernel
theorem dL_law_2531 : decode cL_law 2531 = .ok (.iconst 1, 1) := by decide +kernel
theorem dL_law_2532 : decode cL_law 2532 = .ok (.iadd, 1) := by decide +kernel
theorem dL_law_2533 : decode cL_law 2533 = .ok (.iaload, 1) := by decide +kernel
theorem dL_law_2534 : decode cL_law 2534 = .ok (.invokevirtual 288, 3) := by decide +kernel
theorem dL_law_2537 : decode cL_law 2537 = .ok (.lstore 6, 2) := by decide +kernel
theorem dL_law_2539 : decode cL_law 2539 = .ok (.aload_n 2, 1) := by decide +kernel
theorem dL_law_2540 : decode cL_law 2540 = .ok (.invokevirtual 150, 3) := by decide +kernel
theorem dL_law_2543 : decode cL_law 2543 = .ok (.iload 5, 2) := by decide +kernel
theorem dL_law_2545 : decode cL_law 2545 = .ok (.if_icmp .eq 5, 3) := by decide +kernel
theorem dL_law_2548 : decode cL_law 2548 = .ok (.iconst 0, 1) := by decide +kernel
theorem dL_law_2549 : decode cL_law 2549 = .ok (.ireturn, 1) := by decide +kernel
theorem dL_law_2550 : decode cL_law 2550 = .ok (.iload 5, 2) := by decide +kernel
theorem dL_law_2552 : decode cL_law 2552 = .ok (.ifCond .ne 14, 3) := by decide +kernel
theorem dL_law_2555 : decode cL_law 2555 = .ok (.aload_n 3, 1) := by decide +kernel
theorem dL_law_2556 : decode cL_law 2556 = .ok (.iconst 0, 1) := by decide +kernel
theorem dL_law_2557 : decode cL_law 2557 = .ok (.laload, 1) := by decide +kernel
theorem dL_law_2558 : decode cL_law 2558 = .ok (.lload 6, 2) := by decide +kernel
theorem dL_law_2560 : decode cL_law 2560 = .ok (.lcmp, 1) := by decide +kernel
theorem dL_law_2561 : decode cL_law 2561 = .ok (.ifCond .eq 5, 3) := by decide +kernel
theorem dL_law_2564 : decode cL_law 2564 = .ok (.iconst 0, 1) := by decide +kernel
theorem dL_law_2565 : decode cL_law 2565 = .ok (.ireturn, 1) := by decide +kernel
theorem dL_law_2566 : decode cL_law 2566 = .ok (.goto 141, 3) := by decide +kernel
theorem dL_law_2569 : decode cL_law 2569 = .ok (.aload_n 1, 1) := by decide +kernel
theorem dL_law_2570 : decode cL_law 2570 = .ok (.aload_n 0, 1) := by decide +kernel
theorem dL_law_2571 : decode cL_law 2571 = .ok (.iload 4, 2) := by decide +kernel
theorem dL_law_2573 : decode cL_law 2573 = .ok (.iconst 1, 1) := by decide +kernel
theorem dL_law_2574 : decode cL_law 2574 = .ok (.iadd, 1) := by decide +kernel
theorem dL_law_2575 : decode cL_law 2575 = .ok (.iaload, 1) := by decide +kernel
theorem dL_law_2576 : decode cL_law 2576 = .ok (.aload_n 3, 1) := by decide +kernel
theorem dL_law_2577 : decode cL_law 2577 = .ok (.invokestatic 289, 3) := by decide +kernel
theorem dL_law_2580 : decode cL_law 2580 = .ok (.istore 5, 2) := by decide +kernel
theorem dL_law_2582 : decode cL_law 2582 = .ok (.aload_n 2, 1) := by decide +kernel
theorem dL_law_2583 : decode cL_law 2583 = .ok (.aload_n 0, 1) := by decide +kernel
theorem dL_law_2584 : decode cL_law 2584 = .ok (.iload 4, 2) := by decide +kernel
theorem dL_law_2586 : decode cL_law 2586 = .ok (.iconst 1, 1) := by decide +kernel
theorem dL_law_2587 : decode cL_law 2587 = .ok (.iadd, 1) := by decide +kernel
theorem dL_law_2588 : decode cL_law 2588 = .ok (.iaload, 1) := by decide +kernel
theorem dL_law_2589 : decode cL_law 2589 = .ok (.invokevirtual 291, 3) := by decide +kernel
theorem dL_law_2592 : decode cL_law 2592 = .ok (.istore 6, 2) := by decide +kernel
theorem dL_law_2594 : decode cL_law 2594 = .ok (.aload_n 2, 1) := by decide +kernel
theorem dL_law_2595 : decode cL_law 2595 = .ok (.invokevirtual 150, 3) := by decide +kernel
theorem dL_law_2598 : decode cL_law 2598 = .ok (.iload 5, 2) := by decide +kernel
theorem dL_law_2600 : decode cL_law 2600 = .ok (.if_icmp .eq 5, 3) := by decide +kernel
theorem dL_law_2603 : decode cL_law 2603 = .ok (.iconst 0, 1) := by decide +kernel
theorem dL_law_2604 : decode cL_law 2604 = .ok (.ireturn, 1) := by decide +kernel
theorem dL_law_2605 : decode cL_law 2605 = .ok (.iload 5, 2) := by decide +kernel
theorem dL_law_2607 : decode cL_law 2607 = .ok (.ifCond .ne 15, 3) := by decide +kernel
theorem dL_law_2610 : decode cL_law 2610 = .ok (.aload_n 3, 1) := by decide +kernel
theorem dL_law_2611 : decode cL_law 2611 = .ok (.iconst 0, 1) := by decide +kernel
theorem dL_law_2612 : decode cL_law 2612 = .ok (.laload, 1) := by decide +kernel
theorem dL_law_2613 : decode cL_law 2613 = .ok (.iload 6, 2) := by decide +kernel
theorem dL_law_2615 : decode cL_law 2615 = .ok (.i2l, 1) := by decide +kernel
theorem dL_law_2616 : decode cL_law 2616 = .ok (.lcmp, 1) := by decide +kernel
theorem dL_law_2617 : decode cL_law 2617 = .ok (.ifCond .eq 5, 3) := by decide +kernel
theorem dL_law_2620 : decode cL_law 2620 = .ok (.iconst 0, 1) := by decide +kernel
theorem dL_law_2621 : decode cL_law 2621 = .ok (.ireturn, 1) := by decide +kernel
theorem dL_law_2622 : decode cL_law 2622 = .ok (.goto 85, 3) := by decide +kernel
theorem dL_law_2625 : decode cL_law 2625 = .ok (.aload_n 1, 1) := by decide +kernel
theorem dL_law_2626 : decode cL_law 2626 = .ok (.aload_n 0, 1) := by decide +kernel
theorem dL_law_2627 : decode cL_law 2627 = .ok (.iload 4, 2) := by decide +kernel
theorem dL_law_2629 : decode cL_law 2629 = .ok (.iconst 1, 1) := by decide +kernel
theorem dL_law_2630 : decode cL_law 2630 = .ok (.iadd, 1) := by decide +kernel
theorem dL_law_2631 : decode cL_law 2631 = .ok (.iaload, 1) := by decide +kernel
theorem dL_law_2632 : decode cL_law 2632 = .ok (.aload_n 3, 1) := by decide +kernel
theorem dL_law_2633 : decode cL_law 2633 = .ok (.invokestatic 292, 3) := by decide +kernel
theorem dL_law_2636 : decode cL_law 2636 = .ok (.istore 5, 2) := by decide +kernel
theorem dL_law_2638 : decode cL_law 2638 = .ok (.aload_n 2, 1) := by decide +kernel
theorem dL_law_2639 : decode cL_law 2639 = .ok (.aload_n 0, 1) := by decide +kernel
theorem dL_law_2640 : decode cL_law 2640 = .ok (.iload 4, 2) := by decide +kernel
theorem dL_law_2642 : decode cL_law 2642 = .ok (.iconst 1, 1) := by decide +kernel
theorem dL_law_2643 : decode cL_law 2643 = .ok (.iadd, 1) := by decide +kernel
theorem dL_law_2644 : decode cL_law 2644 = .ok (.iaload, 1) := by decide +kernel
theorem dL_law_2645 : decode cL_law 2645 = .ok (.invokevirtual 294, 3) := by decide +kernel
theorem dL_law_2648 : decode cL_law 2648 = .ok (.lstore 6, 2) := by decide +kernel
theorem dL_law_2650 : decode cL_law 2650 = .ok (.aload_n 2, 1) := by decide +kernel
theorem dL_law_2651 : decode cL_law 2651 = .ok (.invokevirtual 150, 3) := by decide +kernel
theorem dL_law_2654 : decode cL_law 2654 = .ok (.iload 5, 2) := by decide +kernel
theorem dL_law_2656 : decode cL_law 2656 = .ok (.if_icmp .eq 5, 3) := by decide +kernel
theorem dL_law_2659 : decode cL_law 2659 = .ok (.iconst 0, 1) := by decide +kernel
theorem dL_law_2660 : decode cL_law 2660 = .ok (.ireturn, 1) := by decide +kernel
theorem dL_law_2661 : decode cL_law 2661 = .ok (.iload 5, 2) := by decide +kernel
theorem dL_law_2663 : decode cL_law 2663 = .ok (.ifCond .ne 14, 3) := by decide +kernel
theorem dL_law_2666 : decode cL_law 2666 = .ok (.aload_n 3, 1) := by decide +kernel
theorem dL_law_2667 : decode cL_law 2667 = .ok (.iconst 0, 1) := by decide +kernel
theorem dL_law_2668 : decode cL_law 2668 = .ok (.laload, 1) := by decide +kernel
theorem dL_law_2669 : decode cL_law 2669 = .ok (.lload 6, 2) := by decide +kernel
theorem dL_law_2671 : decode cL_law 2671 = .ok (.lcmp, 1) := by decide +kernel
theorem dL_law_2672 : decode cL_law 2672 = .ok (.ifCond .eq 5, 3) := by decide +kernel
theorem dL_law_2675 : decode cL_law 2675 = .ok (.iconst 0, 1) := by decide +kernel
theorem dL_law_2676 : decode cL_law 2676 = .ok (.ireturn, 1) := by decide +kernel
theorem dL_law_2677 : decode cL_law 2677 = .ok (.goto 30, 3) := by decide +kernel
theorem dL_law_2680 : decode cL_law 2680 = .ok (.aload_n 1, 1) := by decide +kernel
theorem dL_law_2681 : decode cL_law 2681 = .ok (.invokevirtual 295, 3) := by decide +kernel
theorem dL_law_2684 : decode cL_law 2684 = .ok (.aload_n 2, 1) := by decide +kernel
theorem dL_law_2685 : decode cL_law 2685 = .ok (.invokevirtual 298, 3) := by decide +kernel
theorem dL_law_2688 : decode cL_law 2688 = .ok (.if_icmp .eq 19, 3) := by decide +kernel
theorem dL_law_2691 : decode cL_law 2691 = .ok (.iconst 0, 1) := by decide +kernel
theorem dL_law_2692 : decode cL_law 2692 = .ok (.ireturn, 1) := by decide +kernel
theorem dL_law_2693 : decode cL_law 2693 = .ok (.aload_n 1, 1) := by decide +kernel
theorem dL_law_2694 : decode cL_law 2694 = .ok (.invokevirtual 299, 3) := by decide +kernel
theorem dL_law_2697 : decode cL_law 2697 = .ok (.aload_n 2, 1) := by decide +kernel
theorem dL_law_2698 : decode cL_law 2698 = .ok (.invokevirtual 303, 3) := by decide +kernel
theorem dL_law_2701 : decode cL_law 2701 = .ok (.lcmp, 1) := by decide +kernel
theorem dL_law_2702 : decode cL_law 2702 = .ok (.ifCond .eq 5, 3) := by decide +kernel
theorem dL_law_2705 : decode cL_law 2705 = .ok (.iconst 0, 1) := by decide +kernel
theorem dL_law_2706 : decode cL_law 2706 = .ok (.ireturn, 1) := by decide +kernel
theorem dL_law_2707 : decode cL_law 2707 = .ok (.iinc 4 6, 3) := by decide +kernel
theorem dL_law_2710 : decode cL_law 2710 = .ok (.goto (-2687), 3) := by decide +kernel
theorem dL_law_2713 : decode cL_law 2713 = .ok (.iconst 1, 1) := by decide +kernel
theorem dL_law_2714 : decode cL_law 2714 = .ok (.ireturn, 1) := by decide +kernel
