theorem dX0_init_0 : decode cX0_init 0 = .ok (.aload_n 0, 1) := by decide +kernel
theorem dX0_init_1 : decode cX0_init 1 = .ok (.invokespecial 3, 3) := by decide +kernel
theorem dX0_init_4 : decode cX0_init 4 = .ok (.aload_n 0, 1) := by decide +kernel
theorem dX0_init_5 : decode cX0_init 5 = .ok (.iconst 0, 1) := by decide +kernel
theorem dX0_init_6 : decode cX0_init 6 = .ok (.putfield 9, 3) := by decide +kernel
theorem dX0_init_9 : decode cX0_init 9 = .ok (.aload_n 0, 1) := by decide +kernel
theorem dX0_init_10 : decode cX0_init 10 = .ok (.bipush 40, 2) := by decide +kernel
theorem dX0_init_12 : decode cX0_init 12 = .ok (.newarray .int, 2) := by decide +kernel
theorem dX0_init_14 : decode cX0_init 14 = .ok (.putfield 15, 3) := by decide +kernel
theorem dX0_init_17 : decode cX0_init 17 = .ok (.aload_n 0, 1) := by decide +kernel
theorem dX0_init_18 : decode cX0_init 18 = .ok (.bipush 40, 2) := by decide +kernel
theorem dX0_init_20 : decode cX0_init 20 = .ok (.newarray .long, 2) := by decide +kernel
theorem dX0_init_22 : decode cX0_init 22 = .ok (.putfield 19, 3) := by decide +kernel
theorem dX0_init_25 : decode cX0_init 25 = .ok (.aload_n 0, 1) := by decide +kernel
theorem dX0_init_26 : decode cX0_init 26 = .ok (.bipush 40, 2) := by decide +kernel
theorem dX0_init_28 : decode cX0_init 28 = .ok (.newarray .long, 2) := by decide +kernel
theorem dX0_init_30 : decode cX0_init 30 = .ok (.putfield 23, 3) := by decide +kernel
theorem dX0_init_33 : decode cX0_init 33 = .ok (.aload_n 0, 1) := by decide +kernel
theorem dX0_init_34 : decode cX0_init 34 = .ok (.bipush 40, 2) := by decide +kernel
theorem dX0_init_36 : decode cX0_init 36 = .ok (.newarray .int, 2) := by decide +kernel
theorem dX0_init_38 : decode cX0_init 38 = .ok (.putfield 26, 3) := by decide +kernel
theorem dX0_init_41 : decode cX0_init 41 = .ok (.aload_n 0, 1) := by decide +kernel
theorem dX0_init_42 : decode cX0_init 42 = .ok (.bipush 40, 2) := by decide +kernel
theorem dX0_init_44 : decode cX0_init 44 = .ok (.newarray .int, 2) := by decide +kernel
theorem dX0_init_46 : decode cX0_init 46 = .ok (.putfield 29, 3) := by decide +kernel
theorem dX0_init_49 : decode cX0_init 49 = .ok (.return_, 1) := by decide +kernel
theorem dX0_add_0 : decode cX0_add 0 = .ok (.aload_n 0, 1) := by decide +kernel
theorem dX0_add_1 : decode cX0_add 1 = .ok (.getfield 9, 3) := by decide +kernel
theorem dX0_add_4 : decode cX0_add 4 = .ok (.bipush 40, 2) := by decide +kernel
theorem dX0_add_6 : decode cX0_add 6 = .ok (.if_icmp .lt 5, 3) := by decide +kernel
theorem dX0_add_9 : decode cX0_add 9 = .ok (.iconst (-1), 1) := by decide +kernel
theorem dX0_add_10 : decode cX0_add 10 = .ok (.ireturn, 1) := by decide +kernel
theorem dX0_add_11 : decode cX0_add 11 = .ok (.aload_n 0, 1) := by decide +kernel
theorem dX0_add_12 : decode cX0_add 12 = .ok (.getfield 15, 3) := by decide +kernel
theorem dX0_add_15 : decode cX0_add 15 = .ok (.aload_n 0, 1) := by decide +kernel
theorem dX0_add_16 : decode cX0_add 16 = .ok (.getfield 9, 3) := by decide +kernel
theorem dX0_add_19 : decode cX0_add 19 = .ok (.iload_n 1, 1) := by decide +kernel
theorem dX0_add_20 : decode cX0_add 20 = .ok (.iastore, 1) := by decide +kernel
theorem dX0_add_21 : decode cX0_add 21 = .ok (.aload_n 0, 1) := by decide +kernel
theorem dX0_add_22 : decode cX0_add 22 = .ok (.getfield 19, 3) := by decide +kernel
theorem dX0_add_25 : decode cX0_add 25 = .ok (.aload_n 0, 1) := by decide +kernel
theorem dX0_add_26 : decode cX0_add 26 = .ok (.getfield 9, 3) := by decide +kernel
theorem dX0_add_29 : decode cX0_add 29 = .ok (.lload_n 2, 1) := by decide +kernel
theorem dX0_add_30 : decode cX0_add 30 = .ok (.lastore, 1) := by decide +kernel
theorem dX0_add_31 : decode cX0_add 31 = .ok (.aload_n 0, 1) := by decide +kernel
theorem dX0_add_32 : decode cX0_add 32 = .ok (.getfield 23, 3) := by decide +kernel
theorem dX0_add_35 : decode cX0_add 35 = .ok (.aload_n 0, 1) := by decide +kernel
theorem dX0_add_36 : decode cX0_add 36 = .ok (.getfield 9, 3) := by decide +kernel
theorem dX0_add_39 : decode cX0_add 39 = .ok (.lload_n 2, 1) := by decide +kernel
theorem dX0_add_40 : decode cX0_add 40 = .ok (.lastore, 1) := by decide +kernel
theorem dX0_add_41 : decode cX0_add 41 = .ok (.aload_n 0, 1) := by decide +kernel
theorem dX0_add_42 : decode cX0_add 42 = .ok (.getfield 26, 3) := by decide +kernel
theorem dX0_add_45 : decode cX0_add 45 = .ok (.aload_n 0, 1) := by decide +kernel
theorem dX0_add_46 : decode cX0_add 46 = .ok (.getfield 9, 3) := by decide +kernel
theorem dX0_add_49 : decode cX0_add 49 = .ok (.iload 4, 2) := by decide +kernel
theorem dX0_add_51 : decode cX0_add 51 = .ok (.iastore, 1) := by decide +kernel
theorem dX0_add_52 : decode cX0_add 52 = .ok (.aload_n 0, 1) := by decide +kernel
theorem dX0_add_53 : decode cX0_add 53 = .ok (.getfield 29, 3) := by decide +kernel
theorem dX0_add_56 : decode cX0_add 56 = .ok (.aload_n 0, 1) := by decide +kernel
theorem dX0_add_57 : decode cX0_add 57 = .ok (.getfield 9, 3) := by decide +kernel
theorem dX0_add_60 : decode cX0_add 60 = .ok (.iload 5, 2) := by decide +kernel
theorem dX0_add_62 : decode cX0_add 62 = .ok (.iastore, 1) := by decide +kernel
theorem dX0_add_63 : decode cX0_add 63 = .ok (.aload_n 0, 1) := by decide +kernel
theorem dX0_add_64 : decode cX0_add 64 = .ok (.dup, 1) := by decide +kernel
theorem dX0_add_65 : decode cX0_add 65 = .ok (.getfield 9, 3) := by decide +kernel
theorem dX0_add_68 : decode cX0_add 68 = .ok (.iconst 1, 1) := by decide +kernel
theorem dX0_add_69 : decode cX0_add 69 = .ok (.iadd, 1) := by decide +kernel
theorem dX0_add_70 : decode cX0_add 70 = .ok (.putfield 9, 3) := by decide +kernel
theorem dX0_add_73 : decode cX0_add 73 = .ok (.aload_n 0, 1) := by decide +kernel
theorem dX0_add_74 : decode cX0_add 74 = .ok (.getfield 9, 3) := by decide +kernel
theorem dX0_add_77 : decode cX0_add 77 = .ok (.iconst 1, 1) := by decide +kernel
theorem dX0_add_78 : decode cX0_add 78 = .ok (.isub, 1) := by decide +kernel
theorem dX0_add_79 : decode cX0_add 79 = .ok (.ireturn, 1) := by decide +kernel
theorem dX0_copyFrom_0 : decode cX0_copyFrom 0 = .ok (.aload_n 0, 1) := by decide +kernel
theorem dX0_copyFrom_1 : decode cX0_copyFrom 1 = .ok (.aload_n 1, 1) := by decide +kernel
theorem dX0_copyFrom_2 : decode cX0_copyFrom 2 = .ok (.getfield 9, 3) := by decide +kernel
theorem dX0_copyFrom_5 : decode cX0_copyFrom 5 = .ok (.putfield 9, 3) := by decide +kernel
theorem dX0_copyFrom_8 : decode cX0_copyFrom 8 = .ok (.aload_n 1, 1) := by decide +kernel
theorem dX0_copyFrom_9 : decode cX0_copyFrom 9 = .ok (.getfield 15, 3) := by decide +kernel
theorem dX0_copyFrom_12 : decode cX0_copyFrom 12 = .ok (.iconst 0, 1) := by decide +kernel
theorem dX0_copyFrom_13 : decode cX0_copyFrom 13 = .ok (.aload_n 0, 1) := by decide +kernel
theorem dX0_copyFrom_14 : decode cX0_copyFrom 14 = .ok (.getfield 15, 3) := by decide +kernel
theorem dX0_copyFrom_17 : decode cX0_copyFrom 17 = .ok (.iconst 0, 1) := by decide +kernel
theorem dX0_copyFrom_18 : decode cX0_copyFrom 18 = .ok (.aload_n 0, 1) := by decide +kernel
theorem dX0_copyFrom_19 : decode cX0_copyFrom 19 = .ok (.getfield 9, 3) := by decide +kernel
theorem dX0_copyFrom_22 : decode cX0_copyFrom 22 = .ok (.invokestatic 32, 3) := by decide +kernel
theorem dX0_copyFrom_25 : decode cX0_copyFrom 25 = .ok (.aload_n 1, 1) := by decide +kernel
theorem dX0_copyFrom_26 : decode cX0_copyFrom 26 = .ok (.getfield 19, 3) := by decide +kernel
theorem dX0_copyFrom_29 : decode cX0_copyFrom 29 = .ok (.iconst 0, 1) := by decide +kernel
theorem dX0_copyFrom_30 : decode cX0_copyFrom 30 = .ok (.aload_n 0, 1) := by decide +kernel
theorem dX0_copyFrom_31 : decode cX0_copyFrom 31 = .ok (.getfield 19, 3) := by decide +kernel
theorem dX0_copyFrom_34 : decode cX0_copyFrom 34 = .ok (.iconst 0, 1) := by decide +kernel
theorem dX0_copyFrom_35 : decode cX0_copyFrom 35 = .ok (.aload_n 0, 1) := by decide +kernel
theorem dX0_copyFrom_36 : decode cX0_copyFrom 36 = .ok (.getfield 9, 3) := by decide +kernel
theorem dX0_copyFrom_39 : decode cX0_copyFrom 39 = .ok (.invokestatic 32, 3) := by decide +kernel
theorem dX0_copyFrom_42 : decode cX0_copyFrom 42 = .ok (.aload_n 1, 1) := by decide +kernel
theorem dX0_copyFrom_43 : decode cX0_copyFrom 43 = .ok (.getfield 23, 3) := by decide +kernel
theorem dX0_copyFrom_46 : decode cX0_copyFrom 46 = .ok (.iconst 0, 1) := by decide +kernel
theorem dX0_copyFrom_47 : decode cX0_copyFrom 47 = .ok (.aload_n 0, 1) := by decide +kernel
theorem dX0_copyFrom_48 : decode cX0_copyFrom 48 = .ok (.getfield 23, 3) := by decide +kernel
theorem dX0_copyFrom_51 : decode cX0_copyFrom 51 = .ok (.iconst 0, 1) := by decide +kernel
theorem dX0_copyFrom_52 : decode cX0_copyFrom 52 = .ok (.aload_n 0, 1) := by decide +kernel
theorem dX0_copyFrom_53 : decode cX0_copyFrom 53 = .ok (.getfield 9, 3) := by decide +kernel
theorem dX0_copyFrom_56 : decode cX0_copyFrom 56 = .ok (.invokestatic 32, 3) := by decide +kernel
theorem dX0_copyFrom_59 : decode cX0_copyFrom 59 = .ok (.aload_n 1, 1) := by decide +kernel
theorem dX0_copyFrom_60 : decode cX0_copyFrom 60 = .ok (.getfield 26, 3) := by decide +kernel
theorem dX0_copyFrom_63 : decode cX0_copyFrom 63 = .ok (.iconst 0, 1) := by decide +kernel
theorem dX0_copyFrom_64 : decode cX0_copyFrom 64 = .ok (.aload_n 0, 1) := by decide +kernel
theorem dX0_copyFrom_65 : decode cX0_copyFrom 65 = .ok (.getfield 26, 3) := by decide +kernel
theorem dX0_copyFrom_68 : decode cX0_copyFrom 68 = .ok (.iconst 0, 1) := by decide +kernel
theorem dX0_copyFrom_69 : decode cX0_copyFrom 69 = .ok (.aload_n 0, 1) := by decide +kernel
theorem dX0_copyFrom_70 : decode cX0_copyFrom 70 = .ok (.getfield 9, 3) := by decide +kernel
theorem dX0_copyFrom_73 : decode cX0_copyFrom 73 = .ok (.invokestatic 32, 3) := by decide +kernel
theorem dX0_copyFrom_76 : decode cX0_copyFrom 76 = .ok (.aload_n 1, 1) := by decide +kernel
theorem dX0_copyFrom_77 : decode cX0_copyFrom 77 = .ok (.getfield 29, 3) := by decide +kernel
theorem dX0_copyFrom_80 : decode cX0_copyFrom 80 = .ok (.iconst 0, 1) := by decide +kernel
theorem dX0_copyFrom_81 : decode cX0_copyFrom 81 = .ok (.aload_n 0, 1) := by decide +kernel
theorem dX0_copyFrom_82 : decode cX0_copyFrom 82 = .ok (.getfield 29, 3) := by decide +kernel
theorem dX0_copyFrom_85 : decode cX0_copyFrom 85 = .ok (.iconst 0, 1) := by decide +kernel
theorem dX0_copyFrom_86 : decode cX0_copyFrom 86 = .ok (.aload_n 0, 1) := by decide +kernel
theorem dX0_copyFrom_87 : decode cX0_copyFrom 87 = .ok (.getfield 9, 3) := by decide +kernel
theorem dX0_copyFrom_90 : decode cX0_copyFrom 90 = .ok (.invokestatic 32, 3) := by decide +kernel
theorem dX0_copyFrom_93 : decode cX0_copyFrom 93 = .ok (.return_, 1) := by decide +kernel
theorem dX0_certifiedOf_0 : decode cX0_certifiedOf 0 = .ok (.lconst 0, 1) := by decide +kernel
theorem dX0_certifiedOf_1 : decode cX0_certifiedOf 1 = .ok (.lstore_n 2, 1) := by decide +kernel
theorem dX0_certifiedOf_2 : decode cX0_certifiedOf 2 = .ok (.iconst 0, 1) := by decide +kernel
theorem dX0_certifiedOf_3 : decode cX0_certifiedOf 3 = .ok (.istore 4, 2) := by decide +kernel
theorem dX0_certifiedOf_5 : decode cX0_certifiedOf 5 = .ok (.iload 4, 2) := by decide +kernel
theorem dX0_certifiedOf_7 : decode cX0_certifiedOf 7 = .ok (.aload_n 0, 1) := by decide +kernel
theorem dX0_certifiedOf_8 : decode cX0_certifiedOf 8 = .ok (.getfield 9, 3) := by decide +kernel
theorem dX0_certifiedOf_11 : decode cX0_certifiedOf 11 = .ok (.if_icmp .ge 30, 3) := by decide +kernel
theorem dX0_certifiedOf_14 : decode cX0_certifiedOf 14 = .ok (.aload_n 0, 1) := by decide +kernel
theorem dX0_certifiedOf_15 : decode cX0_certifiedOf 15 = .ok (.getfield 15, 3) := by decide +kernel
theorem dX0_certifiedOf_18 : decode cX0_certifiedOf 18 = .ok (.iload 4, 2) := by decide +kernel
theorem dX0_certifiedOf_20 : decode cX0_certifiedOf 20 = .ok (.iaload, 1) := by decide +kernel
theorem dX0_certifiedOf_21 : decode cX0_certifiedOf 21 = .ok (.iload_n 1, 1) := by decide +kernel
theorem dX0_certifiedOf_22 : decode cX0_certifiedOf 22 = .ok (.if_icmp .ne 13, 3) := by decide +kernel
theorem dX0_certifiedOf_25 : decode cX0_certifiedOf 25 = .ok (.lload_n 2, 1) := by decide +kernel
theorem dX0_certifiedOf_26 : decode cX0_certifiedOf 26 = .ok (.aload_n 0, 1) := by decide +kernel
theorem dX0_certifiedOf_27 : decode cX0_certifiedOf 27 = .ok (.getfield 19, 3) := by decide +kernel
theorem dX0_certifiedOf_30 : decode cX0_certifiedOf 30 = .ok (.iload 4, 2) := by decide +kernel
theorem dX0_certifiedOf_32 : decode cX0_certifiedOf 32 = .ok (.laload, 1) := by decide +kernel
theorem dX0_certifiedOf_33 : decode cX0_certifiedOf 33 = .ok (.ladd, 1) := by decide +kernel
theorem dX0_certifiedOf_34 : decode cX0_certifiedOf 34 = .ok (.lstore_n 2, 1) := by decide +kernel
theorem dX0_certifiedOf_35 : decode cX0_certifiedOf 35 = .ok (.iinc 4 1, 3) := by decide +kernel
theorem dX0_certifiedOf_38 : decode cX0_certifiedOf 38 = .ok (.goto (-33), 3) := by decide +kernel
theorem dX0_certifiedOf_41 : decode cX0_certifiedOf 41 = .ok (.lload_n 2, 1) := by decide +kernel
theorem dX0_certifiedOf_42 : decode cX0_certifiedOf 42 = .ok (.lreturn, 1) := by decide +kernel
theorem dX0_unpaidOf_0 : decode cX0_unpaidOf 0 = .ok (.lconst 0, 1) := by decide +kernel
theorem dX0_unpaidOf_1 : decode cX0_unpaidOf 1 = .ok (.lstore_n 2, 1) := by decide +kernel
theorem dX0_unpaidOf_2 : decode cX0_unpaidOf 2 = .ok (.iconst 0, 1) := by decide +kernel
theorem dX0_unpaidOf_3 : decode cX0_unpaidOf 3 = .ok (.istore 4, 2) := by decide +kernel
theorem dX0_unpaidOf_5 : decode cX0_unpaidOf 5 = .ok (.iload 4, 2) := by decide +kernel
theorem dX0_unpaidOf_7 : decode cX0_unpaidOf 7 = .ok (.aload_n 0, 1) := by decide +kernel
theorem dX0_unpaidOf_8 : decode cX0_unpaidOf 8 = .ok (.getfield 9, 3) := by decide +kernel
theorem dX0_unpaidOf_11 : decode cX0_unpaidOf 11 = .ok (.if_icmp .ge 30, 3) := by decide +kernel
theorem dX0_unpaidOf_14 : decode cX0_unpaidOf 14 = .ok (.aload_n 0, 1) := by decide +kernel
theorem dX0_unpaidOf_15 : decode cX0_unpaidOf 15 = .ok (.getfield 15, 3) := by decide +kernel
theorem dX0_unpaidOf_18 : decode cX0_unpaidOf 18 = .ok (.iload 4, 2) := by decide +kernel
theorem dX0_unpaidOf_20 : decode cX0_unpaidOf 20 = .ok (.iaload, 1) := by decide +kernel
theorem dX0_unpaidOf_21 : decode cX0_unpaidOf 21 = .ok (.iload_n 1, 1) := by decide +kernel
theorem dX0_unpaidOf_22 : decode cX0_unpaidOf 22 = .ok (.if_icmp .ne 13, 3) := by decide +kernel
theorem dX0_unpaidOf_25 : decode cX0_unpaidOf 25 = .ok (.lload_n 2, 1) := by decide +kernel
theorem dX0_unpaidOf_26 : decode cX0_unpaidOf 26 = .ok (.aload_n 0, 1) := by decide +kernel
theorem dX0_unpaidOf_27 : decode cX0_unpaidOf 27 = .ok (.getfield 23, 3) := by decide +kernel
theorem dX0_unpaidOf_30 : decode cX0_unpaidOf 30 = .ok (.iload 4, 2) := by decide +kernel
theorem dX0_unpaidOf_32 : decode cX0_unpaidOf 32 = .ok (.laload, 1) := by decide +kernel
theorem dX0_unpaidOf_33 : decode cX0_unpaidOf 33 = .ok (.ladd, 1) := by decide +kernel
theorem dX0_unpaidOf_34 : decode cX0_unpaidOf 34 = .ok (.lstore_n 2, 1) := by decide +kernel
theorem dX0_unpaidOf_35 : decode cX0_unpaidOf 35 = .ok (.iinc 4 1, 3) := by decide +kernel
theorem dX0_unpaidOf_38 : decode cX0_unpaidOf 38 = .ok (.goto (-33), 3) := by decide +kernel
theorem dX0_unpaidOf_41 : decode cX0_unpaidOf 41 = .ok (.lload_n 2, 1) := by decide +kernel
theorem dX0_unpaidOf_42 : decode cX0_unpaidOf 42 = .ok (.lreturn, 1) := by decide +kernel
theorem dX0_overdueOf_0 : decode cX0_overdueOf 0 = .ok (.lconst 0, 1) := by decide +kernel
theorem dX0_overdueOf_1 : decode cX0_overdueOf 1 = .ok (.lstore_n 3, 1) := by decide +kernel
theorem dX0_overdueOf_2 : decode cX0_overdueOf 2 = .ok (.iconst 0, 1) := by decide +kernel
theorem dX0_overdueOf_3 : decode cX0_overdueOf 3 = .ok (.istore 5, 2) := by decide +kernel
theorem dX0_overdueOf_5 : decode cX0_overdueOf 5 = .ok (.iload 5, 2) := by decide +kernel
theorem dX0_overdueOf_7 : decode cX0_overdueOf 7 = .ok (.aload_n 0, 1) := by decide +kernel
theorem dX0_overdueOf_8 : decode cX0_overdueOf 8 = .ok (.getfield 9, 3) := by decide +kernel
theorem dX0_overdueOf_11 : decode cX0_overdueOf 11 = .ok (.if_icmp .ge 41, 3) := by decide +kernel
theorem dX0_overdueOf_14 : decode cX0_overdueOf 14 = .ok (.aload_n 0, 1) := by decide +kernel
theorem dX0_overdueOf_15 : decode cX0_overdueOf 15 = .ok (.getfield 15, 3) := by decide +kernel
theorem dX0_overdueOf_18 : decode cX0_overdueOf 18 = .ok (.iload 5, 2) := by decide +kernel
theorem dX0_overdueOf_20 : decode cX0_overdueOf 20 = .ok (.iaload, 1) := by decide +kernel
theorem dX0_overdueOf_21 : decode cX0_overdueOf 21 = .ok (.iload_n 1, 1) := by decide +kernel
theorem dX0_overdueOf_22 : decode cX0_overdueOf 22 = .ok (.if_icmp .ne 24, 3) := by decide +kernel
theorem dX0_overdueOf_25 : decode cX0_overdueOf 25 = .ok (.aload_n 0, 1) := by decide +kernel
theorem dX0_overdueOf_26 : decode cX0_overdueOf 26 = .ok (.getfield 29, 3) := by decide +kernel
theorem dX0_overdueOf_29 : decode cX0_overdueOf 29 = .ok (.iload 5, 2) := by decide +kernel
theorem dX0_overdueOf_31 : decode cX0_overdueOf 31 = .ok (.iaload, 1) := by decide +kernel
theorem dX0_overdueOf_32 : decode cX0_overdueOf 32 = .ok (.iload_n 2, 1) := by decide +kernel
theorem dX0_overdueOf_33 : decode cX0_overdueOf 33 = .ok (.if_icmp .ge 13, 3) := by decide +kernel
theorem dX0_overdueOf_36 : decode cX0_overdueOf 36 = .ok (.lload_n 3, 1) := by decide +kernel
theorem dX0_overdueOf_37 : decode cX0_overdueOf 37 = .ok (.aload_n 0, 1) := by decide +kernel
theorem dX0_overdueOf_38 : decode cX0_overdueOf 38 = .ok (.getfield 23, 3) := by decide +kernel
theorem dX0_overdueOf_41 : decode cX0_overdueOf 41 = .ok (.iload 5, 2) := by decide +kernel
theorem dX0_overdueOf_43 : decode cX0_overdueOf 43 = .ok (.laload, 1) := by decide +kernel
theorem dX0_overdueOf_44 : decode cX0_overdueOf 44 = .ok (.ladd, 1) := by decide +kernel
theorem dX0_overdueOf_45 : decode cX0_overdueOf 45 = .ok (.lstore_n 3, 1) := by decide +kernel
theorem dX0_overdueOf_46 : decode cX0_overdueOf 46 = .ok (.iinc 5 1, 3) := by decide +kernel
theorem dX0_overdueOf_49 : decode cX0_overdueOf 49 = .ok (.goto (-44), 3) := by decide +kernel
theorem dX0_overdueOf_52 : decode cX0_overdueOf 52 = .ok (.lload_n 3, 1) := by decide +kernel
theorem dX0_overdueOf_53 : decode cX0_overdueOf 53 = .ok (.lreturn, 1) := by decide +kernel
theorem dX0_openDueBetween_0 : decode cX0_openDueBetween 0 = .ok (.lconst 0, 1) := by decide +kernel
theorem dX0_openDueBetween_1 : decode cX0_openDueBetween 1 = .ok (.lstore_n 3, 1) := by decide +kernel
theorem dX0_openDueBetween_2 : decode cX0_openDueBetween 2 = .ok (.iconst 0, 1) := by decide +kernel
theorem dX0_openDueBetween_3 : decode cX0_openDueBetween 3 = .ok (.istore 5, 2) := by decide +kernel
theorem dX0_openDueBetween_5 : decode cX0_openDueBetween 5 = .ok (.iload 5, 2) := by decide +kernel
theorem dX0_openDueBetween_7 : decode cX0_openDueBetween 7 = .ok (.aload_n 0, 1) := by decide +kernel
theorem dX0_openDueBetween_8 : decode cX0_openDueBetween 8 = .ok (.getfield 9, 3) := by decide +kernel
theorem dX0_openDueBetween_11 : decode cX0_openDueBetween 11 = .ok (.if_icmp .ge 41, 3) := by decide +kernel
theorem dX0_openDueBetween_14 : decode cX0_openDueBetween 14 = .ok (.iload_n 1, 1) := by decide +kernel
theorem dX0_openDueBetween_15 : decode cX0_openDueBetween 15 = .ok (.aload_n 0, 1) := by decide +kernel
theorem dX0_openDueBetween_16 : decode cX0_openDueBetween 16 = .ok (.getfield 29, 3) := by decide +kernel
theorem dX0_openDueBetween_19 : decode cX0_openDueBetween 19 = .ok (.iload 5, 2) := by decide +kernel
theorem dX0_openDueBetween_21 : decode cX0_openDueBetween 21 = .ok (.iaload, 1) := by decide +kernel
theorem dX0_openDueBetween_22 : decode cX0_openDueBetween 22 = .ok (.if_icmp .gt 24, 3) := by decide +kernel
theorem dX0_openDueBetween_25 : decode cX0_openDueBetween 25 = .ok (.aload_n 0, 1) := by decide +kernel
theorem dX0_openDueBetween_26 : decode cX0_openDueBetween 26 = .ok (.getfield 29, 3) := by decide +kernel
theorem dX0_openDueBetween_29 : decode cX0_openDueBetween 29 = .ok (.iload 5, 2) := by decide +kernel
theorem dX0_openDueBetween_31 : decode cX0_openDueBetween 31 = .ok (.iaload, 1) := by decide +kernel
theorem dX0_openDueBetween_32 : decode cX0_openDueBetween 32 = .ok (.iload_n 2, 1) := by decide +kernel
theorem dX0_openDueBetween_33 : decode cX0_openDueBetween 33 = .ok (.if_icmp .gt 13, 3) := by decide +kernel
theorem dX0_openDueBetween_36 : decode cX0_openDueBetween 36 = .ok (.lload_n 3, 1) := by decide +kernel
theorem dX0_openDueBetween_37 : decode cX0_openDueBetween 37 = .ok (.aload_n 0, 1) := by decide +kernel
theorem dX0_openDueBetween_38 : decode cX0_openDueBetween 38 = .ok (.getfield 23, 3) := by decide +kernel
theorem dX0_openDueBetween_41 : decode cX0_openDueBetween 41 = .ok (.iload 5, 2) := by decide +kernel
theorem dX0_openDueBetween_43 : decode cX0_openDueBetween 43 = .ok (.laload, 1) := by decide +kernel
theorem dX0_openDueBetween_44 : decode cX0_openDueBetween 44 = .ok (.ladd, 1) := by decide +kernel
theorem dX0_openDueBetween_45 : decode cX0_openDueBetween 45 = .ok (.lstore_n 3, 1) := by decide +kernel
theorem dX0_openDueBetween_46 : decode cX0_openDueBetween 46 = .ok (.iinc 5 1, 3) := by decide +kernel
theorem dX0_openDueBetween_49 : decode cX0_openDueBetween 49 = .ok (.goto (-44), 3) := by decide +kernel
theorem dX0_openDueBetween_52 : decode cX0_openDueBetween 52 = .ok (.lload_n 3, 1) := by decide +kernel
theorem dX0_openDueBetween_53 : decode cX0_openDueBetween 53 = .ok (.lreturn, 1) := by decide +kernel
theorem dX0_hasOpenUpTo_0 : decode cX0_hasOpenUpTo 0 = .ok (.iconst 0, 1) := by decide +kernel
theorem dX0_hasOpenUpTo_1 : decode cX0_hasOpenUpTo 1 = .ok (.istore_n 3, 1) := by decide +kernel
theorem dX0_hasOpenUpTo_2 : decode cX0_hasOpenUpTo 2 = .ok (.iload_n 3, 1) := by decide +kernel
theorem dX0_hasOpenUpTo_3 : decode cX0_hasOpenUpTo 3 = .ok (.aload_n 0, 1) := by decide +kernel
theorem dX0_hasOpenUpTo_4 : decode cX0_hasOpenUpTo 4 = .ok (.getfield 9, 3) := by decide +kernel
theorem dX0_hasOpenUpTo_7 : decode cX0_hasOpenUpTo 7 = .ok (.if_icmp .ge 42, 3) := by decide +kernel
theorem dX0_hasOpenUpTo_10 : decode cX0_hasOpenUpTo 10 = .ok (.aload_n 0, 1) := by decide +kernel
theorem dX0_hasOpenUpTo_11 : decode cX0_hasOpenUpTo 11 = .ok (.getfield 15, 3) := by decide +kernel
theorem dX0_hasOpenUpTo_14 : decode cX0_hasOpenUpTo 14 = .ok (.iload_n 3, 1) := by decide +kernel
theorem dX0_hasOpenUpTo_15 : decode cX0_hasOpenUpTo 15 = .ok (.iaload, 1) := by decide +kernel
theorem dX0_hasOpenUpTo_16 : decode cX0_hasOpenUpTo 16 = .ok (.iload_n 1, 1) := by decide +kernel
theorem dX0_hasOpenUpTo_17 : decode cX0_hasOpenUpTo 17 = .ok (.if_icmp .ne 26, 3) := by decide +kernel
theorem dX0_hasOpenUpTo_20 : decode cX0_hasOpenUpTo 20 = .ok (.aload_n 0, 1) := by decide +kernel
theorem dX0_hasOpenUpTo_21 : decode cX0_hasOpenUpTo 21 = .ok (.getfield 23, 3) := by decide +kernel
theorem dX0_hasOpenUpTo_24 : decode cX0_hasOpenUpTo 24 = .ok (.iload_n 3, 1) := by decide +kernel
theorem dX0_hasOpenUpTo_25 : decode cX0_hasOpenUpTo 25 = .ok (.laload, 1) := by decide +kernel
theorem dX0_hasOpenUpTo_26 : decode cX0_hasOpenUpTo 26 = .ok (.lconst 0, 1) := by decide +kernel
theorem dX0_hasOpenUpTo_27 : decode cX0_hasOpenUpTo 27 = .ok (.lcmp, 1) := by decide +kernel
theorem dX0_hasOpenUpTo_28 : decode cX0_hasOpenUpTo 28 = .ok (.ifCond .le 15, 3) := by decide +kernel
theorem dX0_hasOpenUpTo_31 : decode cX0_hasOpenUpTo 31 = .ok (.aload_n 0, 1) := by decide +kernel
theorem dX0_hasOpenUpTo_32 : decode cX0_hasOpenUpTo 32 = .ok (.getfield 26, 3) := by decide +kernel
theorem dX0_hasOpenUpTo_35 : decode cX0_hasOpenUpTo 35 = .ok (.iload_n 3, 1) := by decide +kernel
theorem dX0_hasOpenUpTo_36 : decode cX0_hasOpenUpTo 36 = .ok (.iaload, 1) := by decide +kernel
theorem dX0_hasOpenUpTo_37 : decode cX0_hasOpenUpTo 37 = .ok (.iload_n 2, 1) := by decide +kernel
theorem dX0_hasOpenUpTo_38 : decode cX0_hasOpenUpTo 38 = .ok (.if_icmp .gt 5, 3) := by decide +kernel
theorem dX0_hasOpenUpTo_41 : decode cX0_hasOpenUpTo 41 = .ok (.iconst 1, 1) := by decide +kernel
theorem dX0_hasOpenUpTo_42 : decode cX0_hasOpenUpTo 42 = .ok (.ireturn, 1) := by decide +kernel
theorem dX0_hasOpenUpTo_43 : decode cX0_hasOpenUpTo 43 = .ok (.iinc 3 1, 3) := by decide +kernel
theorem dX0_hasOpenUpTo_46 : decode cX0_hasOpenUpTo 46 = .ok (.goto (-44), 3) := by decide +kernel
theorem dX0_hasOpenUpTo_49 : decode cX0_hasOpenUpTo 49 = .ok (.iconst 0, 1) := by decide +kernel
theorem dX0_hasOpenUpTo_50 : decode cX0_hasOpenUpTo 50 = .ok (.ireturn, 1) := by decide +kernel
theorem dX0_isPaid_0 : decode cX0_isPaid 0 = .ok (.iload_n 1, 1) := by decide +kernel
theorem dX0_isPaid_1 : decode cX0_isPaid 1 = .ok (.ifCond .lt 26, 3) := by decide +kernel
theorem dX0_isPaid_4 : decode cX0_isPaid 4 = .ok (.iload_n 1, 1) := by decide +kernel
theorem dX0_isPaid_5 : decode cX0_isPaid 5 = .ok (.aload_n 0, 1) := by decide +kernel
theorem dX0_isPaid_6 : decode cX0_isPaid 6 = .ok (.getfield 9, 3) := by decide +kernel
theorem dX0_isPaid_9 : decode cX0_isPaid 9 = .ok (.if_icmp .ge 18, 3) := by decide +kernel
theorem dX0_isPaid_12 : decode cX0_isPaid 12 = .ok (.aload_n 0, 1) := by decide +kernel
theorem dX0_isPaid_13 : decode cX0_isPaid 13 = .ok (.getfield 23, 3) := by decide +kernel
theorem dX0_isPaid_16 : decode cX0_isPaid 16 = .ok (.iload_n 1, 1) := by decide +kernel
theorem dX0_isPaid_17 : decode cX0_isPaid 17 = .ok (.laload, 1) := by decide +kernel
theorem dX0_isPaid_18 : decode cX0_isPaid 18 = .ok (.lconst 0, 1) := by decide +kernel
theorem dX0_isPaid_19 : decode cX0_isPaid 19 = .ok (.lcmp, 1) := by decide +kernel
theorem dX0_isPaid_20 : decode cX0_isPaid 20 = .ok (.ifCond .ne 7, 3) := by decide +kernel
theorem dX0_isPaid_23 : decode cX0_isPaid 23 = .ok (.iconst 1, 1) := by decide +kernel
theorem dX0_isPaid_24 : decode cX0_isPaid 24 = .ok (.goto 4, 3) := by decide +kernel
theorem dX0_isPaid_27 : decode cX0_isPaid 27 = .ok (.iconst 0, 1) := by decide +kernel
theorem dX0_isPaid_28 : decode cX0_isPaid 28 = .ok (.ireturn, 1) := by decide +kernel
theorem dX0_nextDueDay_0 : decode cX0_nextDueDay 0 = .ok (.iload_n 2, 1) := by decide +kernel
theorem dX0_nextDueDay_1 : decode cX0_nextDueDay 1 = .ok (.istore_n 3, 1) := by decide +kernel
theorem dX0_nextDueDay_2 : decode cX0_nextDueDay 2 = .ok (.iconst 0, 1) := by decide +kernel
theorem dX0_nextDueDay_3 : decode cX0_nextDueDay 3 = .ok (.istore 4, 2) := by decide +kernel
theorem dX0_nextDueDay_5 : decode cX0_nextDueDay 5 = .ok (.iload 4, 2) := by decide +kernel
theorem dX0_nextDueDay_7 : decode cX0_nextDueDay 7 = .ok (.aload_n 0, 1) := by decide +kernel
theorem dX0_nextDueDay_8 : decode cX0_nextDueDay 8 = .ok (.getfield 9, 3) := by decide +kernel
theorem dX0_nextDueDay_11 : decode cX0_nextDueDay 11 = .ok (.if_icmp .ge 39, 3) := by decide +kernel
theorem dX0_nextDueDay_14 : decode cX0_nextDueDay 14 = .ok (.aload_n 0, 1) := by decide +kernel
theorem dX0_nextDueDay_15 : decode cX0_nextDueDay 15 = .ok (.getfield 29, 3) := by decide +kernel
theorem dX0_nextDueDay_18 : decode cX0_nextDueDay 18 = .ok (.iload 4, 2) := by decide +kernel
theorem dX0_nextDueDay_20 : decode cX0_nextDueDay 20 = .ok (.iaload, 1) := by decide +kernel
theorem dX0_nextDueDay_21 : decode cX0_nextDueDay 21 = .ok (.iload_n 1, 1) := by decide +kernel
theorem dX0_nextDueDay_22 : decode cX0_nextDueDay 22 = .ok (.if_icmp .lt 22, 3) := by decide +kernel
theorem dX0_nextDueDay_25 : decode cX0_nextDueDay 25 = .ok (.aload_n 0, 1) := by decide +kernel
theorem dX0_nextDueDay_26 : decode cX0_nextDueDay 26 = .ok (.getfield 29, 3) := by decide +kernel
theorem dX0_nextDueDay_29 : decode cX0_nextDueDay 29 = .ok (.iload 4, 2) := by decide +kernel
theorem dX0_nextDueDay_31 : decode cX0_nextDueDay 31 = .ok (.iaload, 1) := by decide +kernel
theorem dX0_nextDueDay_32 : decode cX0_nextDueDay 32 = .ok (.iload_n 3, 1) := by decide +kernel
theorem dX0_nextDueDay_33 : decode cX0_nextDueDay 33 = .ok (.if_icmp .ge 11, 3) := by decide +kernel
theorem dX0_nextDueDay_36 : decode cX0_nextDueDay 36 = .ok (.aload_n 0, 1) := by decide +kernel
theorem dX0_nextDueDay_37 : decode cX0_nextDueDay 37 = .ok (.getfield 29, 3) := by decide +kernel
theorem dX0_nextDueDay_40 : decode cX0_nextDueDay 40 = .ok (.iload 4, 2) := by decide +kernel
theorem dX0_nextDueDay_42 : decode cX0_nextDueDay 42 = .ok (.iaload, 1) := by decide +kernel
theorem dX0_nextDueDay_43 : decode cX0_nextDueDay 43 = .ok (.istore_n 3, 1) := by decide +kernel
theorem dX0_nextDueDay_44 : decode cX0_nextDueDay 44 = .ok (.iinc 4 1, 3) := by decide +kernel
theorem dX0_nextDueDay_47 : decode cX0_nextDueDay 47 = .ok (.goto (-42), 3) := by decide +kernel
theorem dX0_nextDueDay_50 : decode cX0_nextDueDay 50 = .ok (.iload_n 3, 1) := by decide +kernel
theorem dX0_nextDueDay_51 : decode cX0_nextDueDay 51 = .ok (.ireturn, 1) := by decide +kernel
theorem dX0_sortByDueDay_0 : decode cX0_sortByDueDay 0 = .ok (.iconst 0, 1) := by decide +kernel
theorem dX0_sortByDueDay_1 : decode cX0_sortByDueDay 1 = .ok (.istore_n 2, 1) := by decide +kernel
theorem dX0_sortByDueDay_2 : decode cX0_sortByDueDay 2 = .ok (.iload_n 2, 1) := by decide +kernel
theorem dX0_sortByDueDay_3 : decode cX0_sortByDueDay 3 = .ok (.aload_n 0, 1) := by decide +kernel
theorem dX0_sortByDueDay_4 : decode cX0_sortByDueDay 4 = .ok (.getfield 9, 3) := by decide +kernel
theorem dX0_sortByDueDay_7 : decode cX0_sortByDueDay 7 = .ok (.if_icmp .ge 58, 3) := by decide +kernel
theorem dX0_sortByDueDay_10 : decode cX0_sortByDueDay 10 = .ok (.iload_n 2, 1) := by decide +kernel
theorem dX0_sortByDueDay_11 : decode cX0_sortByDueDay 11 = .ok (.aload_n 1, 1) := by decide +kernel
theorem dX0_sortByDueDay_12 : decode cX0_sortByDueDay 12 = .ok (.arraylength, 1) := by decide +kernel
theorem dX0_sortByDueDay_13 : decode cX0_sortByDueDay 13 = .ok (.if_icmp .ge 52, 3) := by decide +kernel
theorem dX0_sortByDueDay_16 : decode cX0_sortByDueDay 16 = .ok (.iload_n 2, 1) := by decide +kernel
theorem dX0_sortByDueDay_17 : decode cX0_sortByDueDay 17 = .ok (.istore_n 3, 1) := by decide +kernel
theorem dX0_sortByDueDay_18 : decode cX0_sortByDueDay 18 = .ok (.iload_n 3, 1) := by decide +kernel
theorem dX0_sortByDueDay_19 : decode cX0_sortByDueDay 19 = .ok (.ifCond .le 36, 3) := by decide +kernel
theorem dX0_sortByDueDay_22 : decode cX0_sortByDueDay 22 = .ok (.aload_n 0, 1) := by decide +kernel
theorem dX0_sortByDueDay_23 : decode cX0_sortByDueDay 23 = .ok (.getfield 29, 3) := by decide +kernel
theorem dX0_sortByDueDay_26 : decode cX0_sortByDueDay 26 = .ok (.aload_n 1, 1) := by decide +kernel
theorem dX0_sortByDueDay_27 : decode cX0_sortByDueDay 27 = .ok (.iload_n 3, 1) := by decide +kernel
theorem dX0_sortByDueDay_28 : decode cX0_sortByDueDay 28 = .ok (.iconst 1, 1) := by decide +kernel
theorem dX0_sortByDueDay_29 : decode cX0_sortByDueDay 29 = .ok (.isub, 1) := by decide +kernel
theorem dX0_sortByDueDay_30 : decode cX0_sortByDueDay 30 = .ok (.iaload, 1) := by decide +kernel
theorem dX0_sortByDueDay_31 : decode cX0_sortByDueDay 31 = .ok (.iaload, 1) := by decide +kernel
theorem dX0_sortByDueDay_32 : decode cX0_sortByDueDay 32 = .ok (.aload_n 0, 1) := by decide +kernel
theorem dX0_sortByDueDay_33 : decode cX0_sortByDueDay 33 = .ok (.getfield 29, 3) := by decide +kernel
theorem dX0_sortByDueDay_36 : decode cX0_sortByDueDay 36 = .ok (.iload_n 2, 1) := by decide +kernel
theorem dX0_sortByDueDay_37 : decode cX0_sortByDueDay 37 = .ok (.iaload, 1) := by decide +kernel
theorem dX0_sortByDueDay_38 : decode cX0_sortByDueDay 38 = .ok (.if_icmp .le 17, 3) := by decide +kernel
theorem dX0_sortByDueDay_41 : decode cX0_sortByDueDay 41 = .ok (.aload_n 1, 1) := by decide +kernel
theorem dX0_sortByDueDay_42 : decode cX0_sortByDueDay 42 = .ok (.iload_n 3, 1) := by decide +kernel
theorem dX0_sortByDueDay_43 : decode cX0_sortByDueDay 43 = .ok (.aload_n 1, 1) := by decide +kernel
theorem dX0_sortByDueDay_44 : decode cX0_sortByDueDay 44 = .ok (.iload_n 3, 1) := by decide +kernel
theorem dX0_sortByDueDay_45 : decode cX0_sortByDueDay 45 = .ok (.iconst 1, 1) := by decide +kernel
theorem dX0_sortByDueDay_46 : decode cX0_sortByDueDay 46 = .ok (.isub, 1) := by decide +kernel
theorem dX0_sortByDueDay_47 : decode cX0_sortByDueDay 47 = .ok (.iaload, 1) := by decide +kernel
theorem dX0_sortByDueDay_48 : decode cX0_sortByDueDay 48 = .ok (.iastore, 1) := by decide +kernel
theorem dX0_sortByDueDay_49 : decode cX0_sortByDueDay 49 = .ok (.iinc 3 (-1), 3) := by decide +kernel
theorem dX0_sortByDueDay_52 : decode cX0_sortByDueDay 52 = .ok (.goto (-34), 3) := by decide +kernel
theorem dX0_sortByDueDay_55 : decode cX0_sortByDueDay 55 = .ok (.aload_n 1, 1) := by decide +kernel
theorem dX0_sortByDueDay_56 : decode cX0_sortByDueDay 56 = .ok (.iload_n 3, 1) := by decide +kernel
theorem dX0_sortByDueDay_57 : decode cX0_sortByDueDay 57 = .ok (.iload_n 2, 1) := by decide +kernel
theorem dX0_sortByDueDay_58 : decode cX0_sortByDueDay 58 = .ok (.iastore, 1) := by decide +kernel
theorem dX0_sortByDueDay_59 : decode cX0_sortByDueDay 59 = .ok (.iinc 2 1, 3) := by decide +kernel
theorem dX0_sortByDueDay_62 : decode cX0_sortByDueDay 62 = .ok (.goto (-60), 3) := by decide +kernel
theorem dX0_sortByDueDay_65 : decode cX0_sortByDueDay 65 = .ok (.return_, 1) := by decide +kernel
theorem dX1_init_0 : decode cX1_init 0 = .ok (.aload_n 0, 1) := by decide +kernel
theorem dX1_init_1 : decode cX1_init 1 = .ok (.invokespecial 3, 3) := by decide +kernel
theorem dX1_init_4 : decode cX1_init 4 = .ok (.aload_n 0, 1) := by decide +kernel
theorem dX1_init_5 : decode cX1_init 5 = .ok (.iconst 0, 1) := by decide +kernel
theorem dX1_init_6 : decode cX1_init 6 = .ok (.putfield 9, 3) := by decide +kernel
theorem dX1_init_9 : decode cX1_init 9 = .ok (.aload_n 0, 1) := by decide +kernel
theorem dX1_init_10 : decode cX1_init 10 = .ok (.bipush 8, 2) := by decide +kernel
theorem dX1_init_12 : decode cX1_init 12 = .ok (.newarray .int, 2) := by decide +kernel
theorem dX1_init_14 : decode cX1_init 14 = .ok (.putfield 15, 3) := by decide +kernel
theorem dX1_init_17 : decode cX1_init 17 = .ok (.aload_n 0, 1) := by decide +kernel
theorem dX1_init_18 : decode cX1_init 18 = .ok (.bipush 8, 2) := by decide +kernel
theorem dX1_init_20 : decode cX1_init 20 = .ok (.newarray .int, 2) := by decide +kernel
theorem dX1_init_22 : decode cX1_init 22 = .ok (.putfield 19, 3) := by decide +kernel
theorem dX1_init_25 : decode cX1_init 25 = .ok (.aload_n 0, 1) := by decide +kernel
theorem dX1_init_26 : decode cX1_init 26 = .ok (.bipush 8, 2) := by decide +kernel
theorem dX1_init_28 : decode cX1_init 28 = .ok (.newarray .int, 2) := by decide +kernel
theorem dX1_init_30 : decode cX1_init 30 = .ok (.putfield 22, 3) := by decide +kernel
theorem dX1_init_33 : decode cX1_init 33 = .ok (.aload_n 0, 1) := by decide +kernel
theorem dX1_init_34 : decode cX1_init 34 = .ok (.bipush 8, 2) := by decide +kernel
theorem dX1_init_36 : decode cX1_init 36 = .ok (.newarray .int, 2) := by decide +kernel
theorem dX1_init_38 : decode cX1_init 38 = .ok (.putfield 25, 3) := by decide +kernel
theorem dX1_init_41 : decode cX1_init 41 = .ok (.aload_n 0, 1) := by decide +kernel
theorem dX1_init_42 : decode cX1_init 42 = .ok (.bipush 8, 2) := by decide +kernel
theorem dX1_init_44 : decode cX1_init 44 = .ok (.newarray .int, 2) := by decide +kernel
theorem dX1_init_46 : decode cX1_init 46 = .ok (.putfield 28, 3) := by decide +kernel
theorem dX1_init_49 : decode cX1_init 49 = .ok (.aload_n 0, 1) := by decide +kernel
theorem dX1_init_50 : decode cX1_init 50 = .ok (.bipush 8, 2) := by decide +kernel
theorem dX1_init_52 : decode cX1_init 52 = .ok (.newarray .boolean, 2) := by decide +kernel
theorem dX1_init_54 : decode cX1_init 54 = .ok (.putfield 31, 3) := by decide +kernel
theorem dX1_init_57 : decode cX1_init 57 = .ok (.aload_n 0, 1) := by decide +kernel
theorem dX1_init_58 : decode cX1_init 58 = .ok (.bipush 8, 2) := by decide +kernel
theorem dX1_init_60 : decode cX1_init 60 = .ok (.newarray .int, 2) := by decide +kernel
theorem dX1_init_62 : decode cX1_init 62 = .ok (.putfield 35, 3) := by decide +kernel
theorem dX1_init_65 : decode cX1_init 65 = .ok (.return_, 1) := by decide +kernel
theorem dX1_add_0 : decode cX1_add 0 = .ok (.aload_n 0, 1) := by decide +kernel
theorem dX1_add_1 : decode cX1_add 1 = .ok (.getfield 9, 3) := by decide +kernel
theorem dX1_add_4 : decode cX1_add 4 = .ok (.bipush 8, 2) := by decide +kernel
theorem dX1_add_6 : decode cX1_add 6 = .ok (.if_icmp .lt 4, 3) := by decide +kernel
theorem dX1_add_9 : decode cX1_add 9 = .ok (.return_, 1) := by decide +kernel
theorem dX1_add_10 : decode cX1_add 10 = .ok (.aload_n 0, 1) := by decide +kernel
theorem dX1_add_11 : decode cX1_add 11 = .ok (.getfield 15, 3) := by decide +kernel
theorem dX1_add_14 : decode cX1_add 14 = .ok (.aload_n 0, 1) := by decide +kernel
theorem dX1_add_15 : decode cX1_add 15 = .ok (.getfield 9, 3) := by decide +kernel
theorem dX1_add_18 : decode cX1_add 18 = .ok (.iload_n 1, 1) := by decide +kernel
theorem dX1_add_19 : decode cX1_add 19 = .ok (.iastore, 1) := by decide +kernel
theorem dX1_add_20 : decode cX1_add 20 = .ok (.aload_n 0, 1) := by decide +kernel
theorem dX1_add_21 : decode cX1_add 21 = .ok (.getfield 19, 3) := by decide +kernel
theorem dX1_add_24 : decode cX1_add 24 = .ok (.aload_n 0, 1) := by decide +kernel
theorem dX1_add_25 : decode cX1_add 25 = .ok (.getfield 9, 3) := by decide +kernel
theorem dX1_add_28 : decode cX1_add 28 = .ok (.iload_n 2, 1) := by decide +kernel
theorem dX1_add_29 : decode cX1_add 29 = .ok (.iastore, 1) := by decide +kernel
theorem dX1_add_30 : decode cX1_add 30 = .ok (.aload_n 0, 1) := by decide +kernel
theorem dX1_add_31 : decode cX1_add 31 = .ok (.getfield 22, 3) := by decide +kernel
theorem dX1_add_34 : decode cX1_add 34 = .ok (.aload_n 0, 1) := by decide +kernel
theorem dX1_add_35 : decode cX1_add 35 = .ok (.getfield 9, 3) := by decide +kernel
theorem dX1_add_38 : decode cX1_add 38 = .ok (.iload_n 3, 1) := by decide +kernel
theorem dX1_add_39 : decode cX1_add 39 = .ok (.iastore, 1) := by decide +kernel
theorem dX1_add_40 : decode cX1_add 40 = .ok (.aload_n 0, 1) := by decide +kernel
theorem dX1_add_41 : decode cX1_add 41 = .ok (.getfield 25, 3) := by decide +kernel
theorem dX1_add_44 : decode cX1_add 44 = .ok (.aload_n 0, 1) := by decide +kernel
theorem dX1_add_45 : decode cX1_add 45 = .ok (.getfield 9, 3) := by decide +kernel
theorem dX1_add_48 : decode cX1_add 48 = .ok (.iload 4, 2) := by decide +kernel
theorem dX1_add_50 : decode cX1_add 50 = .ok (.iastore, 1) := by decide +kernel
theorem dX1_add_51 : decode cX1_add 51 = .ok (.aload_n 0, 1) := by decide +kernel
theorem dX1_add_52 : decode cX1_add 52 = .ok (.getfield 28, 3) := by decide +kernel
theorem dX1_add_55 : decode cX1_add 55 = .ok (.aload_n 0, 1) := by decide +kernel
theorem dX1_add_56 : decode cX1_add 56 = .ok (.getfield 9, 3) := by decide +kernel
theorem dX1_add_59 : decode cX1_add 59 = .ok (.iload 5, 2) := by decide +kernel
theorem dX1_add_61 : decode cX1_add 61 = .ok (.iastore, 1) := by decide +kernel
theorem dX1_add_62 : decode cX1_add 62 = .ok (.aload_n 0, 1) := by decide +kernel
theorem dX1_add_63 : decode cX1_add 63 = .ok (.getfield 31, 3) := by decide +kernel
theorem dX1_add_66 : decode cX1_add 66 = .ok (.aload_n 0, 1) := by decide +kernel
theorem dX1_add_67 : decode cX1_add 67 = .ok (.getfield 9, 3) := by decide +kernel
theorem dX1_add_70 : decode cX1_add 70 = .ok (.iload 6, 2) := by decide +kernel
theorem dX1_add_72 : decode cX1_add 72 = .ok (.bastore, 1) := by decide +kernel
theorem dX1_add_73 : decode cX1_add 73 = .ok (.aload_n 0, 1) := by decide +kernel
theorem dX1_add_74 : decode cX1_add 74 = .ok (.getfield 35, 3) := by decide +kernel
theorem dX1_add_77 : decode cX1_add 77 = .ok (.aload_n 0, 1) := by decide +kernel
theorem dX1_add_78 : decode cX1_add 78 = .ok (.getfield 9, 3) := by decide +kernel
theorem dX1_add_81 : decode cX1_add 81 = .ok (.iconst 0, 1) := by decide +kernel
theorem dX1_add_82 : decode cX1_add 82 = .ok (.iastore, 1) := by decide +kernel
theorem dX1_add_83 : decode cX1_add 83 = .ok (.aload_n 0, 1) := by decide +kernel
theorem dX1_add_84 : decode cX1_add 84 = .ok (.dup, 1) := by decide +kernel
theorem dX1_add_85 : decode cX1_add 85 = .ok (.getfield 9, 3) := by decide +kernel
theorem dX1_add_88 : decode cX1_add 88 = .ok (.iconst 1, 1) := by decide +kernel
theorem dX1_add_89 : decode cX1_add 89 = .ok (.iadd, 1) := by decide +kernel
theorem dX1_add_90 : decode cX1_add 90 = .ok (.putfield 9, 3) := by decide +kernel
theorem dX1_add_93 : decode cX1_add 93 = .ok (.return_, 1) := by decide +kernel
theorem dX1_copyFrom_0 : decode cX1_copyFrom 0 = .ok (.aload_n 0, 1) := by decide +kernel
theorem dX1_copyFrom_1 : decode cX1_copyFrom 1 = .ok (.aload_n 1, 1) := by decide +kernel
theorem dX1_copyFrom_2 : decode cX1_copyFrom 2 = .ok (.getfield 9, 3) := by decide +kernel
theorem dX1_copyFrom_5 : decode cX1_copyFrom 5 = .ok (.putfield 9, 3) := by decide +kernel
theorem dX1_copyFrom_8 : decode cX1_copyFrom 8 = .ok (.aload_n 1, 1) := by decide +kernel
theorem dX1_copyFrom_9 : decode cX1_copyFrom 9 = .ok (.getfield 15, 3) := by decide +kernel
theorem dX1_copyFrom_12 : decode cX1_copyFrom 12 = .ok (.iconst 0, 1) := by decide +kernel
theorem dX1_copyFrom_13 : decode cX1_copyFrom 13 = .ok (.aload_n 0, 1) := by decide +kernel
theorem dX1_copyFrom_14 : decode cX1_copyFrom 14 = .ok (.getfield 15, 3) := by decide +kernel
theorem dX1_copyFrom_17 : decode cX1_copyFrom 17 = .ok (.iconst 0, 1) := by decide +kernel
theorem dX1_copyFrom_18 : decode cX1_copyFrom 18 = .ok (.aload_n 0, 1) := by decide +kernel
theorem dX1_copyFrom_19 : decode cX1_copyFrom 19 = .ok (.getfield 9, 3) := by decide +kernel
theorem dX1_copyFrom_22 : decode cX1_copyFrom 22 = .ok (.invokestatic 38, 3) := by decide +kernel
theorem dX1_copyFrom_25 : decode cX1_copyFrom 25 = .ok (.aload_n 1, 1) := by decide +kernel
theorem dX1_copyFrom_26 : decode cX1_copyFrom 26 = .ok (.getfield 19, 3) := by decide +kernel
theorem dX1_copyFrom_29 : decode cX1_copyFrom 29 = .ok (.iconst 0, 1) := by decide +kernel
theorem dX1_copyFrom_30 : decode cX1_copyFrom 30 = .ok (.aload_n 0, 1) := by decide +kernel
theorem dX1_copyFrom_31 : decode cX1_copyFrom 31 = .ok (.getfield 19, 3) := by decide +kernel
theorem dX1_copyFrom_34 : decode cX1_copyFrom 34 = .ok (.iconst 0, 1) := by decide +kernel
theorem dX1_copyFrom_35 : decode cX1_copyFrom 35 = .ok (.aload_n 0, 1) := by decide +kernel
theorem dX1_copyFrom_36 : decode cX1_copyFrom 36 = .ok (.getfield 9, 3) := by decide +kernel
theorem dX1_copyFrom_39 : decode cX1_copyFrom 39 = .ok (.invokestatic 38, 3) := by decide +kernel
theorem dX1_copyFrom_42 : decode cX1_copyFrom 42 = .ok (.aload_n 1, 1) := by decide +kernel
theorem dX1_copyFrom_43 : decode cX1_copyFrom 43 = .ok (.getfield 22, 3) := by decide +kernel
theorem dX1_copyFrom_46 : decode cX1_copyFrom 46 = .ok (.iconst 0, 1) := by decide +kernel
theorem dX1_copyFrom_47 : decode cX1_copyFrom 47 = .ok (.aload_n 0, 1) := by decide +kernel
theorem dX1_copyFrom_48 : decode cX1_copyFrom 48 = .ok (.getfield 22, 3) := by decide +kernel
theorem dX1_copyFrom_51 : decode cX1_copyFrom 51 = .ok (.iconst 0, 1) := by decide +kernel
theorem dX1_copyFrom_52 : decode cX1_copyFrom 52 = .ok (.aload_n 0, 1) := by decide +kernel
theorem dX1_copyFrom_53 : decode cX1_copyFrom 53 = .ok (.getfield 9, 3) := by decide +kernel
theorem dX1_copyFrom_56 : decode cX1_copyFrom 56 = .ok (.invokestatic 38, 3) := by decide +kernel
theorem dX1_copyFrom_59 : decode cX1_copyFrom 59 = .ok (.aload_n 1, 1) := by decide +kernel
theorem dX1_copyFrom_60 : decode cX1_copyFrom 60 = .ok (.getfield 25, 3) := by decide +kernel
theorem dX1_copyFrom_63 : decode cX1_copyFrom 63 = .ok (.iconst 0, 1) := by decide +kernel
theorem dX1_copyFrom_64 : decode cX1_copyFrom 64 = .ok (.aload_n 0, 1) := by decide +kernel
theorem dX1_copyFrom_65 : decode cX1_copyFrom 65 = .ok (.getfield 25, 3) := by decide +kernel
theorem dX1_copyFrom_68 : decode cX1_copyFrom 68 = .ok (.iconst 0, 1) := by decide +kernel
theorem dX1_copyFrom_69 : decode cX1_copyFrom 69 = .ok (.aload_n 0, 1) := by decide +kernel
theorem dX1_copyFrom_70 : decode cX1_copyFrom 70 = .ok (.getfield 9, 3) := by decide +kernel
theorem dX1_copyFrom_73 : decode cX1_copyFrom 73 = .ok (.invokestatic 38, 3) := by decide +kernel
theorem dX1_copyFrom_76 : decode cX1_copyFrom 76 = .ok (.aload_n 1, 1) := by decide +kernel
theorem dX1_copyFrom_77 : decode cX1_copyFrom 77 = .ok (.getfield 28, 3) := by decide +kernel
theorem dX1_copyFrom_80 : decode cX1_copyFrom 80 = .ok (.iconst 0, 1) := by decide +kernel
theorem dX1_copyFrom_81 : decode cX1_copyFrom 81 = .ok (.aload_n 0, 1) := by decide +kernel
theorem dX1_copyFrom_82 : decode cX1_copyFrom 82 = .ok (.getfield 28, 3) := by decide +kernel
theorem dX1_copyFrom_85 : decode cX1_copyFrom 85 = .ok (.iconst 0, 1) := by decide +kernel
theorem dX1_copyFrom_86 : decode cX1_copyFrom 86 = .ok (.aload_n 0, 1) := by decide +kernel
theorem dX1_copyFrom_87 : decode cX1_copyFrom 87 = .ok (.getfield 9, 3) := by decide +kernel
theorem dX1_copyFrom_90 : decode cX1_copyFrom 90 = .ok (.invokestatic 38, 3) := by decide +kernel
theorem dX1_copyFrom_93 : decode cX1_copyFrom 93 = .ok (.iconst 0, 1) := by decide +kernel
theorem dX1_copyFrom_94 : decode cX1_copyFrom 94 = .ok (.istore_n 2, 1) := by decide +kernel
theorem dX1_copyFrom_95 : decode cX1_copyFrom 95 = .ok (.iload_n 2, 1) := by decide +kernel
theorem dX1_copyFrom_96 : decode cX1_copyFrom 96 = .ok (.aload_n 0, 1) := by decide +kernel
theorem dX1_copyFrom_97 : decode cX1_copyFrom 97 = .ok (.getfield 9, 3) := by decide +kernel
theorem dX1_copyFrom_100 : decode cX1_copyFrom 100 = .ok (.if_icmp .ge 21, 3) := by decide +kernel
theorem dX1_copyFrom_103 : decode cX1_copyFrom 103 = .ok (.aload_n 0, 1) := by decide +kernel
theorem dX1_copyFrom_104 : decode cX1_copyFrom 104 = .ok (.getfield 31, 3) := by decide +kernel
theorem dX1_copyFrom_107 : decode cX1_copyFrom 107 = .ok (.iload_n 2, 1) := by decide +kernel
theorem dX1_copyFrom_108 : decode cX1_copyFrom 108 = .ok (.aload_n 1, 1) := by decide +kernel
theorem dX1_copyFrom_109 : decode cX1_copyFrom 109 = .ok (.getfield 31, 3) := by decide +kernel
theorem dX1_copyFrom_112 : decode cX1_copyFrom 112 = .ok (.iload_n 2, 1) := by decide +kernel
theorem dX1_copyFrom_113 : decode cX1_copyFrom 113 = .ok (.baload, 1) := by decide +kernel
theorem dX1_copyFrom_114 : decode cX1_copyFrom 114 = .ok (.bastore, 1) := by decide +kernel
theorem dX1_copyFrom_115 : decode cX1_copyFrom 115 = .ok (.iinc 2 1, 3) := by decide +kernel
theorem dX1_copyFrom_118 : decode cX1_copyFrom 118 = .ok (.goto (-23), 3) := by decide +kernel
theorem dX1_copyFrom_121 : decode cX1_copyFrom 121 = .ok (.aload_n 1, 1) := by decide +kernel
theorem dX1_copyFrom_122 : decode cX1_copyFrom 122 = .ok (.getfield 35, 3) := by decide +kernel
theorem dX1_copyFrom_125 : decode cX1_copyFrom 125 = .ok (.iconst 0, 1) := by decide +kernel
theorem dX1_copyFrom_126 : decode cX1_copyFrom 126 = .ok (.aload_n 0, 1) := by decide +kernel
theorem dX1_copyFrom_127 : decode cX1_copyFrom 127 = .ok (.getfield 35, 3) := by decide +kernel
theorem dX1_copyFrom_130 : decode cX1_copyFrom 130 = .ok (.iconst 0, 1) := by decide +kernel
theorem dX1_copyFrom_131 : decode cX1_copyFrom 131 = .ok (.aload_n 0, 1) := by decide +kernel
theorem dX1_copyFrom_132 : decode cX1_copyFrom 132 = .ok (.getfield 9, 3) := by decide +kernel
theorem dX1_copyFrom_135 : decode cX1_copyFrom 135 = .ok (.invokestatic 38, 3) := by decide +kernel
theorem dX1_copyFrom_138 : decode cX1_copyFrom 138 = .ok (.return_, 1) := by decide +kernel
theorem dX2_init_0 : decode cX2_init 0 = .ok (.aload_n 0, 1) := by decide +kernel
theorem dX2_init_1 : decode cX2_init 1 = .ok (.invokespecial 3, 3) := by decide +kernel
theorem dX2_init_4 : decode cX2_init 4 = .ok (.aload_n 0, 1) := by decide +kernel
theorem dX2_init_5 : decode cX2_init 5 = .ok (.bipush 8, 2) := by decide +kernel
theorem dX2_init_7 : decode cX2_init 7 = .ok (.newarray .int, 2) := by decide +kernel
theorem dX2_init_9 : decode cX2_init 9 = .ok (.putfield 9, 3) := by decide +kernel
theorem dX2_init_12 : decode cX2_init 12 = .ok (.aload_n 0, 1) := by decide +kernel
theorem dX2_init_13 : decode cX2_init 13 = .ok (.bipush 48, 2) := by decide +kernel
theorem dX2_init_15 : decode cX2_init 15 = .ok (.newarray .int, 2) := by decide +kernel
theorem dX2_init_17 : decode cX2_init 17 = .ok (.putfield 15, 3) := by decide +kernel
theorem dX2_init_20 : decode cX2_init 20 = .ok (.aload_n 0, 1) := by decide +kernel
theorem dX2_init_21 : decode cX2_init 21 = .ok (.bipush 48, 2) := by decide +kernel
theorem dX2_init_23 : decode cX2_init 23 = .ok (.newarray .int, 2) := by decide +kernel
theorem dX2_init_25 : decode cX2_init 25 = .ok (.putfield 18, 3) := by decide +kernel
theorem dX2_init_28 : decode cX2_init 28 = .ok (.aload_n 0, 1) := by decide +kernel
theorem dX2_init_29 : decode cX2_init 29 = .ok (.bipush 48, 2) := by decide +kernel
theorem dX2_init_31 : decode cX2_init 31 = .ok (.newarray .int, 2) := by decide +kernel
theorem dX2_init_33 : decode cX2_init 33 = .ok (.putfield 21, 3) := by decide +kernel
theorem dX2_init_36 : decode cX2_init 36 = .ok (.aload_n 0, 1) := by decide +kernel
theorem dX2_init_37 : decode cX2_init 37 = .ok (.bipush 48, 2) := by decide +kernel
theorem dX2_init_39 : decode cX2_init 39 = .ok (.newarray .int, 2) := by decide +kernel
theorem dX2_init_41 : decode cX2_init 41 = .ok (.putfield 24, 3) := by decide +kernel
theorem dX2_init_44 : decode cX2_init 44 = .ok (.return_, 1) := by decide +kernel
theorem dX2_slotOf_0 : decode cX2_slotOf 0 = .ok (.iload_n 0, 1) := by decide +kernel
theorem dX2_slotOf_1 : decode cX2_slotOf 1 = .ok (.bipush 6, 2) := by decide +kernel
theorem dX2_slotOf_3 : decode cX2_slotOf 3 = .ok (.imul, 1) := by decide +kernel
theorem dX2_slotOf_4 : decode cX2_slotOf 4 = .ok (.iload_n 1, 1) := by decide +kernel
theorem dX2_slotOf_5 : decode cX2_slotOf 5 = .ok (.iadd, 1) := by decide +kernel
theorem dX2_slotOf_6 : decode cX2_slotOf 6 = .ok (.ireturn, 1) := by decide +kernel
theorem dX2_clear_0 : decode cX2_clear 0 = .ok (.iconst 0, 1) := by decide +kernel
theorem dX2_clear_1 : decode cX2_clear 1 = .ok (.istore_n 1, 1) := by decide +kernel
theorem dX2_clear_2 : decode cX2_clear 2 = .ok (.iload_n 1, 1) := by decide +kernel
theorem dX2_clear_3 : decode cX2_clear 3 = .ok (.bipush 8, 2) := by decide +kernel
theorem dX2_clear_5 : decode cX2_clear 5 = .ok (.if_icmp .ge 16, 3) := by decide +kernel
theorem dX2_clear_8 : decode cX2_clear 8 = .ok (.aload_n 0, 1) := by decide +kernel
theorem dX2_clear_9 : decode cX2_clear 9 = .ok (.getfield 9, 3) := by decide +kernel
theorem dX2_clear_12 : decode cX2_clear 12 = .ok (.iload_n 1, 1) := by decide +kernel
theorem dX2_clear_13 : decode cX2_clear 13 = .ok (.iconst 0, 1) := by decide +kernel
theorem dX2_clear_14 : decode cX2_clear 14 = .ok (.iastore, 1) := by decide +kernel
theorem dX2_clear_15 : decode cX2_clear 15 = .ok (.iinc 1 1, 3) := by decide +kernel
theorem dX2_clear_18 : decode cX2_clear 18 = .ok (.goto (-16), 3) := by decide +kernel
theorem dX2_clear_21 : decode cX2_clear 21 = .ok (.return_, 1) := by decide +kernel
theorem dX2_add_0 : decode cX2_add 0 = .ok (.aload_n 0, 1) := by decide +kernel
theorem dX2_add_1 : decode cX2_add 1 = .ok (.getfield 9, 3) := by decide +kernel
theorem dX2_add_4 : decode cX2_add 4 = .ok (.iload_n 1, 1) := by decide +kernel
theorem dX2_add_5 : decode cX2_add 5 = .ok (.iaload, 1) := by decide +kernel
theorem dX2_add_6 : decode cX2_add 6 = .ok (.bipush 6, 2) := by decide +kernel
theorem dX2_add_8 : decode cX2_add 8 = .ok (.if_icmp .lt 4, 3) := by decide +kernel
theorem dX2_add_11 : decode cX2_add 11 = .ok (.return_, 1) := by decide +kernel
theorem dX2_add_12 : decode cX2_add 12 = .ok (.iload_n 1, 1) := by decide +kernel
theorem dX2_add_13 : decode cX2_add 13 = .ok (.aload_n 0, 1) := by decide +kernel
theorem dX2_add_14 : decode cX2_add 14 = .ok (.getfield 9, 3) := by decide +kernel
theorem dX2_add_17 : decode cX2_add 17 = .ok (.iload_n 1, 1) := by decide +kernel
theorem dX2_add_18 : decode cX2_add 18 = .ok (.iaload, 1) := by decide +kernel
theorem dX2_add_19 : decode cX2_add 19 = .ok (.invokestatic 27, 3) := by decide +kernel
theorem dX2_add_22 : decode cX2_add 22 = .ok (.istore 4, 2) := by decide +kernel
theorem dX2_add_24 : decode cX2_add 24 = .ok (.aload_n 0, 1) := by decide +kernel
theorem dX2_add_25 : decode cX2_add 25 = .ok (.getfield 15, 3) := by decide +kernel
theorem dX2_add_28 : decode cX2_add 28 = .ok (.iload 4, 2) := by decide +kernel
theorem dX2_add_30 : decode cX2_add 30 = .ok (.iload_n 2, 1) := by decide +kernel
theorem dX2_add_31 : decode cX2_add 31 = .ok (.iastore, 1) := by decide +kernel
theorem dX2_add_32 : decode cX2_add 32 = .ok (.aload_n 0, 1) := by decide +kernel
theorem dX2_add_33 : decode cX2_add 33 = .ok (.getfield 18, 3) := by decide +kernel
theorem dX2_add_36 : decode cX2_add 36 = .ok (.iload 4, 2) := by decide +kernel
theorem dX2_add_38 : decode cX2_add 38 = .ok (.iload_n 3, 1) := by decide +kernel
theorem dX2_add_39 : decode cX2_add 39 = .ok (.iastore, 1) := by decide +kernel
theorem dX2_add_40 : decode cX2_add 40 = .ok (.aload_n 0, 1) := by decide +kernel
theorem dX2_add_41 : decode cX2_add 41 = .ok (.getfield 21, 3) := by decide +kernel
theorem dX2_add_44 : decode cX2_add 44 = .ok (.iload 4, 2) := by decide +kernel
theorem dX2_add_46 : decode cX2_add 46 = .ok (.iload_n 2, 1) := by decide +kernel
theorem dX2_add_47 : decode cX2_add 47 = .ok (.iastore, 1) := by decide +kernel
theorem dX2_add_48 : decode cX2_add 48 = .ok (.aload_n 0, 1) := by decide +kernel
theorem dX2_add_49 : decode cX2_add 49 = .ok (.getfield 24, 3) := by decide +kernel
theorem dX2_add_52 : decode cX2_add 52 = .ok (.iload 4, 2) := by decide +kernel
theorem dX2_add_54 : decode cX2_add 54 = .ok (.iconst 0, 1) := by decide +kernel
theorem dX2_add_55 : decode cX2_add 55 = .ok (.iastore, 1) := by decide +kernel
theorem dX2_add_56 : decode cX2_add 56 = .ok (.aload_n 0, 1) := by decide +kernel
theorem dX2_add_57 : decode cX2_add 57 = .ok (.getfield 9, 3) := by decide +kernel
theorem dX2_add_60 : decode cX2_add 60 = .ok (.iload_n 1, 1) := by decide +kernel
theorem dX2_add_61 : decode cX2_add 61 = .ok (.dup2, 1) := by decide +kernel
theorem dX2_add_62 : decode cX2_add 62 = .ok (.iaload, 1) := by decide +kernel
theorem dX2_add_63 : decode cX2_add 63 = .ok (.iconst 1, 1) := by decide +kernel
theorem dX2_add_64 : decode cX2_add 64 = .ok (.iadd, 1) := by decide +kernel
theorem dX2_add_65 : decode cX2_add 65 = .ok (.iastore, 1) := by decide +kernel
theorem dX2_add_66 : decode cX2_add 66 = .ok (.return_, 1) := by decide +kernel
theorem dX2_copyFrom_0 : decode cX2_copyFrom 0 = .ok (.aload_n 1, 1) := by decide +kernel
theorem dX2_copyFrom_1 : decode cX2_copyFrom 1 = .ok (.getfield 9, 3) := by decide +kernel
theorem dX2_copyFrom_4 : decode cX2_copyFrom 4 = .ok (.iconst 0, 1) := by decide +kernel
theorem dX2_copyFrom_5 : decode cX2_copyFrom 5 = .ok (.aload_n 0, 1) := by decide +kernel
theorem dX2_copyFrom_6 : decode cX2_copyFrom 6 = .ok (.getfield 9, 3) := by decide +kernel
theorem dX2_copyFrom_9 : decode cX2_copyFrom 9 = .ok (.iconst 0, 1) := by decide +kernel
theorem dX2_copyFrom_10 : decode cX2_copyFrom 10 = .ok (.bipush 8, 2) := by decide +kernel
theorem dX2_copyFrom_12 : decode cX2_copyFrom 12 = .ok (.invokestatic 31, 3) := by decide +kernel
theorem dX2_copyFrom_15 : decode cX2_copyFrom 15 = .ok (.aload_n 1, 1) := by decide +kernel
theorem dX2_copyFrom_16 : decode cX2_copyFrom 16 = .ok (.getfield 15, 3) := by decide +kernel
theorem dX2_copyFrom_19 : decode cX2_copyFrom 19 = .ok (.iconst 0, 1) := by decide +kernel
theorem dX2_copyFrom_20 : decode cX2_copyFrom 20 = .ok (.aload_n 0, 1) := by decide +kernel
theorem dX2_copyFrom_21 : decode cX2_copyFrom 21 = .ok (.getfield 15, 3) := by decide +kernel
theorem dX2_copyFrom_24 : decode cX2_copyFrom 24 = .ok (.iconst 0, 1) := by decide +kernel
theorem dX2_copyFrom_25 : decode cX2_copyFrom 25 = .ok (.bipush 48, 2) := by decide +kernel
theorem dX2_copyFrom_27 : decode cX2_copyFrom 27 = .ok (.invokestatic 31, 3) := by decide +kernel
theorem dX2_copyFrom_30 : decode cX2_copyFrom 30 = .ok (.aload_n 1, 1) := by decide +kernel
theorem dX2_copyFrom_31 : decode cX2_copyFrom 31 = .ok (.getfield 18, 3) := by decide +kernel
theorem dX2_copyFrom_34 : decode cX2_copyFrom 34 = .ok (.iconst 0, 1) := by decide +kernel
theorem dX2_copyFrom_35 : decode cX2_copyFrom 35 = .ok (.aload_n 0, 1) := by decide +kernel
theorem dX2_copyFrom_36 : decode cX2_copyFrom 36 = .ok (.getfield 18, 3) := by decide +kernel
theorem dX2_copyFrom_39 : decode cX2_copyFrom 39 = .ok (.iconst 0, 1) := by decide +kernel
theorem dX2_copyFrom_40 : decode cX2_copyFrom 40 = .ok (.bipush 48, 2) := by decide +kernel
theorem dX2_copyFrom_42 : decode cX2_copyFrom 42 = .ok (.invokestatic 31, 3) := by decide +kernel
theorem dX2_copyFrom_45 : decode cX2_copyFrom 45 = .ok (.aload_n 1, 1) := by decide +kernel
theorem dX2_copyFrom_46 : decode cX2_copyFrom 46 = .ok (.getfield 21, 3) := by decide +kernel
theorem dX2_copyFrom_49 : decode cX2_copyFrom 49 = .ok (.iconst 0, 1) := by decide +kernel
theorem dX2_copyFrom_50 : decode cX2_copyFrom 50 = .ok (.aload_n 0, 1) := by decide +kernel
theorem dX2_copyFrom_51 : decode cX2_copyFrom 51 = .ok (.getfield 21, 3) := by decide +kernel
theorem dX2_copyFrom_54 : decode cX2_copyFrom 54 = .ok (.iconst 0, 1) := by decide +kernel
theorem dX2_copyFrom_55 : decode cX2_copyFrom 55 = .ok (.bipush 48, 2) := by decide +kernel
theorem dX2_copyFrom_57 : decode cX2_copyFrom 57 = .ok (.invokestatic 31, 3) := by decide +kernel
theorem dX2_copyFrom_60 : decode cX2_copyFrom 60 = .ok (.aload_n 1, 1) := by decide +kernel
theorem dX2_copyFrom_61 : decode cX2_copyFrom 61 = .ok (.getfield 24, 3) := by decide +kernel
theorem dX2_copyFrom_64 : decode cX2_copyFrom 64 = .ok (.iconst 0, 1) := by decide +kernel
theorem dX2_copyFrom_65 : decode cX2_copyFrom 65 = .ok (.aload_n 0, 1) := by decide +kernel
theorem dX2_copyFrom_66 : decode cX2_copyFrom 66 = .ok (.getfield 24, 3) := by decide +kernel
theorem dX2_copyFrom_69 : decode cX2_copyFrom 69 = .ok (.iconst 0, 1) := by decide +kernel
theorem dX2_copyFrom_70 : decode cX2_copyFrom 70 = .ok (.bipush 48, 2) := by decide +kernel
theorem dX2_copyFrom_72 : decode cX2_copyFrom 72 = .ok (.invokestatic 31, 3) := by decide +kernel
theorem dX2_copyFrom_75 : decode cX2_copyFrom 75 = .ok (.return_, 1) := by decide +kernel
theorem dX2_specialRateOf_0 : decode cX2_specialRateOf 0 = .ok (.aload_n 2, 1) := by decide +kernel
theorem dX2_specialRateOf_1 : decode cX2_specialRateOf 1 = .ok (.aload_n 0, 1) := by decide +kernel
theorem dX2_specialRateOf_2 : decode cX2_specialRateOf 2 = .ok (.getfield 15, 3) := by decide +kernel
theorem dX2_specialRateOf_5 : decode cX2_specialRateOf 5 = .ok (.iload_n 1, 1) := by decide +kernel
theorem dX2_specialRateOf_6 : decode cX2_specialRateOf 6 = .ok (.iaload, 1) := by decide +kernel
theorem dX2_specialRateOf_7 : decode cX2_specialRateOf 7 = .ok (.aload_n 0, 1) := by decide +kernel
theorem dX2_specialRateOf_8 : decode cX2_specialRateOf 8 = .ok (.getfield 21, 3) := by decide +kernel
theorem dX2_specialRateOf_11 : decode cX2_specialRateOf 11 = .ok (.iload_n 1, 1) := by decide +kernel
theorem dX2_specialRateOf_12 : decode cX2_specialRateOf 12 = .ok (.iaload, 1) := by decide +kernel
theorem dX2_specialRateOf_13 : decode cX2_specialRateOf 13 = .ok (.invokevirtual 37, 3) := by decide +kernel
theorem dX2_specialRateOf_16 : decode cX2_specialRateOf 16 = .ok (.istore_n 3, 1) := by decide +kernel
theorem dX2_specialRateOf_17 : decode cX2_specialRateOf 17 = .ok (.aload_n 2, 1) := by decide +kernel
theorem dX2_specialRateOf_18 : decode cX2_specialRateOf 18 = .ok (.aload_n 0, 1) := by decide +kernel
theorem dX2_specialRateOf_19 : decode cX2_specialRateOf 19 = .ok (.getfield 18, 3) := by decide +kernel
theorem dX2_specialRateOf_22 : decode cX2_specialRateOf 22 = .ok (.iload_n 1, 1) := by decide +kernel
theorem dX2_specialRateOf_23 : decode cX2_specialRateOf 23 = .ok (.iaload, 1) := by decide +kernel
theorem dX2_specialRateOf_24 : decode cX2_specialRateOf 24 = .ok (.aload_n 0, 1) := by decide +kernel
theorem dX2_specialRateOf_25 : decode cX2_specialRateOf 25 = .ok (.getfield 15, 3) := by decide +kernel
theorem dX2_specialRateOf_28 : decode cX2_specialRateOf 28 = .ok (.iload_n 1, 1) := by decide +kernel
theorem dX2_specialRateOf_29 : decode cX2_specialRateOf 29 = .ok (.iaload, 1) := by decide +kernel
theorem dX2_specialRateOf_30 : decode cX2_specialRateOf 30 = .ok (.iload_n 3, 1) := by decide +kernel
theorem dX2_specialRateOf_31 : decode cX2_specialRateOf 31 = .ok (.invokevirtual 42, 3) := by decide +kernel
theorem dX2_specialRateOf_34 : decode cX2_specialRateOf 34 = .ok (.ireturn, 1) := by decide +kernel
theorem dX2_fullValueOf_0 : decode cX2_fullValueOf 0 = .ok (.aload_n 3, 1) := by decide +kernel
theorem dX2_fullValueOf_1 : decode cX2_fullValueOf 1 = .ok (.aload_n 0, 1) := by decide +kernel
theorem dX2_fullValueOf_2 : decode cX2_fullValueOf 2 = .ok (.getfield 18, 3) := by decide +kernel
theorem dX2_fullValueOf_5 : decode cX2_fullValueOf 5 = .ok (.iload_n 1, 1) := by decide +kernel
theorem dX2_fullValueOf_6 : decode cX2_fullValueOf 6 = .ok (.iaload, 1) := by decide +kernel
theorem dX2_fullValueOf_7 : decode cX2_fullValueOf 7 = .ok (.aload_n 0, 1) := by decide +kernel
theorem dX2_fullValueOf_8 : decode cX2_fullValueOf 8 = .ok (.getfield 15, 3) := by decide +kernel
theorem dX2_fullValueOf_11 : decode cX2_fullValueOf 11 = .ok (.iload_n 1, 1) := by decide +kernel
theorem dX2_fullValueOf_12 : decode cX2_fullValueOf 12 = .ok (.iaload, 1) := by decide +kernel
theorem dX2_fullValueOf_13 : decode cX2_fullValueOf 13 = .ok (.iload_n 2, 1) := by decide +kernel
theorem dX2_fullValueOf_14 : decode cX2_fullValueOf 14 = .ok (.invokevirtual 46, 3) := by decide +kernel
theorem dX2_fullValueOf_17 : decode cX2_fullValueOf 17 = .ok (.lreturn, 1) := by decide +kernel
theorem dX2_valueOf_0 : decode cX2_valueOf 0 = .ok (.aload_n 2, 1) := by decide +kernel
theorem dX2_valueOf_1 : decode cX2_valueOf 1 = .ok (.aload_n 0, 1) := by decide +kernel
theorem dX2_valueOf_2 : decode cX2_valueOf 2 = .ok (.getfield 18, 3) := by decide +kernel
theorem dX2_valueOf_5 : decode cX2_valueOf 5 = .ok (.iload_n 1, 1) := by decide +kernel
theorem dX2_valueOf_6 : decode cX2_valueOf 6 = .ok (.iaload, 1) := by decide +kernel
theorem dX2_valueOf_7 : decode cX2_valueOf 7 = .ok (.aload_n 0, 1) := by decide +kernel
theorem dX2_valueOf_8 : decode cX2_valueOf 8 = .ok (.getfield 15, 3) := by decide +kernel
theorem dX2_valueOf_11 : decode cX2_valueOf 11 = .ok (.iload_n 1, 1) := by decide +kernel
theorem dX2_valueOf_12 : decode cX2_valueOf 12 = .ok (.iaload, 1) := by decide +kernel
theorem dX2_valueOf_13 : decode cX2_valueOf 13 = .ok (.aload_n 0, 1) := by decide +kernel
theorem dX2_valueOf_14 : decode cX2_valueOf 14 = .ok (.getfield 21, 3) := by decide +kernel
theorem dX2_valueOf_17 : decode cX2_valueOf 17 = .ok (.iload_n 1, 1) := by decide +kernel
theorem dX2_valueOf_18 : decode cX2_valueOf 18 = .ok (.iaload, 1) := by decide +kernel
theorem dX2_valueOf_19 : decode cX2_valueOf 19 = .ok (.invokevirtual 46, 3) := by decide +kernel
theorem dX2_valueOf_22 : decode cX2_valueOf 22 = .ok (.lstore_n 3, 1) := by decide +kernel
theorem dX2_valueOf_23 : decode cX2_valueOf 23 = .ok (.lload_n 3, 1) := by decide +kernel
theorem dX2_valueOf_24 : decode cX2_valueOf 24 = .ok (.aload_n 0, 1) := by decide +kernel
theorem dX2_valueOf_25 : decode cX2_valueOf 25 = .ok (.getfield 24, 3) := by decide +kernel
theorem dX2_valueOf_28 : decode cX2_valueOf 28 = .ok (.iload_n 1, 1) := by decide +kernel
theorem dX2_valueOf_29 : decode cX2_valueOf 29 = .ok (.iaload, 1) := by decide +kernel
theorem dX2_valueOf_30 : decode cX2_valueOf 30 = .ok (.i2l, 1) := by decide +kernel
theorem dX2_valueOf_31 : decode cX2_valueOf 31 = .ok (.lmul, 1) := by decide +kernel
theorem dX2_valueOf_32 : decode cX2_valueOf 32 = .ok (.ldc2_w 50, 3) := by decide +kernel
theorem dX2_valueOf_35 : decode cX2_valueOf 35 = .ok (.ldiv, 1) := by decide +kernel
theorem dX2_valueOf_36 : decode cX2_valueOf 36 = .ok (.lreturn, 1) := by decide +kernel
theorem dX2_firstSumOf_0 : decode cX2_firstSumOf 0 = .ok (.lconst 0, 1) := by decide +kernel
theorem dX2_firstSumOf_1 : decode cX2_firstSumOf 1 = .ok (.lstore_n 2, 1) := by decide +kernel
theorem dX2_firstSumOf_2 : decode cX2_firstSumOf 2 = .ok (.iconst 0, 1) := by decide +kernel
theorem dX2_firstSumOf_3 : decode cX2_firstSumOf 3 = .ok (.istore 4, 2) := by decide +kernel
theorem dX2_firstSumOf_5 : decode cX2_firstSumOf 5 = .ok (.iload 4, 2) := by decide +kernel
theorem dX2_firstSumOf_7 : decode cX2_firstSumOf 7 = .ok (.aload_n 0, 1) := by decide +kernel
theorem dX2_firstSumOf_8 : decode cX2_firstSumOf 8 = .ok (.getfield 9, 3) := by decide +kernel
theorem dX2_firstSumOf_11 : decode cX2_firstSumOf 11 = .ok (.iload_n 1, 1) := by decide +kernel
theorem dX2_firstSumOf_12 : decode cX2_firstSumOf 12 = .ok (.iaload, 1) := by decide +kernel
theorem dX2_firstSumOf_13 : decode cX2_firstSumOf 13 = .ok (.if_icmp .ge 37, 3) := by decide +kernel
theorem dX2_firstSumOf_16 : decode cX2_firstSumOf 16 = .ok (.iload_n 1, 1) := by decide +kernel
theorem dX2_firstSumOf_17 : decode cX2_firstSumOf 17 = .ok (.iload 4, 2) := by decide +kernel
theorem dX2_firstSumOf_19 : decode cX2_firstSumOf 19 = .ok (.invokestatic 27, 3) := by decide +kernel
theorem dX2_firstSumOf_22 : decode cX2_firstSumOf 22 = .ok (.istore 5, 2) := by decide +kernel
theorem dX2_firstSumOf_24 : decode cX2_firstSumOf 24 = .ok (.lload_n 2, 1) := by decide +kernel
theorem dX2_firstSumOf_25 : decode cX2_firstSumOf 25 = .ok (.aload_n 0, 1) := by decide +kernel
theorem dX2_firstSumOf_26 : decode cX2_firstSumOf 26 = .ok (.getfield 15, 3) := by decide +kernel
theorem dX2_firstSumOf_29 : decode cX2_firstSumOf 29 = .ok (.iload 5, 2) := by decide +kernel
theorem dX2_firstSumOf_31 : decode cX2_firstSumOf 31 = .ok (.iaload, 1) := by decide +kernel
theorem dX2_firstSumOf_32 : decode cX2_firstSumOf 32 = .ok (.i2l, 1) := by decide +kernel
theorem dX2_firstSumOf_33 : decode cX2_firstSumOf 33 = .ok (.aload_n 0, 1) := by decide +kernel
theorem dX2_firstSumOf_34 : decode cX2_firstSumOf 34 = .ok (.getfield 18, 3) := by decide +kernel
theorem dX2_firstSumOf_37 : decode cX2_firstSumOf 37 = .ok (.iload 5, 2) := by decide +kernel
theorem dX2_firstSumOf_39 : decode cX2_firstSumOf 39 = .ok (.iaload, 1) := by decide +kernel
theorem dX2_firstSumOf_40 : decode cX2_firstSumOf 40 = .ok (.i2l, 1) := by decide +kernel
theorem dX2_firstSumOf_41 : decode cX2_firstSumOf 41 = .ok (.lmul, 1) := by decide +kernel
theorem dX2_firstSumOf_42 : decode cX2_firstSumOf 42 = .ok (.ladd, 1) := by decide +kernel
theorem dX2_firstSumOf_43 : decode cX2_firstSumOf 43 = .ok (.lstore_n 2, 1) := by decide +kernel
theorem dX2_firstSumOf_44 : decode cX2_firstSumOf 44 = .ok (.iinc 4 1, 3) := by decide +kernel
theorem dX2_firstSumOf_47 : decode cX2_firstSumOf 47 = .ok (.goto (-42), 3) := by decide +kernel
theorem dX2_firstSumOf_50 : decode cX2_firstSumOf 50 = .ok (.lload_n 2, 1) := by decide +kernel
theorem dX2_firstSumOf_51 : decode cX2_firstSumOf 51 = .ok (.lreturn, 1) := by decide +kernel
theorem dX2_areComplete_0 : decode cX2_areComplete 0 = .ok (.iconst 0, 1) := by decide +kernel
theorem dX2_areComplete_1 : decode cX2_areComplete 1 = .ok (.istore_n 2, 1) := by decide +kernel
theorem dX2_areComplete_2 : decode cX2_areComplete 2 = .ok (.iload_n 2, 1) := by decide +kernel
theorem dX2_areComplete_3 : decode cX2_areComplete 3 = .ok (.aload_n 0, 1) := by decide +kernel
theorem dX2_areComplete_4 : decode cX2_areComplete 4 = .ok (.getfield 9, 3) := by decide +kernel
theorem dX2_areComplete_7 : decode cX2_areComplete 7 = .ok (.iload_n 1, 1) := by decide +kernel
theorem dX2_areComplete_8 : decode cX2_areComplete 8 = .ok (.iaload, 1) := by decide +kernel
theorem dX2_areComplete_9 : decode cX2_areComplete 9 = .ok (.if_icmp .ge 26, 3) := by decide +kernel
theorem dX2_areComplete_12 : decode cX2_areComplete 12 = .ok (.aload_n 0, 1) := by decide +kernel
theorem dX2_areComplete_13 : decode cX2_areComplete 13 = .ok (.getfield 24, 3) := by decide +kernel
theorem dX2_areComplete_16 : decode cX2_areComplete 16 = .ok (.iload_n 1, 1) := by decide +kernel
theorem dX2_areComplete_17 : decode cX2_areComplete 17 = .ok (.iload_n 2, 1) := by decide +kernel
theorem dX2_areComplete_18 : decode cX2_areComplete 18 = .ok (.invokestatic 27, 3) := by decide +kernel
theorem dX2_areComplete_21 : decode cX2_areComplete 21 = .ok (.iaload, 1) := by decide +kernel
theorem dX2_areComplete_22 : decode cX2_areComplete 22 = .ok (.bipush 100, 2) := by decide +kernel
theorem dX2_areComplete_24 : decode cX2_areComplete 24 = .ok (.if_icmp .ge 5, 3) := by decide +kernel
theorem dX2_areComplete_27 : decode cX2_areComplete 27 = .ok (.iconst 0, 1) := by decide +kernel
theorem dX2_areComplete_28 : decode cX2_areComplete 28 = .ok (.ireturn, 1) := by decide +kernel
theorem dX2_areComplete_29 : decode cX2_areComplete 29 = .ok (.iinc 2 1, 3) := by decide +kernel
theorem dX2_areComplete_32 : decode cX2_areComplete 32 = .ok (.goto (-30), 3) := by decide +kernel
theorem dX2_areComplete_35 : decode cX2_areComplete 35 = .ok (.iconst 1, 1) := by decide +kernel
theorem dX2_areComplete_36 : decode cX2_areComplete 36 = .ok (.ireturn, 1) := by decide +kernel
theorem dX3_init_0 : decode cX3_init 0 = .ok (.aload_n 0, 1) := by decide +kernel
theorem dX3_init_1 : decode cX3_init 1 = .ok (.invokespecial 3, 3) := by decide +kernel
theorem dX3_init_4 : decode cX3_init 4 = .ok (.aload_n 0, 1) := by decide +kernel
theorem dX3_init_5 : decode cX3_init 5 = .ok (.iconst 0, 1) := by decide +kernel
theorem dX3_init_6 : decode cX3_init 6 = .ok (.putfield 9, 3) := by decide +kernel
theorem dX3_init_9 : decode cX3_init 9 = .ok (.aload_n 0, 1) := by decide +kernel
theorem dX3_init_10 : decode cX3_init 10 = .ok (.bipush 12, 2) := by decide +kernel
theorem dX3_init_12 : decode cX3_init 12 = .ok (.newarray .int, 2) := by decide +kernel
theorem dX3_init_14 : decode cX3_init 14 = .ok (.putfield 15, 3) := by decide +kernel
theorem dX3_init_17 : decode cX3_init 17 = .ok (.aload_n 0, 1) := by decide +kernel
theorem dX3_init_18 : decode cX3_init 18 = .ok (.bipush 12, 2) := by decide +kernel
theorem dX3_init_20 : decode cX3_init 20 = .ok (.newarray .long, 2) := by decide +kernel
theorem dX3_init_22 : decode cX3_init 22 = .ok (.putfield 19, 3) := by decide +kernel
theorem dX3_init_25 : decode cX3_init 25 = .ok (.aload_n 0, 1) := by decide +kernel
theorem dX3_init_26 : decode cX3_init 26 = .ok (.bipush 12, 2) := by decide +kernel
theorem dX3_init_28 : decode cX3_init 28 = .ok (.newarray .int, 2) := by decide +kernel
theorem dX3_init_30 : decode cX3_init 30 = .ok (.putfield 23, 3) := by decide +kernel
theorem dX3_init_33 : decode cX3_init 33 = .ok (.aload_n 0, 1) := by decide +kernel
theorem dX3_init_34 : decode cX3_init 34 = .ok (.bipush 12, 2) := by decide +kernel
theorem dX3_init_36 : decode cX3_init 36 = .ok (.newarray .boolean, 2) := by decide +kernel
theorem dX3_init_38 : decode cX3_init 38 = .ok (.putfield 26, 3) := by decide +kernel
theorem dX3_init_41 : decode cX3_init 41 = .ok (.return_, 1) := by decide +kernel
theorem dX3_add_0 : decode cX3_add 0 = .ok (.aload_n 0, 1) := by decide +kernel
theorem dX3_add_1 : decode cX3_add 1 = .ok (.getfield 9, 3) := by decide +kernel
theorem dX3_add_4 : decode cX3_add 4 = .ok (.bipush 12, 2) := by decide +kernel
theorem dX3_add_6 : decode cX3_add 6 = .ok (.if_icmp .lt 5, 3) := by decide +kernel
theorem dX3_add_9 : decode cX3_add 9 = .ok (.iconst (-1), 1) := by decide +kernel
theorem dX3_add_10 : decode cX3_add 10 = .ok (.ireturn, 1) := by decide +kernel
theorem dX3_add_11 : decode cX3_add 11 = .ok (.aload_n 0, 1) := by decide +kernel
theorem dX3_add_12 : decode cX3_add 12 = .ok (.getfield 15, 3) := by decide +kernel
theorem dX3_add_15 : decode cX3_add 15 = .ok (.aload_n 0, 1) := by decide +kernel
theorem dX3_add_16 : decode cX3_add 16 = .ok (.getfield 9, 3) := by decide +kernel
theorem dX3_add_19 : decode cX3_add 19 = .ok (.iload_n 1, 1) := by decide +kernel
theorem dX3_add_20 : decode cX3_add 20 = .ok (.iastore, 1) := by decide +kernel
theorem dX3_add_21 : decode cX3_add 21 = .ok (.aload_n 0, 1) := by decide +kernel
theorem dX3_add_22 : decode cX3_add 22 = .ok (.getfield 19, 3) := by decide +kernel
theorem dX3_add_25 : decode cX3_add 25 = .ok (.aload_n 0, 1) := by decide +kernel
theorem dX3_add_26 : decode cX3_add 26 = .ok (.getfield 9, 3) := by decide +kernel
theorem dX3_add_29 : decode cX3_add 29 = .ok (.lload_n 2, 1) := by decide +kernel
theorem dX3_add_30 : decode cX3_add 30 = .ok (.lastore, 1) := by decide +kernel
theorem dX3_add_31 : decode cX3_add 31 = .ok (.aload_n 0, 1) := by decide +kernel
theorem dX3_add_32 : decode cX3_add 32 = .ok (.getfield 23, 3) := by decide +kernel
theorem dX3_add_35 : decode cX3_add 35 = .ok (.aload_n 0, 1) := by decide +kernel
theorem dX3_add_36 : decode cX3_add 36 = .ok (.getfield 9, 3) := by decide +kernel
theorem dX3_add_39 : decode cX3_add 39 = .ok (.iload 4, 2) := by decide +kernel
theorem dX3_add_41 : decode cX3_add 41 = .ok (.iastore, 1) := by decide +kernel
theorem dX3_add_42 : decode cX3_add 42 = .ok (.aload_n 0, 1) := by decide +kernel
theorem dX3_add_43 : decode cX3_add 43 = .ok (.getfield 26, 3) := by decide +kernel
theorem dX3_add_46 : decode cX3_add 46 = .ok (.aload_n 0, 1) := by decide +kernel
theorem dX3_add_47 : decode cX3_add 47 = .ok (.getfield 9, 3) := by decide +kernel
theorem dX3_add_50 : decode cX3_add 50 = .ok (.iconst 0, 1) := by decide +kernel
theorem dX3_add_51 : decode cX3_add 51 = .ok (.bastore, 1) := by decide +kernel
theorem dX3_add_52 : decode cX3_add 52 = .ok (.aload_n 0, 1) := by decide +kernel
theorem dX3_add_53 : decode cX3_add 53 = .ok (.dup, 1) := by decide +kernel
theorem dX3_add_54 : decode cX3_add 54 = .ok (.getfield 9, 3) := by decide +kernel
theorem dX3_add_57 : decode cX3_add 57 = .ok (.iconst 1, 1) := by decide +kernel
theorem dX3_add_58 : decode cX3_add 58 = .ok (.iadd, 1) := by decide +kernel
theorem dX3_add_59 : decode cX3_add 59 = .ok (.putfield 9, 3) := by decide +kernel
theorem dX3_add_62 : decode cX3_add 62 = .ok (.aload_n 0, 1) := by decide +kernel
theorem dX3_add_63 : decode cX3_add 63 = .ok (.getfield 9, 3) := by decide +kernel
theorem dX3_add_66 : decode cX3_add 66 = .ok (.iconst 1, 1) := by decide +kernel
theorem dX3_add_67 : decode cX3_add 67 = .ok (.isub, 1) := by decide +kernel
theorem dX3_add_68 : decode cX3_add 68 = .ok (.ireturn, 1) := by decide +kernel
theorem dX3_copyFrom_0 : decode cX3_copyFrom 0 = .ok (.aload_n 0, 1) := by decide +kernel
theorem dX3_copyFrom_1 : decode cX3_copyFrom 1 = .ok (.aload_n 1, 1) := by decide +kernel
theorem dX3_copyFrom_2 : decode cX3_copyFrom 2 = .ok (.getfield 9, 3) := by decide +kernel
theorem dX3_copyFrom_5 : decode cX3_copyFrom 5 = .ok (.putfield 9, 3) := by decide +kernel
theorem dX3_copyFrom_8 : decode cX3_copyFrom 8 = .ok (.aload_n 1, 1) := by decide +kernel
theorem dX3_copyFrom_9 : decode cX3_copyFrom 9 = .ok (.getfield 15, 3) := by decide +kernel
theorem dX3_copyFrom_12 : decode cX3_copyFrom 12 = .ok (.iconst 0, 1) := by decide +kernel
theorem dX3_copyFrom_13 : decode cX3_copyFrom 13 = .ok (.aload_n 0, 1) := by decide +kernel
theorem dX3_copyFrom_14 : decode cX3_copyFrom 14 = .ok (.getfield 15, 3) := by decide +kernel
theorem dX3_copyFrom_17 : decode cX3_copyFrom 17 = .ok (.iconst 0, 1) := by decide +kernel
theorem dX3_copyFrom_18 : decode cX3_copyFrom 18 = .ok (.aload_n 0, 1) := by decide +kernel
theorem dX3_copyFrom_19 : decode cX3_copyFrom 19 = .ok (.getfield 9, 3) := by decide +kernel
theorem dX3_copyFrom_22 : decode cX3_copyFrom 22 = .ok (.invokestatic 30, 3) := by decide +kernel
theorem dX3_copyFrom_25 : decode cX3_copyFrom 25 = .ok (.aload_n 1, 1) := by decide +kernel
theorem dX3_copyFrom_26 : decode cX3_copyFrom 26 = .ok (.getfield 19, 3) := by decide +kernel
theorem dX3_copyFrom_29 : decode cX3_copyFrom 29 = .ok (.iconst 0, 1) := by decide +kernel
theorem dX3_copyFrom_30 : decode cX3_copyFrom 30 = .ok (.aload_n 0, 1) := by decide +kernel
theorem dX3_copyFrom_31 : decode cX3_copyFrom 31 = .ok (.getfield 19, 3) := by decide +kernel
theorem dX3_copyFrom_34 : decode cX3_copyFrom 34 = .ok (.iconst 0, 1) := by decide +kernel
theorem dX3_copyFrom_35 : decode cX3_copyFrom 35 = .ok (.aload_n 0, 1) := by decide +kernel
theorem dX3_copyFrom_36 : decode cX3_copyFrom 36 = .ok (.getfield 9, 3) := by decide +kernel
theorem dX3_copyFrom_39 : decode cX3_copyFrom 39 = .ok (.invokestatic 30, 3) := by decide +kernel
theorem dX3_copyFrom_42 : decode cX3_copyFrom 42 = .ok (.aload_n 1, 1) := by decide +kernel
theorem dX3_copyFrom_43 : decode cX3_copyFrom 43 = .ok (.getfield 23, 3) := by decide +kernel
theorem dX3_copyFrom_46 : decode cX3_copyFrom 46 = .ok (.iconst 0, 1) := by decide +kernel
theorem dX3_copyFrom_47 : decode cX3_copyFrom 47 = .ok (.aload_n 0, 1) := by decide +kernel
theorem dX3_copyFrom_48 : decode cX3_copyFrom 48 = .ok (.getfield 23, 3) := by decide +kernel
theorem dX3_copyFrom_51 : decode cX3_copyFrom 51 = .ok (.iconst 0, 1) := by decide +kernel
theorem dX3_copyFrom_52 : decode cX3_copyFrom 52 = .ok (.aload_n 0, 1) := by decide +kernel
theorem dX3_copyFrom_53 : decode cX3_copyFrom 53 = .ok (.getfield 9, 3) := by decide +kernel
theorem dX3_copyFrom_56 : decode cX3_copyFrom 56 = .ok (.invokestatic 30, 3) := by decide +kernel
theorem dX3_copyFrom_59 : decode cX3_copyFrom 59 = .ok (.iconst 0, 1) := by decide +kernel
theorem dX3_copyFrom_60 : decode cX3_copyFrom 60 = .ok (.istore_n 2, 1) := by decide +kernel
theorem dX3_copyFrom_61 : decode cX3_copyFrom 61 = .ok (.iload_n 2, 1) := by decide +kernel
theorem dX3_copyFrom_62 : decode cX3_copyFrom 62 = .ok (.aload_n 0, 1) := by decide +kernel
theorem dX3_copyFrom_63 : decode cX3_copyFrom 63 = .ok (.getfield 9, 3) := by decide +kernel
theorem dX3_copyFrom_66 : decode cX3_copyFrom 66 = .ok (.if_icmp .ge 21, 3) := by decide +kernel
theorem dX3_copyFrom_69 : decode cX3_copyFrom 69 = .ok (.aload_n 0, 1) := by decide +kernel
theorem dX3_copyFrom_70 : decode cX3_copyFrom 70 = .ok (.getfield 26, 3) := by decide +kernel
theorem dX3_copyFrom_73 : decode cX3_copyFrom 73 = .ok (.iload_n 2, 1) := by decide +kernel
theorem dX3_copyFrom_74 : decode cX3_copyFrom 74 = .ok (.aload_n 1, 1) := by decide +kernel
theorem dX3_copyFrom_75 : decode cX3_copyFrom 75 = .ok (.getfield 26, 3) := by decide +kernel
theorem dX3_copyFrom_78 : decode cX3_copyFrom 78 = .ok (.iload_n 2, 1) := by decide +kernel
theorem dX3_copyFrom_79 : decode cX3_copyFrom 79 = .ok (.baload, 1) := by decide +kernel
theorem dX3_copyFrom_80 : decode cX3_copyFrom 80 = .ok (.bastore, 1) := by decide +kernel
theorem dX3_copyFrom_81 : decode cX3_copyFrom 81 = .ok (.iinc 2 1, 3) := by decide +kernel
theorem dX3_copyFrom_84 : decode cX3_copyFrom 84 = .ok (.goto (-23), 3) := by decide +kernel
theorem dX3_copyFrom_87 : decode cX3_copyFrom 87 = .ok (.return_, 1) := by decide +kernel
theorem dX4_init_0 : decode cX4_init 0 = .ok (.aload_n 0, 1) := by decide +kernel
theorem dX4_init_1 : decode cX4_init 1 = .ok (.invokespecial 3, 3) := by decide +kernel
theorem dX4_init_4 : decode cX4_init 4 = .ok (.aload_n 0, 1) := by decide +kernel
theorem dX4_init_5 : decode cX4_init 5 = .ok (.bipush 25, 2) := by decide +kernel
theorem dX4_init_7 : decode cX4_init 7 = .ok (.putfield 11, 3) := by decide +kernel
theorem dX4_init_10 : decode cX4_init 10 = .ok (.aload_n 0, 1) := by decide +kernel
theorem dX4_init_11 : decode cX4_init 11 = .ok (.iconst 0, 1) := by decide +kernel
theorem dX4_init_12 : decode cX4_init 12 = .ok (.putfield 15, 3) := by decide +kernel
theorem dX4_init_15 : decode cX4_init 15 = .ok (.aload_n 0, 1) := by decide +kernel
theorem dX4_init_16 : decode cX4_init 16 = .ok (.bipush 16, 2) := by decide +kernel
theorem dX4_init_18 : decode cX4_init 18 = .ok (.newarray .int, 2) := by decide +kernel
theorem dX4_init_20 : decode cX4_init 20 = .ok (.putfield 18, 3) := by decide +kernel
theorem dX4_init_23 : decode cX4_init 23 = .ok (.aload_n 0, 1) := by decide +kernel
theorem dX4_init_24 : decode cX4_init 24 = .ok (.iconst 0, 1) := by decide +kernel
theorem dX4_init_25 : decode cX4_init 25 = .ok (.iload_n 1, 1) := by decide +kernel
theorem dX4_init_26 : decode cX4_init 26 = .ok (.sipush 900, 3) := by decide +kernel
theorem dX4_init_29 : decode cX4_init 29 = .ok (.invokestatic 22, 3) := by decide +kernel
theorem dX4_init_32 : decode cX4_init 32 = .ok (.invokestatic 28, 3) := by decide +kernel
theorem dX4_init_35 : decode cX4_init 35 = .ok (.newarray .int, 2) := by decide +kernel
theorem dX4_init_37 : decode cX4_init 37 = .ok (.putfield 31, 3) := by decide +kernel
theorem dX4_init_40 : decode cX4_init 40 = .ok (.return_, 1) := by decide +kernel
theorem dX4_add_0 : decode cX4_add 0 = .ok (.aload_n 0, 1) := by decide +kernel
theorem dX4_add_1 : decode cX4_add 1 = .ok (.getfield 15, 3) := by decide +kernel
theorem dX4_add_4 : decode cX4_add 4 = .ok (.aload_n 0, 1) := by decide +kernel
theorem dX4_add_5 : decode cX4_add 5 = .ok (.getfield 31, 3) := by decide +kernel
theorem dX4_add_8 : decode cX4_add 8 = .ok (.arraylength, 1) := by decide +kernel
theorem dX4_add_9 : decode cX4_add 9 = .ok (.if_icmp .ge 23, 3) := by decide +kernel
theorem dX4_add_12 : decode cX4_add 12 = .ok (.aload_n 0, 1) := by decide +kernel
theorem dX4_add_13 : decode cX4_add 13 = .ok (.getfield 31, 3) := by decide +kernel
theorem dX4_add_16 : decode cX4_add 16 = .ok (.aload_n 0, 1) := by decide +kernel
theorem dX4_add_17 : decode cX4_add 17 = .ok (.getfield 15, 3) := by decide +kernel
theorem dX4_add_20 : decode cX4_add 20 = .ok (.iload_n 1, 1) := by decide +kernel
theorem dX4_add_21 : decode cX4_add 21 = .ok (.iastore, 1) := by decide +kernel
theorem dX4_add_22 : decode cX4_add 22 = .ok (.aload_n 0, 1) := by decide +kernel
theorem dX4_add_23 : decode cX4_add 23 = .ok (.dup, 1) := by decide +kernel
theorem dX4_add_24 : decode cX4_add 24 = .ok (.getfield 15, 3) := by decide +kernel
theorem dX4_add_27 : decode cX4_add 27 = .ok (.iconst 1, 1) := by decide +kernel
theorem dX4_add_28 : decode cX4_add 28 = .ok (.iadd, 1) := by decide +kernel
theorem dX4_add_29 : decode cX4_add 29 = .ok (.putfield 15, 3) := by decide +kernel
theorem dX4_add_32 : decode cX4_add 32 = .ok (.return_, 1) := by decide +kernel
theorem dX4_fullValue_0 : decode cX4_fullValue 0 = .ok (.iload_n 3, 1) := by decide +kernel
theorem dX4_fullValue_1 : decode cX4_fullValue 1 = .ok (.aload_n 0, 1) := by decide +kernel
theorem dX4_fullValue_2 : decode cX4_fullValue 2 = .ok (.iload_n 2, 1) := by decide +kernel
theorem dX4_fullValue_3 : decode cX4_fullValue 3 = .ok (.invokevirtual 34, 3) := by decide +kernel
theorem dX4_fullValue_6 : decode cX4_fullValue 6 = .ok (.invokestatic 22, 3) := by decide +kernel
theorem dX4_fullValue_9 : decode cX4_fullValue 9 = .ok (.istore 4, 2) := by decide +kernel
theorem dX4_fullValue_11 : decode cX4_fullValue 11 = .ok (.iload_n 3, 1) := by decide +kernel
theorem dX4_fullValue_12 : decode cX4_fullValue 12 = .ok (.iload 4, 2) := by decide +kernel
theorem dX4_fullValue_14 : decode cX4_fullValue 14 = .ok (.isub, 1) := by decide +kernel
theorem dX4_fullValue_15 : decode cX4_fullValue 15 = .ok (.istore 5, 2) := by decide +kernel
theorem dX4_fullValue_17 : decode cX4_fullValue 17 = .ok (.iload 4, 2) := by decide +kernel
theorem dX4_fullValue_19 : decode cX4_fullValue 19 = .ok (.i2l, 1) := by decide +kernel
theorem dX4_fullValue_20 : decode cX4_fullValue 20 = .ok (.iload_n 1, 1) := by decide +kernel
theorem dX4_fullValue_21 : decode cX4_fullValue 21 = .ok (.i2l, 1) := by decide +kernel
theorem dX4_fullValue_22 : decode cX4_fullValue 22 = .ok (.lmul, 1) := by decide +kernel
theorem dX4_fullValue_23 : decode cX4_fullValue 23 = .ok (.lstore 6, 2) := by decide +kernel
theorem dX4_fullValue_25 : decode cX4_fullValue 25 = .ok (.iload 5, 2) := by decide +kernel
theorem dX4_fullValue_27 : decode cX4_fullValue 27 = .ok (.ifCond .le 21, 3) := by decide +kernel
theorem dX4_fullValue_30 : decode cX4_fullValue 30 = .ok (.lload 6, 2) := by decide +kernel
theorem dX4_fullValue_32 : decode cX4_fullValue 32 = .ok (.iload 5, 2) := by decide +kernel
theorem dX4_fullValue_34 : decode cX4_fullValue 34 = .ok (.i2l, 1) := by decide +kernel
theorem dX4_fullValue_35 : decode cX4_fullValue 35 = .ok (.aload_n 0, 1) := by decide +kernel
theorem dX4_fullValue_36 : decode cX4_fullValue 36 = .ok (.iload_n 1, 1) := by decide +kernel
theorem dX4_fullValue_37 : decode cX4_fullValue 37 = .ok (.iload_n 2, 1) := by decide +kernel
theorem dX4_fullValue_38 : decode cX4_fullValue 38 = .ok (.iload 5, 2) := by decide +kernel
theorem dX4_fullValue_40 : decode cX4_fullValue 40 = .ok (.invokevirtual 38, 3) := by decide +kernel
theorem dX4_fullValue_43 : decode cX4_fullValue 43 = .ok (.i2l, 1) := by decide +kernel
theorem dX4_fullValue_44 : decode cX4_fullValue 44 = .ok (.lmul, 1) := by decide +kernel
theorem dX4_fullValue_45 : decode cX4_fullValue 45 = .ok (.ladd, 1) := by decide +kernel
theorem dX4_fullValue_46 : decode cX4_fullValue 46 = .ok (.lstore 6, 2) := by decide +kernel
theorem dX4_fullValue_48 : decode cX4_fullValue 48 = .ok (.lload 6, 2) := by decide +kernel
theorem dX4_fullValue_50 : decode cX4_fullValue 50 = .ok (.lreturn, 1) := by decide +kernel
theorem dX4_excessOf_0 : decode cX4_excessOf 0 = .ok (.iconst 0, 1) := by decide +kernel
theorem dX4_excessOf_1 : decode cX4_excessOf 1 = .ok (.iload_n 2, 1) := by decide +kernel
theorem dX4_excessOf_2 : decode cX4_excessOf 2 = .ok (.aload_n 0, 1) := by decide +kernel
theorem dX4_excessOf_3 : decode cX4_excessOf 3 = .ok (.iload_n 1, 1) := by decide +kernel
theorem dX4_excessOf_4 : decode cX4_excessOf 4 = .ok (.invokevirtual 34, 3) := by decide +kernel
theorem dX4_excessOf_7 : decode cX4_excessOf 7 = .ok (.isub, 1) := by decide +kernel
theorem dX4_excessOf_8 : decode cX4_excessOf 8 = .ok (.invokestatic 28, 3) := by decide +kernel
theorem dX4_excessOf_11 : decode cX4_excessOf 11 = .ok (.ireturn, 1) := by decide +kernel
theorem dX4_boundOf_0 : decode cX4_boundOf 0 = .ok (.iload_n 1, 1) := by decide +kernel
theorem dX4_boundOf_1 : decode cX4_boundOf 1 = .ok (.iload_n 1, 1) := by decide +kernel
theorem dX4_boundOf_2 : decode cX4_boundOf 2 = .ok (.aload_n 0, 1) := by decide +kernel
theorem dX4_boundOf_3 : decode cX4_boundOf 3 = .ok (.getfield 11, 3) := by decide +kernel
theorem dX4_boundOf_6 : decode cX4_boundOf 6 = .ok (.imul, 1) := by decide +kernel
theorem dX4_boundOf_7 : decode cX4_boundOf 7 = .ok (.bipush 100, 2) := by decide +kernel
theorem dX4_boundOf_9 : decode cX4_boundOf 9 = .ok (.idiv, 1) := by decide +kernel
theorem dX4_boundOf_10 : decode cX4_boundOf 10 = .ok (.iadd, 1) := by decide +kernel
theorem dX4_boundOf_11 : decode cX4_boundOf 11 = .ok (.ireturn, 1) := by decide +kernel
theorem dX4_rate_0 : decode cX4_rate 0 = .ok (.aload_n 0, 1) := by decide +kernel
theorem dX4_rate_1 : decode cX4_rate 1 = .ok (.getfield 15, 3) := by decide +kernel
theorem dX4_rate_4 : decode cX4_rate 4 = .ok (.ifCond .ne 5, 3) := by decide +kernel
theorem dX4_rate_7 : decode cX4_rate 7 = .ok (.iload_n 1, 1) := by decide +kernel
theorem dX4_rate_8 : decode cX4_rate 8 = .ok (.ireturn, 1) := by decide +kernel
theorem dX4_rate_9 : decode cX4_rate 9 = .ok (.iconst 0, 1) := by decide +kernel
theorem dX4_rate_10 : decode cX4_rate 10 = .ok (.istore 4, 2) := by decide +kernel
theorem dX4_rate_12 : decode cX4_rate 12 = .ok (.iconst 0, 1) := by decide +kernel
theorem dX4_rate_13 : decode cX4_rate 13 = .ok (.istore 5, 2) := by decide +kernel
theorem dX4_rate_15 : decode cX4_rate 15 = .ok (.iload 5, 2) := by decide +kernel
theorem dX4_rate_17 : decode cX4_rate 17 = .ok (.aload_n 0, 1) := by decide +kernel
theorem dX4_rate_18 : decode cX4_rate 18 = .ok (.getfield 15, 3) := by decide +kernel
theorem dX4_rate_21 : decode cX4_rate 21 = .ok (.if_icmp .ge 99, 3) := by decide +kernel
theorem dX4_rate_24 : decode cX4_rate 24 = .ok (.aload_n 0, 1) := by decide +kernel
theorem dX4_rate_25 : decode cX4_rate 25 = .ok (.getfield 31, 3) := by decide +kernel
theorem dX4_rate_28 : decode cX4_rate 28 = .ok (.iload 5, 2) := by decide +kernel
theorem dX4_rate_30 : decode cX4_rate 30 = .ok (.iaload, 1) := by decide +kernel
theorem dX4_rate_31 : decode cX4_rate 31 = .ok (.istore 6, 2) := by decide +kernel
theorem dX4_rate_33 : decode cX4_rate 33 = .ok (.iload 6, 2) := by decide +kernel
theorem dX4_rate_35 : decode cX4_rate 35 = .ok (.bipush (-4), 2) := by decide +kernel
theorem dX4_rate_37 : decode cX4_rate 37 = .ok (.if_icmp .le 31, 3) := by decide +kernel
theorem dX4_rate_40 : decode cX4_rate 40 = .ok (.iload 4, 2) := by decide +kernel
theorem dX4_rate_42 : decode cX4_rate 42 = .ok (.bipush 16, 2) := by decide +kernel
theorem dX4_rate_44 : decode cX4_rate 44 = .ok (.if_icmp .ge 24, 3) := by decide +kernel
theorem dX4_rate_47 : decode cX4_rate 47 = .ok (.aload_n 0, 1) := by decide +kernel
theorem dX4_rate_48 : decode cX4_rate 48 = .ok (.getfield 18, 3) := by decide +kernel
theorem dX4_rate_51 : decode cX4_rate 51 = .ok (.iload 4, 2) := by decide +kernel
theorem dX4_rate_53 : decode cX4_rate 53 = .ok (.iload 6, 2) := by decide +kernel
theorem dX4_rate_55 : decode cX4_rate 55 = .ok (.iload_n 1, 1) := by decide +kernel
theorem dX4_rate_56 : decode cX4_rate 56 = .ok (.iload_n 2, 1) := by decide +kernel
theorem dX4_rate_57 : decode cX4_rate 57 = .ok (.iload_n 3, 1) := by decide +kernel
theorem dX4_rate_58 : decode cX4_rate 58 = .ok (.invokestatic 42, 3) := by decide +kernel
theorem dX4_rate_61 : decode cX4_rate 61 = .ok (.iastore, 1) := by decide +kernel
theorem dX4_rate_62 : decode cX4_rate 62 = .ok (.iinc 4 1, 3) := by decide +kernel
theorem dX4_rate_65 : decode cX4_rate 65 = .ok (.goto 49, 3) := by decide +kernel
theorem dX4_rate_68 : decode cX4_rate 68 = .ok (.iload 6, 2) := by decide +kernel
theorem dX4_rate_70 : decode cX4_rate 70 = .ok (.bipush (-4), 2) := by decide +kernel
theorem dX4_rate_72 : decode cX4_rate 72 = .ok (.if_icmp .gt 42, 3) := by decide +kernel
theorem dX4_rate_75 : decode cX4_rate 75 = .ok (.iload 4, 2) := by decide +kernel
theorem dX4_rate_77 : decode cX4_rate 77 = .ok (.iconst 2, 1) := by decide +kernel
theorem dX4_rate_78 : decode cX4_rate 78 = .ok (.if_icmp .lt 36, 3) := by decide +kernel
theorem dX4_rate_81 : decode cX4_rate 81 = .ok (.iinc 4 (-1), 3) := by decide +kernel
theorem dX4_rate_84 : decode cX4_rate 84 = .ok (.aload_n 0, 1) := by decide +kernel
theorem dX4_rate_85 : decode cX4_rate 85 = .ok (.getfield 18, 3) := by decide +kernel
theorem dX4_rate_88 : decode cX4_rate 88 = .ok (.iload 4, 2) := by decide +kernel
theorem dX4_rate_90 : decode cX4_rate 90 = .ok (.iconst 1, 1) := by decide +kernel
theorem dX4_rate_91 : decode cX4_rate 91 = .ok (.isub, 1) := by decide +kernel
theorem dX4_rate_92 : decode cX4_rate 92 = .ok (.iload 6, 2) := by decide +kernel
theorem dX4_rate_94 : decode cX4_rate 94 = .ok (.aload_n 0, 1) := by decide +kernel
theorem dX4_rate_95 : decode cX4_rate 95 = .ok (.getfield 18, 3) := by decide +kernel
theorem dX4_rate_98 : decode cX4_rate 98 = .ok (.iload 4, 2) := by decide +kernel
theorem dX4_rate_100 : decode cX4_rate 100 = .ok (.iconst 1, 1) := by decide +kernel
theorem dX4_rate_101 : decode cX4_rate 101 = .ok (.isub, 1) := by decide +kernel
theorem dX4_rate_102 : decode cX4_rate 102 = .ok (.iaload, 1) := by decide +kernel
theorem dX4_rate_103 : decode cX4_rate 103 = .ok (.aload_n 0, 1) := by decide +kernel
theorem dX4_rate_104 : decode cX4_rate 104 = .ok (.getfield 18, 3) := by decide +kernel
theorem dX4_rate_107 : decode cX4_rate 107 = .ok (.iload 4, 2) := by decide +kernel
theorem dX4_rate_109 : decode cX4_rate 109 = .ok (.iaload, 1) := by decide +kernel
theorem dX4_rate_110 : decode cX4_rate 110 = .ok (.invokestatic 46, 3) := by decide +kernel
theorem dX4_rate_113 : decode cX4_rate 113 = .ok (.iastore, 1) := by decide +kernel
theorem dX4_rate_114 : decode cX4_rate 114 = .ok (.iinc 5 1, 3) := by decide +kernel
theorem dX4_rate_117 : decode cX4_rate 117 = .ok (.goto (-102), 3) := by decide +kernel
theorem dX4_rate_120 : decode cX4_rate 120 = .ok (.iconst 0, 1) := by decide +kernel
theorem dX4_rate_121 : decode cX4_rate 121 = .ok (.ldc 49, 2) := by decide +kernel
theorem dX4_rate_123 : decode cX4_rate 123 = .ok (.aload_n 0, 1) := by decide +kernel
theorem dX4_rate_124 : decode cX4_rate 124 = .ok (.getfield 18, 3) := by decide +kernel
theorem dX4_rate_127 : decode cX4_rate 127 = .ok (.iconst 0, 1) := by decide +kernel
theorem dX4_rate_128 : decode cX4_rate 128 = .ok (.iaload, 1) := by decide +kernel
theorem dX4_rate_129 : decode cX4_rate 129 = .ok (.invokestatic 22, 3) := by decide +kernel
theorem dX4_rate_132 : decode cX4_rate 132 = .ok (.invokestatic 28, 3) := by decide +kernel
theorem dX4_rate_135 : decode cX4_rate 135 = .ok (.ireturn, 1) := by decide +kernel
theorem dX4_operand_0 : decode cX4_operand 0 = .ok (.iload_n 0, 1) := by decide +kernel
theorem dX4_operand_1 : decode cX4_operand 1 = .ok (.tableswitch 33 (-3) (-1) #[31, 29, 27], 27) := by decide +kernel
theorem dX4_operand_28 : decode cX4_operand 28 = .ok (.iload_n 1, 1) := by decide +kernel
theorem dX4_operand_29 : decode cX4_operand 29 = .ok (.ireturn, 1) := by decide +kernel
theorem dX4_operand_30 : decode cX4_operand 30 = .ok (.iload_n 2, 1) := by decide +kernel
theorem dX4_operand_31 : decode cX4_operand 31 = .ok (.ireturn, 1) := by decide +kernel
theorem dX4_operand_32 : decode cX4_operand 32 = .ok (.iload_n 3, 1) := by decide +kernel
theorem dX4_operand_33 : decode cX4_operand 33 = .ok (.ireturn, 1) := by decide +kernel
theorem dX4_operand_34 : decode cX4_operand 34 = .ok (.iload_n 0, 1) := by decide +kernel
theorem dX4_operand_35 : decode cX4_operand 35 = .ok (.ireturn, 1) := by decide +kernel
theorem dX4_result_0 : decode cX4_result 0 = .ok (.iload_n 0, 1) := by decide +kernel
theorem dX4_result_1 : decode cX4_result 1 = .ok (.tableswitch 54 (-6) (-4) #[45, 36, 27], 27) := by decide +kernel
theorem dX4_result_28 : decode cX4_result 28 = .ok (.iload_n 1, 1) := by decide +kernel
theorem dX4_result_29 : decode cX4_result 29 = .ok (.i2l, 1) := by decide +kernel
theorem dX4_result_30 : decode cX4_result 30 = .ok (.iload_n 2, 1) := by decide +kernel
theorem dX4_result_31 : decode cX4_result 31 = .ok (.i2l, 1) := by decide +kernel
theorem dX4_result_32 : decode cX4_result 32 = .ok (.ladd, 1) := by decide +kernel
theorem dX4_result_33 : decode cX4_result 33 = .ok (.lstore_n 3, 1) := by decide +kernel
theorem dX4_result_34 : decode cX4_result 34 = .ok (.goto 34, 3) := by decide +kernel
theorem dX4_result_37 : decode cX4_result 37 = .ok (.iload_n 1, 1) := by decide +kernel
theorem dX4_result_38 : decode cX4_result 38 = .ok (.i2l, 1) := by decide +kernel
theorem dX4_result_39 : decode cX4_result 39 = .ok (.iload_n 2, 1) := by decide +kernel
theorem dX4_result_40 : decode cX4_result 40 = .ok (.i2l, 1) := by decide +kernel
theorem dX4_result_41 : decode cX4_result 41 = .ok (.lsub, 1) := by decide +kernel
theorem dX4_result_42 : decode cX4_result 42 = .ok (.lstore_n 3, 1) := by decide +kernel
theorem dX4_result_43 : decode cX4_result 43 = .ok (.goto 25, 3) := by decide +kernel
theorem dX4_result_46 : decode cX4_result 46 = .ok (.iload_n 1, 1) := by decide +kernel
theorem dX4_result_47 : decode cX4_result 47 = .ok (.i2l, 1) := by decide +kernel
theorem dX4_result_48 : decode cX4_result 48 = .ok (.iload_n 2, 1) := by decide +kernel
theorem dX4_result_49 : decode cX4_result 49 = .ok (.i2l, 1) := by decide +kernel
theorem dX4_result_50 : decode cX4_result 50 = .ok (.lmul, 1) := by decide +kernel
theorem dX4_result_51 : decode cX4_result 51 = .ok (.lstore_n 3, 1) := by decide +kernel
theorem dX4_result_52 : decode cX4_result 52 = .ok (.goto 16, 3) := by decide +kernel
theorem dX4_result_55 : decode cX4_result 55 = .ok (.iload_n 2, 1) := by decide +kernel
theorem dX4_result_56 : decode cX4_result 56 = .ok (.ifCond .ne 7, 3) := by decide +kernel
theorem dX4_result_59 : decode cX4_result 59 = .ok (.lconst 0, 1) := by decide +kernel
theorem dX4_result_60 : decode cX4_result 60 = .ok (.goto 7, 3) := by decide +kernel
theorem dX4_result_63 : decode cX4_result 63 = .ok (.iload_n 1, 1) := by decide +kernel
theorem dX4_result_64 : decode cX4_result 64 = .ok (.iload_n 2, 1) := by decide +kernel
theorem dX4_result_65 : decode cX4_result 65 = .ok (.idiv, 1) := by decide +kernel
theorem dX4_result_66 : decode cX4_result 66 = .ok (.i2l, 1) := by decide +kernel
theorem dX4_result_67 : decode cX4_result 67 = .ok (.lstore_n 3, 1) := by decide +kernel
theorem dX4_result_68 : decode cX4_result 68 = .ok (.ldc2_w 50, 3) := by decide +kernel
theorem dX4_result_71 : decode cX4_result 71 = .ok (.ldc2_w 52, 3) := by decide +kernel
theorem dX4_result_74 : decode cX4_result 74 = .ok (.lload_n 3, 1) := by decide +kernel
theorem dX4_result_75 : decode cX4_result 75 = .ok (.invokestatic 54, 3) := by decide +kernel
theorem dX4_result_78 : decode cX4_result 78 = .ok (.invokestatic 57, 3) := by decide +kernel
theorem dX4_result_81 : decode cX4_result 81 = .ok (.l2i, 1) := by decide +kernel
theorem dX4_result_82 : decode cX4_result 82 = .ok (.ireturn, 1) := by decide +kernel
theorem dX5_init_0 : decode cX5_init 0 = .ok (.aload_n 0, 1) := by decide +kernel
theorem dX5_init_1 : decode cX5_init 1 = .ok (.invokespecial 3, 3) := by decide +kernel
theorem dX5_init_4 : decode cX5_init 4 = .ok (.aload_n 0, 1) := by decide +kernel
theorem dX5_init_5 : decode cX5_init 5 = .ok (.iconst 0, 1) := by decide +kernel
theorem dX5_init_6 : decode cX5_init 6 = .ok (.putfield 9, 3) := by decide +kernel
theorem dX5_init_9 : decode cX5_init 9 = .ok (.aload_n 0, 1) := by decide +kernel
theorem dX5_init_10 : decode cX5_init 10 = .ok (.bipush 9, 2) := by decide +kernel
theorem dX5_init_12 : decode cX5_init 12 = .ok (.newarray .long, 2) := by decide +kernel
theorem dX5_init_14 : decode cX5_init 14 = .ok (.putfield 15, 3) := by decide +kernel
theorem dX5_init_17 : decode cX5_init 17 = .ok (.aload_n 0, 1) := by decide +kernel
theorem dX5_init_18 : decode cX5_init 18 = .ok (.new 19, 3) := by decide +kernel
theorem dX5_init_21 : decode cX5_init 21 = .ok (.dup, 1) := by decide +kernel
theorem dX5_init_22 : decode cX5_init 22 = .ok (.invokespecial 21, 3) := by decide +kernel
theorem dX5_init_25 : decode cX5_init 25 = .ok (.putfield 22, 3) := by decide +kernel
theorem dX5_init_28 : decode cX5_init 28 = .ok (.aload_n 0, 1) := by decide +kernel
theorem dX5_init_29 : decode cX5_init 29 = .ok (.new 26, 3) := by decide +kernel
theorem dX5_init_32 : decode cX5_init 32 = .ok (.dup, 1) := by decide +kernel
theorem dX5_init_33 : decode cX5_init 33 = .ok (.iconst 0, 1) := by decide +kernel
theorem dX5_init_34 : decode cX5_init 34 = .ok (.invokespecial 28, 3) := by decide +kernel
theorem dX5_init_37 : decode cX5_init 37 = .ok (.putfield 31, 3) := by decide +kernel
theorem dX5_init_40 : decode cX5_init 40 = .ok (.aload_n 0, 1) := by decide +kernel
theorem dX5_init_41 : decode cX5_init 41 = .ok (.new 35, 3) := by decide +kernel
theorem dX5_init_44 : decode cX5_init 44 = .ok (.dup, 1) := by decide +kernel
theorem dX5_init_45 : decode cX5_init 45 = .ok (.invokespecial 37, 3) := by decide +kernel
theorem dX5_init_48 : decode cX5_init 48 = .ok (.putfield 38, 3) := by decide +kernel
theorem dX5_init_51 : decode cX5_init 51 = .ok (.aload_n 0, 1) := by decide +kernel
theorem dX5_init_52 : decode cX5_init 52 = .ok (.new 42, 3) := by decide +kernel
theorem dX5_init_55 : decode cX5_init 55 = .ok (.dup, 1) := by decide +kernel
theorem dX5_init_56 : decode cX5_init 56 = .ok (.invokespecial 44, 3) := by decide +kernel
theorem dX5_init_59 : decode cX5_init 59 = .ok (.putfield 45, 3) := by decide +kernel
theorem dX5_init_62 : decode cX5_init 62 = .ok (.aload_n 0, 1) := by decide +kernel
theorem dX5_init_63 : decode cX5_init 63 = .ok (.new 49, 3) := by decide +kernel
theorem dX5_init_66 : decode cX5_init 66 = .ok (.dup, 1) := by decide +kernel
theorem dX5_init_67 : decode cX5_init 67 = .ok (.invokespecial 51, 3) := by decide +kernel
theorem dX5_init_70 : decode cX5_init 70 = .ok (.putfield 52, 3) := by decide +kernel
theorem dX5_init_73 : decode cX5_init 73 = .ok (.aload_n 0, 1) := by decide +kernel
theorem dX5_init_74 : decode cX5_init 74 = .ok (.new 56, 3) := by decide +kernel
theorem dX5_init_77 : decode cX5_init 77 = .ok (.dup, 1) := by decide +kernel
theorem dX5_init_78 : decode cX5_init 78 = .ok (.invokespecial 58, 3) := by decide +kernel
theorem dX5_init_81 : decode cX5_init 81 = .ok (.putfield 59, 3) := by decide +kernel
theorem dX5_init_84 : decode cX5_init 84 = .ok (.aload_n 0, 1) := by decide +kernel
theorem dX5_init_85 : decode cX5_init 85 = .ok (.bipush 40, 2) := by decide +kernel
theorem dX5_init_87 : decode cX5_init 87 = .ok (.newarray .int, 2) := by decide +kernel
theorem dX5_init_89 : decode cX5_init 89 = .ok (.putfield 63, 3) := by decide +kernel
theorem dX5_init_92 : decode cX5_init 92 = .ok (.return_, 1) := by decide +kernel
theorem dX5_clear_0 : decode cX5_clear 0 = .ok (.aload_n 0, 1) := by decide +kernel
theorem dX5_clear_1 : decode cX5_clear 1 = .ok (.iconst 0, 1) := by decide +kernel
theorem dX5_clear_2 : decode cX5_clear 2 = .ok (.putfield 9, 3) := by decide +kernel
theorem dX5_clear_5 : decode cX5_clear 5 = .ok (.iconst 0, 1) := by decide +kernel
theorem dX5_clear_6 : decode cX5_clear 6 = .ok (.istore_n 2, 1) := by decide +kernel
theorem dX5_clear_7 : decode cX5_clear 7 = .ok (.iload_n 2, 1) := by decide +kernel
theorem dX5_clear_8 : decode cX5_clear 8 = .ok (.aload_n 0, 1) := by decide +kernel
theorem dX5_clear_9 : decode cX5_clear 9 = .ok (.getfield 15, 3) := by decide +kernel
theorem dX5_clear_12 : decode cX5_clear 12 = .ok (.arraylength, 1) := by decide +kernel
theorem dX5_clear_13 : decode cX5_clear 13 = .ok (.if_icmp .ge 16, 3) := by decide +kernel
theorem dX5_clear_16 : decode cX5_clear 16 = .ok (.aload_n 0, 1) := by decide +kernel
theorem dX5_clear_17 : decode cX5_clear 17 = .ok (.getfield 15, 3) := by decide +kernel
theorem dX5_clear_20 : decode cX5_clear 20 = .ok (.iload_n 2, 1) := by decide +kernel
theorem dX5_clear_21 : decode cX5_clear 21 = .ok (.lconst 0, 1) := by decide +kernel
theorem dX5_clear_22 : decode cX5_clear 22 = .ok (.lastore, 1) := by decide +kernel
theorem dX5_clear_23 : decode cX5_clear 23 = .ok (.iinc 2 1, 3) := by decide +kernel
theorem dX5_clear_26 : decode cX5_clear 26 = .ok (.goto (-19), 3) := by decide +kernel
theorem dX5_clear_29 : decode cX5_clear 29 = .ok (.aload_n 0, 1) := by decide +kernel
theorem dX5_clear_30 : decode cX5_clear 30 = .ok (.getfield 22, 3) := by decide +kernel
theorem dX5_clear_33 : decode cX5_clear 33 = .ok (.iconst 0, 1) := by decide +kernel
theorem dX5_clear_34 : decode cX5_clear 34 = .ok (.putfield 67, 3) := by decide +kernel
theorem dX5_clear_37 : decode cX5_clear 37 = .ok (.aload_n 0, 1) := by decide +kernel
theorem dX5_clear_38 : decode cX5_clear 38 = .ok (.new 26, 3) := by decide +kernel
theorem dX5_clear_41 : decode cX5_clear 41 = .ok (.dup, 1) := by decide +kernel
theorem dX5_clear_42 : decode cX5_clear 42 = .ok (.iload_n 1, 1) := by decide +kernel
theorem dX5_clear_43 : decode cX5_clear 43 = .ok (.invokespecial 28, 3) := by decide +kernel
theorem dX5_clear_46 : decode cX5_clear 46 = .ok (.putfield 31, 3) := by decide +kernel
theorem dX5_clear_49 : decode cX5_clear 49 = .ok (.aload_n 0, 1) := by decide +kernel
theorem dX5_clear_50 : decode cX5_clear 50 = .ok (.getfield 38, 3) := by decide +kernel
theorem dX5_clear_53 : decode cX5_clear 53 = .ok (.invokevirtual 70, 3) := by decide +kernel
theorem dX5_clear_56 : decode cX5_clear 56 = .ok (.aload_n 0, 1) := by decide +kernel
theorem dX5_clear_57 : decode cX5_clear 57 = .ok (.getfield 45, 3) := by decide +kernel
theorem dX5_clear_60 : decode cX5_clear 60 = .ok (.iconst 0, 1) := by decide +kernel
theorem dX5_clear_61 : decode cX5_clear 61 = .ok (.putfield 73, 3) := by decide +kernel
theorem dX5_clear_64 : decode cX5_clear 64 = .ok (.aload_n 0, 1) := by decide +kernel
theorem dX5_clear_65 : decode cX5_clear 65 = .ok (.getfield 52, 3) := by decide +kernel
theorem dX5_clear_68 : decode cX5_clear 68 = .ok (.iconst 0, 1) := by decide +kernel
theorem dX5_clear_69 : decode cX5_clear 69 = .ok (.putfield 74, 3) := by decide +kernel
theorem dX5_clear_72 : decode cX5_clear 72 = .ok (.aload_n 0, 1) := by decide +kernel
theorem dX5_clear_73 : decode cX5_clear 73 = .ok (.getfield 59, 3) := by decide +kernel
theorem dX5_clear_76 : decode cX5_clear 76 = .ok (.iconst 0, 1) := by decide +kernel
theorem dX5_clear_77 : decode cX5_clear 77 = .ok (.putfield 75, 3) := by decide +kernel
theorem dX5_clear_80 : decode cX5_clear 80 = .ok (.return_, 1) := by decide +kernel
theorem dX5_copyFrom_0 : decode cX5_copyFrom 0 = .ok (.aload_n 0, 1) := by decide +kernel
theorem dX5_copyFrom_1 : decode cX5_copyFrom 1 = .ok (.aload_n 1, 1) := by decide +kernel
theorem dX5_copyFrom_2 : decode cX5_copyFrom 2 = .ok (.getfield 9, 3) := by decide +kernel
theorem dX5_copyFrom_5 : decode cX5_copyFrom 5 = .ok (.putfield 9, 3) := by decide +kernel
theorem dX5_copyFrom_8 : decode cX5_copyFrom 8 = .ok (.aload_n 1, 1) := by decide +kernel
theorem dX5_copyFrom_9 : decode cX5_copyFrom 9 = .ok (.getfield 15, 3) := by decide +kernel
theorem dX5_copyFrom_12 : decode cX5_copyFrom 12 = .ok (.iconst 0, 1) := by decide +kernel
theorem dX5_copyFrom_13 : decode cX5_copyFrom 13 = .ok (.aload_n 0, 1) := by decide +kernel
theorem dX5_copyFrom_14 : decode cX5_copyFrom 14 = .ok (.getfield 15, 3) := by decide +kernel
theorem dX5_copyFrom_17 : decode cX5_copyFrom 17 = .ok (.iconst 0, 1) := by decide +kernel
theorem dX5_copyFrom_18 : decode cX5_copyFrom 18 = .ok (.aload_n 0, 1) := by decide +kernel
theorem dX5_copyFrom_19 : decode cX5_copyFrom 19 = .ok (.getfield 15, 3) := by decide +kernel
theorem dX5_copyFrom_22 : decode cX5_copyFrom 22 = .ok (.arraylength, 1) := by decide +kernel
theorem dX5_copyFrom_23 : decode cX5_copyFrom 23 = .ok (.invokestatic 76, 3) := by decide +kernel
theorem dX5_copyFrom_26 : decode cX5_copyFrom 26 = .ok (.aload_n 0, 1) := by decide +kernel
theorem dX5_copyFrom_27 : decode cX5_copyFrom 27 = .ok (.getfield 22, 3) := by decide +kernel
theorem dX5_copyFrom_30 : decode cX5_copyFrom 30 = .ok (.aload_n 1, 1) := by decide +kernel
theorem dX5_copyFrom_31 : decode cX5_copyFrom 31 = .ok (.getfield 22, 3) := by decide +kernel
theorem dX5_copyFrom_34 : decode cX5_copyFrom 34 = .ok (.invokevirtual 82, 3) := by decide +kernel
theorem dX5_copyFrom_37 : decode cX5_copyFrom 37 = .ok (.aload_n 0, 1) := by decide +kernel
theorem dX5_copyFrom_38 : decode cX5_copyFrom 38 = .ok (.aload_n 1, 1) := by decide +kernel
theorem dX5_copyFrom_39 : decode cX5_copyFrom 39 = .ok (.getfield 31, 3) := by decide +kernel
theorem dX5_copyFrom_42 : decode cX5_copyFrom 42 = .ok (.putfield 31, 3) := by decide +kernel
theorem dX5_copyFrom_45 : decode cX5_copyFrom 45 = .ok (.aload_n 0, 1) := by decide +kernel
theorem dX5_copyFrom_46 : decode cX5_copyFrom 46 = .ok (.getfield 38, 3) := by decide +kernel
theorem dX5_copyFrom_49 : decode cX5_copyFrom 49 = .ok (.aload_n 1, 1) := by decide +kernel
theorem dX5_copyFrom_50 : decode cX5_copyFrom 50 = .ok (.getfield 38, 3) := by decide +kernel
theorem dX5_copyFrom_53 : decode cX5_copyFrom 53 = .ok (.invokevirtual 86, 3) := by decide +kernel
theorem dX5_copyFrom_56 : decode cX5_copyFrom 56 = .ok (.aload_n 0, 1) := by decide +kernel
theorem dX5_copyFrom_57 : decode cX5_copyFrom 57 = .ok (.getfield 45, 3) := by decide +kernel
theorem dX5_copyFrom_60 : decode cX5_copyFrom 60 = .ok (.aload_n 1, 1) := by decide +kernel
theorem dX5_copyFrom_61 : decode cX5_copyFrom 61 = .ok (.getfield 45, 3) := by decide +kernel
theorem dX5_copyFrom_64 : decode cX5_copyFrom 64 = .ok (.invokevirtual 89, 3) := by decide +kernel
theorem dX5_copyFrom_67 : decode cX5_copyFrom 67 = .ok (.aload_n 0, 1) := by decide +kernel
theorem dX5_copyFrom_68 : decode cX5_copyFrom 68 = .ok (.getfield 52, 3) := by decide +kernel
theorem dX5_copyFrom_71 : decode cX5_copyFrom 71 = .ok (.aload_n 1, 1) := by decide +kernel
theorem dX5_copyFrom_72 : decode cX5_copyFrom 72 = .ok (.getfield 52, 3) := by decide +kernel
theorem dX5_copyFrom_75 : decode cX5_copyFrom 75 = .ok (.invokevirtual 92, 3) := by decide +kernel
theorem dX5_copyFrom_78 : decode cX5_copyFrom 78 = .ok (.aload_n 0, 1) := by decide +kernel
theorem dX5_copyFrom_79 : decode cX5_copyFrom 79 = .ok (.getfield 59, 3) := by decide +kernel
theorem dX5_copyFrom_82 : decode cX5_copyFrom 82 = .ok (.aload_n 1, 1) := by decide +kernel
theorem dX5_copyFrom_83 : decode cX5_copyFrom 83 = .ok (.getfield 59, 3) := by decide +kernel
theorem dX5_copyFrom_86 : decode cX5_copyFrom 86 = .ok (.invokevirtual 95, 3) := by decide +kernel
theorem dX5_copyFrom_89 : decode cX5_copyFrom 89 = .ok (.return_, 1) := by decide +kernel
theorem dX5_presentSumOf_0 : decode cX5_presentSumOf 0 = .ok (.lconst 0, 1) := by decide +kernel
theorem dX5_presentSumOf_1 : decode cX5_presentSumOf 1 = .ok (.lstore_n 2, 1) := by decide +kernel
theorem dX5_presentSumOf_2 : decode cX5_presentSumOf 2 = .ok (.iconst 0, 1) := by decide +kernel
theorem dX5_presentSumOf_3 : decode cX5_presentSumOf 3 = .ok (.istore 4, 2) := by decide +kernel
theorem dX5_presentSumOf_5 : decode cX5_presentSumOf 5 = .ok (.iload 4, 2) := by decide +kernel
theorem dX5_presentSumOf_7 : decode cX5_presentSumOf 7 = .ok (.aload_n 0, 1) := by decide +kernel
theorem dX5_presentSumOf_8 : decode cX5_presentSumOf 8 = .ok (.getfield 38, 3) := by decide +kernel
theorem dX5_presentSumOf_11 : decode cX5_presentSumOf 11 = .ok (.getfield 98, 3) := by decide +kernel
theorem dX5_presentSumOf_14 : decode cX5_presentSumOf 14 = .ok (.iload_n 1, 1) := by decide +kernel
theorem dX5_presentSumOf_15 : decode cX5_presentSumOf 15 = .ok (.iaload, 1) := by decide +kernel
theorem dX5_presentSumOf_16 : decode cX5_presentSumOf 16 = .ok (.if_icmp .ge 43, 3) := by decide +kernel
theorem dX5_presentSumOf_19 : decode cX5_presentSumOf 19 = .ok (.iload_n 1, 1) := by decide +kernel
theorem dX5_presentSumOf_20 : decode cX5_presentSumOf 20 = .ok (.iload 4, 2) := by decide +kernel
theorem dX5_presentSumOf_22 : decode cX5_presentSumOf 22 = .ok (.invokestatic 100, 3) := by decide +kernel
theorem dX5_presentSumOf_25 : decode cX5_presentSumOf 25 = .ok (.istore 5, 2) := by decide +kernel
theorem dX5_presentSumOf_27 : decode cX5_presentSumOf 27 = .ok (.lload_n 2, 1) := by decide +kernel
theorem dX5_presentSumOf_28 : decode cX5_presentSumOf 28 = .ok (.aload_n 0, 1) := by decide +kernel
theorem dX5_presentSumOf_29 : decode cX5_presentSumOf 29 = .ok (.getfield 38, 3) := by decide +kernel
theorem dX5_presentSumOf_32 : decode cX5_presentSumOf 32 = .ok (.iload 5, 2) := by decide +kernel
theorem dX5_presentSumOf_34 : decode cX5_presentSumOf 34 = .ok (.aload_n 0, 1) := by decide +kernel
theorem dX5_presentSumOf_35 : decode cX5_presentSumOf 35 = .ok (.getfield 38, 3) := by decide +kernel
theorem dX5_presentSumOf_38 : decode cX5_presentSumOf 38 = .ok (.getfield 104, 3) := by decide +kernel
theorem dX5_presentSumOf_41 : decode cX5_presentSumOf 41 = .ok (.iload 5, 2) := by decide +kernel
theorem dX5_presentSumOf_43 : decode cX5_presentSumOf 43 = .ok (.iaload, 1) := by decide +kernel
theorem dX5_presentSumOf_44 : decode cX5_presentSumOf 44 = .ok (.aload_n 0, 1) := by decide +kernel
theorem dX5_presentSumOf_45 : decode cX5_presentSumOf 45 = .ok (.getfield 31, 3) := by decide +kernel
theorem dX5_presentSumOf_48 : decode cX5_presentSumOf 48 = .ok (.invokevirtual 107, 3) := by decide +kernel
theorem dX5_presentSumOf_51 : decode cX5_presentSumOf 51 = .ok (.ladd, 1) := by decide +kernel
theorem dX5_presentSumOf_52 : decode cX5_presentSumOf 52 = .ok (.lstore_n 2, 1) := by decide +kernel
theorem dX5_presentSumOf_53 : decode cX5_presentSumOf 53 = .ok (.iinc 4 1, 3) := by decide +kernel
theorem dX5_presentSumOf_56 : decode cX5_presentSumOf 56 = .ok (.goto (-51), 3) := by decide +kernel
theorem dX5_presentSumOf_59 : decode cX5_presentSumOf 59 = .ok (.lload_n 2, 1) := by decide +kernel
theorem dX5_presentSumOf_60 : decode cX5_presentSumOf 60 = .ok (.lreturn, 1) := by decide +kernel
theorem dX5_grossOf_0 : decode cX5_grossOf 0 = .ok (.lconst 0, 1) := by decide +kernel
theorem dX5_grossOf_1 : decode cX5_grossOf 1 = .ok (.lstore_n 2, 1) := by decide +kernel
theorem dX5_grossOf_2 : decode cX5_grossOf 2 = .ok (.iconst 0, 1) := by decide +kernel
theorem dX5_grossOf_3 : decode cX5_grossOf 3 = .ok (.istore 4, 2) := by decide +kernel
theorem dX5_grossOf_5 : decode cX5_grossOf 5 = .ok (.iload 4, 2) := by decide +kernel
theorem dX5_grossOf_7 : decode cX5_grossOf 7 = .ok (.aload_n 0, 1) := by decide +kernel
theorem dX5_grossOf_8 : decode cX5_grossOf 8 = .ok (.getfield 38, 3) := by decide +kernel
theorem dX5_grossOf_11 : decode cX5_grossOf 11 = .ok (.getfield 98, 3) := by decide +kernel
theorem dX5_grossOf_14 : decode cX5_grossOf 14 = .ok (.iload_n 1, 1) := by decide +kernel
theorem dX5_grossOf_15 : decode cX5_grossOf 15 = .ok (.iaload, 1) := by decide +kernel
theorem dX5_grossOf_16 : decode cX5_grossOf 16 = .ok (.if_icmp .ge 29, 3) := by decide +kernel
theorem dX5_grossOf_19 : decode cX5_grossOf 19 = .ok (.lload_n 2, 1) := by decide +kernel
theorem dX5_grossOf_20 : decode cX5_grossOf 20 = .ok (.aload_n 0, 1) := by decide +kernel
theorem dX5_grossOf_21 : decode cX5_grossOf 21 = .ok (.getfield 38, 3) := by decide +kernel
theorem dX5_grossOf_24 : decode cX5_grossOf 24 = .ok (.iload_n 1, 1) := by decide +kernel
theorem dX5_grossOf_25 : decode cX5_grossOf 25 = .ok (.iload 4, 2) := by decide +kernel
theorem dX5_grossOf_27 : decode cX5_grossOf 27 = .ok (.invokestatic 100, 3) := by decide +kernel
theorem dX5_grossOf_30 : decode cX5_grossOf 30 = .ok (.aload_n 0, 1) := by decide +kernel
theorem dX5_grossOf_31 : decode cX5_grossOf 31 = .ok (.getfield 31, 3) := by decide +kernel
theorem dX5_grossOf_34 : decode cX5_grossOf 34 = .ok (.invokevirtual 111, 3) := by decide +kernel
theorem dX5_grossOf_37 : decode cX5_grossOf 37 = .ok (.ladd, 1) := by decide +kernel
theorem dX5_grossOf_38 : decode cX5_grossOf 38 = .ok (.lstore_n 2, 1) := by decide +kernel
theorem dX5_grossOf_39 : decode cX5_grossOf 39 = .ok (.iinc 4 1, 3) := by decide +kernel
theorem dX5_grossOf_42 : decode cX5_grossOf 42 = .ok (.goto (-37), 3) := by decide +kernel
theorem dX5_grossOf_45 : decode cX5_grossOf 45 = .ok (.lload_n 2, 1) := by decide +kernel
theorem dX5_grossOf_46 : decode cX5_grossOf 46 = .ok (.lreturn, 1) := by decide +kernel
theorem dX5_retentionOf_0 : decode cX5_retentionOf 0 = .ok (.lload_n 2, 1) := by decide +kernel
theorem dX5_retentionOf_1 : decode cX5_retentionOf 1 = .ok (.aload_n 0, 1) := by decide +kernel
theorem dX5_retentionOf_2 : decode cX5_retentionOf 2 = .ok (.getfield 22, 3) := by decide +kernel
theorem dX5_retentionOf_5 : decode cX5_retentionOf 5 = .ok (.getfield 115, 3) := by decide +kernel
theorem dX5_retentionOf_8 : decode cX5_retentionOf 8 = .ok (.iload_n 1, 1) := by decide +kernel
theorem dX5_retentionOf_9 : decode cX5_retentionOf 9 = .ok (.iaload, 1) := by decide +kernel
theorem dX5_retentionOf_10 : decode cX5_retentionOf 10 = .ok (.i2l, 1) := by decide +kernel
theorem dX5_retentionOf_11 : decode cX5_retentionOf 11 = .ok (.lmul, 1) := by decide +kernel
theorem dX5_retentionOf_12 : decode cX5_retentionOf 12 = .ok (.ldc2_w 118, 3) := by decide +kernel
theorem dX5_retentionOf_15 : decode cX5_retentionOf 15 = .ok (.ldiv, 1) := by decide +kernel
theorem dX5_retentionOf_16 : decode cX5_retentionOf 16 = .ok (.lstore 4, 2) := by decide +kernel
theorem dX5_retentionOf_18 : decode cX5_retentionOf 18 = .ok (.aload_n 0, 1) := by decide +kernel
theorem dX5_retentionOf_19 : decode cX5_retentionOf 19 = .ok (.getfield 38, 3) := by decide +kernel
theorem dX5_retentionOf_22 : decode cX5_retentionOf 22 = .ok (.iload_n 1, 1) := by decide +kernel
theorem dX5_retentionOf_23 : decode cX5_retentionOf 23 = .ok (.invokevirtual 120, 3) := by decide +kernel
theorem dX5_retentionOf_26 : decode cX5_retentionOf 26 = .ok (.aload_n 0, 1) := by decide +kernel
theorem dX5_retentionOf_27 : decode cX5_retentionOf 27 = .ok (.getfield 22, 3) := by decide +kernel
theorem dX5_retentionOf_30 : decode cX5_retentionOf 30 = .ok (.getfield 124, 3) := by decide +kernel
theorem dX5_retentionOf_33 : decode cX5_retentionOf 33 = .ok (.iload_n 1, 1) := by decide +kernel
theorem dX5_retentionOf_34 : decode cX5_retentionOf 34 = .ok (.iaload, 1) := by decide +kernel
theorem dX5_retentionOf_35 : decode cX5_retentionOf 35 = .ok (.i2l, 1) := by decide +kernel
theorem dX5_retentionOf_36 : decode cX5_retentionOf 36 = .ok (.lmul, 1) := by decide +kernel
theorem dX5_retentionOf_37 : decode cX5_retentionOf 37 = .ok (.ldc2_w 118, 3) := by decide +kernel
theorem dX5_retentionOf_40 : decode cX5_retentionOf 40 = .ok (.ldiv, 1) := by decide +kernel
theorem dX5_retentionOf_41 : decode cX5_retentionOf 41 = .ok (.lstore 6, 2) := by decide +kernel
theorem dX5_retentionOf_43 : decode cX5_retentionOf 43 = .ok (.lload 4, 2) := by decide +kernel
theorem dX5_retentionOf_45 : decode cX5_retentionOf 45 = .ok (.lload 6, 2) := by decide +kernel
theorem dX5_retentionOf_47 : decode cX5_retentionOf 47 = .ok (.invokestatic 127, 3) := by decide +kernel
theorem dX5_retentionOf_50 : decode cX5_retentionOf 50 = .ok (.lstore 8, 2) := by decide +kernel
theorem dX5_retentionOf_52 : decode cX5_retentionOf 52 = .ok (.aload_n 0, 1) := by decide +kernel
theorem dX5_retentionOf_53 : decode cX5_retentionOf 53 = .ok (.getfield 22, 3) := by decide +kernel
theorem dX5_retentionOf_56 : decode cX5_retentionOf 56 = .ok (.getfield 133, 3) := by decide +kernel
theorem dX5_retentionOf_59 : decode cX5_retentionOf 59 = .ok (.iload_n 1, 1) := by decide +kernel
theorem dX5_retentionOf_60 : decode cX5_retentionOf 60 = .ok (.iaload, 1) := by decide +kernel
theorem dX5_retentionOf_61 : decode cX5_retentionOf 61 = .ok (.lookupswitch 37 #[(0, 27), (1, 30)], 27) := by decide +kernel
theorem dX5_retentionOf_88 : decode cX5_retentionOf 88 = .ok (.lload 8, 2) := by decide +kernel
theorem dX5_retentionOf_90 : decode cX5_retentionOf 90 = .ok (.lreturn, 1) := by decide +kernel
theorem dX5_retentionOf_91 : decode cX5_retentionOf 91 = .ok (.lload 8, 2) := by decide +kernel
theorem dX5_retentionOf_93 : decode cX5_retentionOf 93 = .ok (.ldc2_w 136, 3) := by decide +kernel
theorem dX5_retentionOf_96 : decode cX5_retentionOf 96 = .ok (.ldiv, 1) := by decide +kernel
theorem dX5_retentionOf_97 : decode cX5_retentionOf 97 = .ok (.lreturn, 1) := by decide +kernel
theorem dX5_retentionOf_98 : decode cX5_retentionOf 98 = .ok (.lconst 0, 1) := by decide +kernel
theorem dX5_retentionOf_99 : decode cX5_retentionOf 99 = .ok (.lreturn, 1) := by decide +kernel
theorem dX5_amountToCertify_0 : decode cX5_amountToCertify 0 = .ok (.aload_n 0, 1) := by decide +kernel
theorem dX5_amountToCertify_1 : decode cX5_amountToCertify 1 = .ok (.iload_n 1, 1) := by decide +kernel
theorem dX5_amountToCertify_2 : decode cX5_amountToCertify 2 = .ok (.invokevirtual 138, 3) := by decide +kernel
theorem dX5_amountToCertify_5 : decode cX5_amountToCertify 5 = .ok (.lstore_n 2, 1) := by decide +kernel
theorem dX5_amountToCertify_6 : decode cX5_amountToCertify 6 = .ok (.lload_n 2, 1) := by decide +kernel
theorem dX5_amountToCertify_7 : decode cX5_amountToCertify 7 = .ok (.aload_n 0, 1) := by decide +kernel
theorem dX5_amountToCertify_8 : decode cX5_amountToCertify 8 = .ok (.iload_n 1, 1) := by decide +kernel
theorem dX5_amountToCertify_9 : decode cX5_amountToCertify 9 = .ok (.lload_n 2, 1) := by decide +kernel
theorem dX5_amountToCertify_10 : decode cX5_amountToCertify 10 = .ok (.invokevirtual 141, 3) := by decide +kernel
theorem dX5_amountToCertify_13 : decode cX5_amountToCertify 13 = .ok (.lsub, 1) := by decide +kernel
theorem dX5_amountToCertify_14 : decode cX5_amountToCertify 14 = .ok (.lstore 4, 2) := by decide +kernel
theorem dX5_amountToCertify_16 : decode cX5_amountToCertify 16 = .ok (.lload 4, 2) := by decide +kernel
theorem dX5_amountToCertify_18 : decode cX5_amountToCertify 18 = .ok (.aload_n 0, 1) := by decide +kernel
theorem dX5_amountToCertify_19 : decode cX5_amountToCertify 19 = .ok (.getfield 52, 3) := by decide +kernel
theorem dX5_amountToCertify_22 : decode cX5_amountToCertify 22 = .ok (.iload_n 1, 1) := by decide +kernel
theorem dX5_amountToCertify_23 : decode cX5_amountToCertify 23 = .ok (.invokevirtual 145, 3) := by decide +kernel
theorem dX5_amountToCertify_26 : decode cX5_amountToCertify 26 = .ok (.lsub, 1) := by decide +kernel
theorem dX5_amountToCertify_27 : decode cX5_amountToCertify 27 = .ok (.lreturn, 1) := by decide +kernel
theorem dX5_marginOf_0 : decode cX5_marginOf 0 = .ok (.aload_n 0, 1) := by decide +kernel
theorem dX5_marginOf_1 : decode cX5_marginOf 1 = .ok (.iload_n 1, 1) := by decide +kernel
theorem dX5_marginOf_2 : decode cX5_marginOf 2 = .ok (.invokevirtual 148, 3) := by decide +kernel
theorem dX5_marginOf_5 : decode cX5_marginOf 5 = .ok (.lstore_n 2, 1) := by decide +kernel
theorem dX5_marginOf_6 : decode cX5_marginOf 6 = .ok (.iconst 0, 1) := by decide +kernel
theorem dX5_marginOf_7 : decode cX5_marginOf 7 = .ok (.istore 4, 2) := by decide +kernel
theorem dX5_marginOf_9 : decode cX5_marginOf 9 = .ok (.iload 4, 2) := by decide +kernel
theorem dX5_marginOf_11 : decode cX5_marginOf 11 = .ok (.aload_n 0, 1) := by decide +kernel
theorem dX5_marginOf_12 : decode cX5_marginOf 12 = .ok (.getfield 22, 3) := by decide +kernel
theorem dX5_marginOf_15 : decode cX5_marginOf 15 = .ok (.getfield 67, 3) := by decide +kernel
theorem dX5_marginOf_18 : decode cX5_marginOf 18 = .ok (.if_icmp .ge 32, 3) := by decide +kernel
theorem dX5_marginOf_21 : decode cX5_marginOf 21 = .ok (.aload_n 0, 1) := by decide +kernel
theorem dX5_marginOf_22 : decode cX5_marginOf 22 = .ok (.getfield 22, 3) := by decide +kernel
theorem dX5_marginOf_25 : decode cX5_marginOf 25 = .ok (.getfield 151, 3) := by decide +kernel
theorem dX5_marginOf_28 : decode cX5_marginOf 28 = .ok (.iload 4, 2) := by decide +kernel
theorem dX5_marginOf_30 : decode cX5_marginOf 30 = .ok (.iaload, 1) := by decide +kernel
theorem dX5_marginOf_31 : decode cX5_marginOf 31 = .ok (.iload_n 1, 1) := by decide +kernel
theorem dX5_marginOf_32 : decode cX5_marginOf 32 = .ok (.if_icmp .ne 12, 3) := by decide +kernel
theorem dX5_marginOf_35 : decode cX5_marginOf 35 = .ok (.lload_n 2, 1) := by decide +kernel
theorem dX5_marginOf_36 : decode cX5_marginOf 36 = .ok (.aload_n 0, 1) := by decide +kernel
theorem dX5_marginOf_37 : decode cX5_marginOf 37 = .ok (.iload 4, 2) := by decide +kernel
theorem dX5_marginOf_39 : decode cX5_marginOf 39 = .ok (.invokevirtual 148, 3) := by decide +kernel
theorem dX5_marginOf_42 : decode cX5_marginOf 42 = .ok (.lsub, 1) := by decide +kernel
theorem dX5_marginOf_43 : decode cX5_marginOf 43 = .ok (.lstore_n 2, 1) := by decide +kernel
theorem dX5_marginOf_44 : decode cX5_marginOf 44 = .ok (.iinc 4 1, 3) := by decide +kernel
theorem dX5_marginOf_47 : decode cX5_marginOf 47 = .ok (.goto (-38), 3) := by decide +kernel
theorem dX5_marginOf_50 : decode cX5_marginOf 50 = .ok (.lload_n 2, 1) := by decide +kernel
theorem dX5_marginOf_51 : decode cX5_marginOf 51 = .ok (.lreturn, 1) := by decide +kernel
theorem dX5_overdueOf_0 : decode cX5_overdueOf 0 = .ok (.aload_n 0, 1) := by decide +kernel
theorem dX5_overdueOf_1 : decode cX5_overdueOf 1 = .ok (.getfield 52, 3) := by decide +kernel
theorem dX5_overdueOf_4 : decode cX5_overdueOf 4 = .ok (.iload_n 1, 1) := by decide +kernel
theorem dX5_overdueOf_5 : decode cX5_overdueOf 5 = .ok (.aload_n 0, 1) := by decide +kernel
theorem dX5_overdueOf_6 : decode cX5_overdueOf 6 = .ok (.getfield 9, 3) := by decide +kernel
theorem dX5_overdueOf_9 : decode cX5_overdueOf 9 = .ok (.invokevirtual 154, 3) := by decide +kernel
theorem dX5_overdueOf_12 : decode cX5_overdueOf 12 = .ok (.lreturn, 1) := by decide +kernel
theorem dX5_quantityWith_0 : decode cX5_quantityWith 0 = .ok (.aload_n 0, 1) := by decide +kernel
theorem dX5_quantityWith_1 : decode cX5_quantityWith 1 = .ok (.getfield 38, 3) := by decide +kernel
theorem dX5_quantityWith_4 : decode cX5_quantityWith 4 = .ok (.getfield 104, 3) := by decide +kernel
theorem dX5_quantityWith_7 : decode cX5_quantityWith 7 = .ok (.aload_n 0, 1) := by decide +kernel
theorem dX5_quantityWith_8 : decode cX5_quantityWith 8 = .ok (.getfield 45, 3) := by decide +kernel
theorem dX5_quantityWith_11 : decode cX5_quantityWith 11 = .ok (.getfield 158, 3) := by decide +kernel
theorem dX5_quantityWith_14 : decode cX5_quantityWith 14 = .ok (.iload_n 1, 1) := by decide +kernel
theorem dX5_quantityWith_15 : decode cX5_quantityWith 15 = .ok (.iaload, 1) := by decide +kernel
theorem dX5_quantityWith_16 : decode cX5_quantityWith 16 = .ok (.iaload, 1) := by decide +kernel
theorem dX5_quantityWith_17 : decode cX5_quantityWith 17 = .ok (.aload_n 0, 1) := by decide +kernel
theorem dX5_quantityWith_18 : decode cX5_quantityWith 18 = .ok (.getfield 45, 3) := by decide +kernel
theorem dX5_quantityWith_21 : decode cX5_quantityWith 21 = .ok (.getfield 161, 3) := by decide +kernel
theorem dX5_quantityWith_24 : decode cX5_quantityWith 24 = .ok (.iload_n 1, 1) := by decide +kernel
theorem dX5_quantityWith_25 : decode cX5_quantityWith 25 = .ok (.iaload, 1) := by decide +kernel
theorem dX5_quantityWith_26 : decode cX5_quantityWith 26 = .ok (.iadd, 1) := by decide +kernel
theorem dX5_quantityWith_27 : decode cX5_quantityWith 27 = .ok (.ireturn, 1) := by decide +kernel
theorem dX5_worthOf_0 : decode cX5_worthOf 0 = .ok (.aload_n 0, 1) := by decide +kernel
theorem dX5_worthOf_1 : decode cX5_worthOf 1 = .ok (.getfield 45, 3) := by decide +kernel
theorem dX5_worthOf_4 : decode cX5_worthOf 4 = .ok (.getfield 158, 3) := by decide +kernel
theorem dX5_worthOf_7 : decode cX5_worthOf 7 = .ok (.iload_n 1, 1) := by decide +kernel
theorem dX5_worthOf_8 : decode cX5_worthOf 8 = .ok (.iaload, 1) := by decide +kernel
theorem dX5_worthOf_9 : decode cX5_worthOf 9 = .ok (.istore_n 2, 1) := by decide +kernel
theorem dX5_worthOf_10 : decode cX5_worthOf 10 = .ok (.aload_n 0, 1) := by decide +kernel
theorem dX5_worthOf_11 : decode cX5_worthOf 11 = .ok (.iload_n 1, 1) := by decide +kernel
theorem dX5_worthOf_12 : decode cX5_worthOf 12 = .ok (.invokevirtual 164, 3) := by decide +kernel
theorem dX5_worthOf_15 : decode cX5_worthOf 15 = .ok (.istore_n 3, 1) := by decide +kernel
theorem dX5_worthOf_16 : decode cX5_worthOf 16 = .ok (.aload_n 0, 1) := by decide +kernel
theorem dX5_worthOf_17 : decode cX5_worthOf 17 = .ok (.getfield 45, 3) := by decide +kernel
theorem dX5_worthOf_20 : decode cX5_worthOf 20 = .ok (.getfield 168, 3) := by decide +kernel
theorem dX5_worthOf_23 : decode cX5_worthOf 23 = .ok (.iload_n 1, 1) := by decide +kernel
theorem dX5_worthOf_24 : decode cX5_worthOf 24 = .ok (.baload, 1) := by decide +kernel
theorem dX5_worthOf_25 : decode cX5_worthOf 25 = .ok (.ifCond .ne 7, 3) := by decide +kernel
theorem dX5_worthOf_28 : decode cX5_worthOf 28 = .ok (.iload_n 3, 1) := by decide +kernel
theorem dX5_worthOf_29 : decode cX5_worthOf 29 = .ok (.ifCond .ge 5, 3) := by decide +kernel
theorem dX5_worthOf_32 : decode cX5_worthOf 32 = .ok (.lconst 0, 1) := by decide +kernel
theorem dX5_worthOf_33 : decode cX5_worthOf 33 = .ok (.lreturn, 1) := by decide +kernel
theorem dX5_worthOf_34 : decode cX5_worthOf 34 = .ok (.aload_n 0, 1) := by decide +kernel
theorem dX5_worthOf_35 : decode cX5_worthOf 35 = .ok (.getfield 38, 3) := by decide +kernel
theorem dX5_worthOf_38 : decode cX5_worthOf 38 = .ok (.iload_n 2, 1) := by decide +kernel
theorem dX5_worthOf_39 : decode cX5_worthOf 39 = .ok (.iload_n 3, 1) := by decide +kernel
theorem dX5_worthOf_40 : decode cX5_worthOf 40 = .ok (.aload_n 0, 1) := by decide +kernel
theorem dX5_worthOf_41 : decode cX5_worthOf 41 = .ok (.getfield 31, 3) := by decide +kernel
theorem dX5_worthOf_44 : decode cX5_worthOf 44 = .ok (.invokevirtual 107, 3) := by decide +kernel
theorem dX5_worthOf_47 : decode cX5_worthOf 47 = .ok (.aload_n 0, 1) := by decide +kernel
theorem dX5_worthOf_48 : decode cX5_worthOf 48 = .ok (.getfield 38, 3) := by decide +kernel
theorem dX5_worthOf_51 : decode cX5_worthOf 51 = .ok (.iload_n 2, 1) := by decide +kernel
theorem dX5_worthOf_52 : decode cX5_worthOf 52 = .ok (.aload_n 0, 1) := by decide +kernel
theorem dX5_worthOf_53 : decode cX5_worthOf 53 = .ok (.getfield 38, 3) := by decide +kernel
theorem dX5_worthOf_56 : decode cX5_worthOf 56 = .ok (.getfield 104, 3) := by decide +kernel
theorem dX5_worthOf_59 : decode cX5_worthOf 59 = .ok (.iload_n 2, 1) := by decide +kernel
theorem dX5_worthOf_60 : decode cX5_worthOf 60 = .ok (.iaload, 1) := by decide +kernel
theorem dX5_worthOf_61 : decode cX5_worthOf 61 = .ok (.aload_n 0, 1) := by decide +kernel
theorem dX5_worthOf_62 : decode cX5_worthOf 62 = .ok (.getfield 31, 3) := by decide +kernel
theorem dX5_worthOf_65 : decode cX5_worthOf 65 = .ok (.invokevirtual 107, 3) := by decide +kernel
theorem dX5_worthOf_68 : decode cX5_worthOf 68 = .ok (.lsub, 1) := by decide +kernel
theorem dX5_worthOf_69 : decode cX5_worthOf 69 = .ok (.lreturn, 1) := by decide +kernel
theorem dX5_isHeldBack_0 : decode cX5_isHeldBack 0 = .ok (.aload_n 0, 1) := by decide +kernel
theorem dX5_isHeldBack_1 : decode cX5_isHeldBack 1 = .ok (.getfield 52, 3) := by decide +kernel
theorem dX5_isHeldBack_4 : decode cX5_isHeldBack 4 = .ok (.getfield 172, 3) := by decide +kernel
theorem dX5_isHeldBack_7 : decode cX5_isHeldBack 7 = .ok (.iload_n 1, 1) := by decide +kernel
theorem dX5_isHeldBack_8 : decode cX5_isHeldBack 8 = .ok (.iaload, 1) := by decide +kernel
theorem dX5_isHeldBack_9 : decode cX5_isHeldBack 9 = .ok (.istore_n 2, 1) := by decide +kernel
theorem dX5_isHeldBack_10 : decode cX5_isHeldBack 10 = .ok (.aload_n 0, 1) := by decide +kernel
theorem dX5_isHeldBack_11 : decode cX5_isHeldBack 11 = .ok (.getfield 22, 3) := by decide +kernel
theorem dX5_isHeldBack_14 : decode cX5_isHeldBack 14 = .ok (.getfield 175, 3) := by decide +kernel
theorem dX5_isHeldBack_17 : decode cX5_isHeldBack 17 = .ok (.iload_n 2, 1) := by decide +kernel
theorem dX5_isHeldBack_18 : decode cX5_isHeldBack 18 = .ok (.baload, 1) := by decide +kernel
theorem dX5_isHeldBack_19 : decode cX5_isHeldBack 19 = .ok (.ifCond .eq 35, 3) := by decide +kernel
theorem dX5_isHeldBack_22 : decode cX5_isHeldBack 22 = .ok (.aload_n 0, 1) := by decide +kernel
theorem dX5_isHeldBack_23 : decode cX5_isHeldBack 23 = .ok (.getfield 52, 3) := by decide +kernel
theorem dX5_isHeldBack_26 : decode cX5_isHeldBack 26 = .ok (.aload_n 0, 1) := by decide +kernel
theorem dX5_isHeldBack_27 : decode cX5_isHeldBack 27 = .ok (.getfield 22, 3) := by decide +kernel
theorem dX5_isHeldBack_30 : decode cX5_isHeldBack 30 = .ok (.getfield 151, 3) := by decide +kernel
theorem dX5_isHeldBack_33 : decode cX5_isHeldBack 33 = .ok (.iload_n 2, 1) := by decide +kernel
theorem dX5_isHeldBack_34 : decode cX5_isHeldBack 34 = .ok (.iaload, 1) := by decide +kernel
theorem dX5_isHeldBack_35 : decode cX5_isHeldBack 35 = .ok (.aload_n 0, 1) := by decide +kernel
theorem dX5_isHeldBack_36 : decode cX5_isHeldBack 36 = .ok (.getfield 52, 3) := by decide +kernel
theorem dX5_isHeldBack_39 : decode cX5_isHeldBack 39 = .ok (.getfield 178, 3) := by decide +kernel
theorem dX5_isHeldBack_42 : decode cX5_isHeldBack 42 = .ok (.iload_n 1, 1) := by decide +kernel
theorem dX5_isHeldBack_43 : decode cX5_isHeldBack 43 = .ok (.iaload, 1) := by decide +kernel
theorem dX5_isHeldBack_44 : decode cX5_isHeldBack 44 = .ok (.invokevirtual 181, 3) := by decide +kernel
theorem dX5_isHeldBack_47 : decode cX5_isHeldBack 47 = .ok (.ifCond .eq 7, 3) := by decide +kernel
theorem dX5_isHeldBack_50 : decode cX5_isHeldBack 50 = .ok (.iconst 1, 1) := by decide +kernel
theorem dX5_isHeldBack_51 : decode cX5_isHeldBack 51 = .ok (.goto 4, 3) := by decide +kernel
theorem dX5_isHeldBack_54 : decode cX5_isHeldBack 54 = .ok (.iconst 0, 1) := by decide +kernel
theorem dX5_isHeldBack_55 : decode cX5_isHeldBack 55 = .ok (.ireturn, 1) := by decide +kernel
theorem dX5_payerHolds_0 : decode cX5_payerHolds 0 = .ok (.aload_n 0, 1) := by decide +kernel
theorem dX5_payerHolds_1 : decode cX5_payerHolds 1 = .ok (.getfield 15, 3) := by decide +kernel
theorem dX5_payerHolds_4 : decode cX5_payerHolds 4 = .ok (.aload_n 0, 1) := by decide +kernel
theorem dX5_payerHolds_5 : decode cX5_payerHolds 5 = .ok (.getfield 22, 3) := by decide +kernel
theorem dX5_payerHolds_8 : decode cX5_payerHolds 8 = .ok (.getfield 151, 3) := by decide +kernel
theorem dX5_payerHolds_11 : decode cX5_payerHolds 11 = .ok (.aload_n 0, 1) := by decide +kernel
theorem dX5_payerHolds_12 : decode cX5_payerHolds 12 = .ok (.getfield 52, 3) := by decide +kernel
theorem dX5_payerHolds_15 : decode cX5_payerHolds 15 = .ok (.getfield 172, 3) := by decide +kernel
theorem dX5_payerHolds_18 : decode cX5_payerHolds 18 = .ok (.iload_n 1, 1) := by decide +kernel
theorem dX5_payerHolds_19 : decode cX5_payerHolds 19 = .ok (.iaload, 1) := by decide +kernel
theorem dX5_payerHolds_20 : decode cX5_payerHolds 20 = .ok (.iaload, 1) := by decide +kernel
theorem dX5_payerHolds_21 : decode cX5_payerHolds 21 = .ok (.iconst 1, 1) := by decide +kernel
theorem dX5_payerHolds_22 : decode cX5_payerHolds 22 = .ok (.iadd, 1) := by decide +kernel
theorem dX5_payerHolds_23 : decode cX5_payerHolds 23 = .ok (.laload, 1) := by decide +kernel
theorem dX5_payerHolds_24 : decode cX5_payerHolds 24 = .ok (.lreturn, 1) := by decide +kernel
theorem dX5_transfer_0 : decode cX5_transfer 0 = .ok (.aload_n 0, 1) := by decide +kernel
theorem dX5_transfer_1 : decode cX5_transfer 1 = .ok (.getfield 52, 3) := by decide +kernel
theorem dX5_transfer_4 : decode cX5_transfer 4 = .ok (.getfield 172, 3) := by decide +kernel
theorem dX5_transfer_7 : decode cX5_transfer 7 = .ok (.iload_n 1, 1) := by decide +kernel
theorem dX5_transfer_8 : decode cX5_transfer 8 = .ok (.iaload, 1) := by decide +kernel
theorem dX5_transfer_9 : decode cX5_transfer 9 = .ok (.istore 4, 2) := by decide +kernel
theorem dX5_transfer_11 : decode cX5_transfer 11 = .ok (.aload_n 0, 1) := by decide +kernel
theorem dX5_transfer_12 : decode cX5_transfer 12 = .ok (.getfield 15, 3) := by decide +kernel
theorem dX5_transfer_15 : decode cX5_transfer 15 = .ok (.aload_n 0, 1) := by decide +kernel
theorem dX5_transfer_16 : decode cX5_transfer 16 = .ok (.getfield 22, 3) := by decide +kernel
theorem dX5_transfer_19 : decode cX5_transfer 19 = .ok (.getfield 151, 3) := by decide +kernel
theorem dX5_transfer_22 : decode cX5_transfer 22 = .ok (.iload 4, 2) := by decide +kernel
theorem dX5_transfer_24 : decode cX5_transfer 24 = .ok (.iaload, 1) := by decide +kernel
theorem dX5_transfer_25 : decode cX5_transfer 25 = .ok (.iconst 1, 1) := by decide +kernel
theorem dX5_transfer_26 : decode cX5_transfer 26 = .ok (.iadd, 1) := by decide +kernel
theorem dX5_transfer_27 : decode cX5_transfer 27 = .ok (.dup2, 1) := by decide +kernel
theorem dX5_transfer_28 : decode cX5_transfer 28 = .ok (.laload, 1) := by decide +kernel
theorem dX5_transfer_29 : decode cX5_transfer 29 = .ok (.lload_n 2, 1) := by decide +kernel
theorem dX5_transfer_30 : decode cX5_transfer 30 = .ok (.lsub, 1) := by decide +kernel
theorem dX5_transfer_31 : decode cX5_transfer 31 = .ok (.lastore, 1) := by decide +kernel
theorem dX5_transfer_32 : decode cX5_transfer 32 = .ok (.aload_n 0, 1) := by decide +kernel
theorem dX5_transfer_33 : decode cX5_transfer 33 = .ok (.getfield 15, 3) := by decide +kernel
theorem dX5_transfer_36 : decode cX5_transfer 36 = .ok (.iload 4, 2) := by decide +kernel
theorem dX5_transfer_38 : decode cX5_transfer 38 = .ok (.iconst 1, 1) := by decide +kernel
theorem dX5_transfer_39 : decode cX5_transfer 39 = .ok (.iadd, 1) := by decide +kernel
theorem dX5_transfer_40 : decode cX5_transfer 40 = .ok (.dup2, 1) := by decide +kernel
theorem dX5_transfer_41 : decode cX5_transfer 41 = .ok (.laload, 1) := by decide +kernel
theorem dX5_transfer_42 : decode cX5_transfer 42 = .ok (.lload_n 2, 1) := by decide +kernel
theorem dX5_transfer_43 : decode cX5_transfer 43 = .ok (.ladd, 1) := by decide +kernel
theorem dX5_transfer_44 : decode cX5_transfer 44 = .ok (.lastore, 1) := by decide +kernel
theorem dX5_transfer_45 : decode cX5_transfer 45 = .ok (.aload_n 0, 1) := by decide +kernel
theorem dX5_transfer_46 : decode cX5_transfer 46 = .ok (.getfield 52, 3) := by decide +kernel
theorem dX5_transfer_49 : decode cX5_transfer 49 = .ok (.getfield 185, 3) := by decide +kernel
theorem dX5_transfer_52 : decode cX5_transfer 52 = .ok (.iload_n 1, 1) := by decide +kernel
theorem dX5_transfer_53 : decode cX5_transfer 53 = .ok (.dup2, 1) := by decide +kernel
theorem dX5_transfer_54 : decode cX5_transfer 54 = .ok (.laload, 1) := by decide +kernel
theorem dX5_transfer_55 : decode cX5_transfer 55 = .ok (.lload_n 2, 1) := by decide +kernel
theorem dX5_transfer_56 : decode cX5_transfer 56 = .ok (.lsub, 1) := by decide +kernel
theorem dX5_transfer_57 : decode cX5_transfer 57 = .ok (.lastore, 1) := by decide +kernel
theorem dX5_transfer_58 : decode cX5_transfer 58 = .ok (.return_, 1) := by decide +kernel
theorem dX5_settleUntilPaid_0 : decode cX5_settleUntilPaid 0 = .ok (.aload_n 0, 1) := by decide +kernel
theorem dX5_settleUntilPaid_1 : decode cX5_settleUntilPaid 1 = .ok (.getfield 52, 3) := by decide +kernel
theorem dX5_settleUntilPaid_4 : decode cX5_settleUntilPaid 4 = .ok (.aload_n 0, 1) := by decide +kernel
theorem dX5_settleUntilPaid_5 : decode cX5_settleUntilPaid 5 = .ok (.getfield 63, 3) := by decide +kernel
theorem dX5_settleUntilPaid_8 : decode cX5_settleUntilPaid 8 = .ok (.invokevirtual 188, 3) := by decide +kernel
theorem dX5_settleUntilPaid_11 : decode cX5_settleUntilPaid 11 = .ok (.aload_n 0, 1) := by decide +kernel
theorem dX5_settleUntilPaid_12 : decode cX5_settleUntilPaid 12 = .ok (.getfield 9, 3) := by decide +kernel
theorem dX5_settleUntilPaid_15 : decode cX5_settleUntilPaid 15 = .ok (.iload_n 1, 1) := by decide +kernel
theorem dX5_settleUntilPaid_16 : decode cX5_settleUntilPaid 16 = .ok (.iadd, 1) := by decide +kernel
theorem dX5_settleUntilPaid_17 : decode cX5_settleUntilPaid 17 = .ok (.istore_n 3, 1) := by decide +kernel
theorem dX5_settleUntilPaid_18 : decode cX5_settleUntilPaid 18 = .ok (.lconst 0, 1) := by decide +kernel
theorem dX5_settleUntilPaid_19 : decode cX5_settleUntilPaid 19 = .ok (.lstore 4, 2) := by decide +kernel
theorem dX5_settleUntilPaid_21 : decode cX5_settleUntilPaid 21 = .ok (.iconst 0, 1) := by decide +kernel
theorem dX5_settleUntilPaid_22 : decode cX5_settleUntilPaid 22 = .ok (.istore 6, 2) := by decide +kernel
theorem dX5_settleUntilPaid_24 : decode cX5_settleUntilPaid 24 = .ok (.iload 6, 2) := by decide +kernel
theorem dX5_settleUntilPaid_26 : decode cX5_settleUntilPaid 26 = .ok (.iload_n 1, 1) := by decide +kernel
theorem dX5_settleUntilPaid_27 : decode cX5_settleUntilPaid 27 = .ok (.if_icmp .ge 64, 3) := by decide +kernel
theorem dX5_settleUntilPaid_30 : decode cX5_settleUntilPaid 30 = .ok (.aload_n 0, 1) := by decide +kernel
theorem dX5_settleUntilPaid_31 : decode cX5_settleUntilPaid 31 = .ok (.getfield 9, 3) := by decide +kernel
theorem dX5_settleUntilPaid_34 : decode cX5_settleUntilPaid 34 = .ok (.iload_n 3, 1) := by decide +kernel
theorem dX5_settleUntilPaid_35 : decode cX5_settleUntilPaid 35 = .ok (.if_icmp .ge 56, 3) := by decide +kernel
theorem dX5_settleUntilPaid_38 : decode cX5_settleUntilPaid 38 = .ok (.aload_n 0, 1) := by decide +kernel
theorem dX5_settleUntilPaid_39 : decode cX5_settleUntilPaid 39 = .ok (.getfield 52, 3) := by decide +kernel
theorem dX5_settleUntilPaid_42 : decode cX5_settleUntilPaid 42 = .ok (.iload_n 2, 1) := by decide +kernel
theorem dX5_settleUntilPaid_43 : decode cX5_settleUntilPaid 43 = .ok (.invokevirtual 192, 3) := by decide +kernel
theorem dX5_settleUntilPaid_46 : decode cX5_settleUntilPaid 46 = .ok (.ifCond .ne 45, 3) := by decide +kernel
theorem dX5_settleUntilPaid_49 : decode cX5_settleUntilPaid 49 = .ok (.aload_n 0, 1) := by decide +kernel
theorem dX5_settleUntilPaid_50 : decode cX5_settleUntilPaid 50 = .ok (.invokevirtual 196, 3) := by decide +kernel
theorem dX5_settleUntilPaid_53 : decode cX5_settleUntilPaid 53 = .ok (.lstore 7, 2) := by decide +kernel
theorem dX5_settleUntilPaid_55 : decode cX5_settleUntilPaid 55 = .ok (.lload 4, 2) := by decide +kernel
theorem dX5_settleUntilPaid_57 : decode cX5_settleUntilPaid 57 = .ok (.lload 7, 2) := by decide +kernel
theorem dX5_settleUntilPaid_59 : decode cX5_settleUntilPaid 59 = .ok (.ladd, 1) := by decide +kernel
theorem dX5_settleUntilPaid_60 : decode cX5_settleUntilPaid 60 = .ok (.lstore 4, 2) := by decide +kernel
theorem dX5_settleUntilPaid_62 : decode cX5_settleUntilPaid 62 = .ok (.lload 7, 2) := by decide +kernel
theorem dX5_settleUntilPaid_64 : decode cX5_settleUntilPaid 64 = .ok (.lconst 0, 1) := by decide +kernel
theorem dX5_settleUntilPaid_65 : decode cX5_settleUntilPaid 65 = .ok (.lcmp, 1) := by decide +kernel
theorem dX5_settleUntilPaid_66 : decode cX5_settleUntilPaid 66 = .ok (.ifCond .ne 19, 3) := by decide +kernel
theorem dX5_settleUntilPaid_69 : decode cX5_settleUntilPaid 69 = .ok (.aload_n 0, 1) := by decide +kernel
theorem dX5_settleUntilPaid_70 : decode cX5_settleUntilPaid 70 = .ok (.aload_n 0, 1) := by decide +kernel
theorem dX5_settleUntilPaid_71 : decode cX5_settleUntilPaid 71 = .ok (.getfield 52, 3) := by decide +kernel
theorem dX5_settleUntilPaid_74 : decode cX5_settleUntilPaid 74 = .ok (.aload_n 0, 1) := by decide +kernel
theorem dX5_settleUntilPaid_75 : decode cX5_settleUntilPaid 75 = .ok (.getfield 9, 3) := by decide +kernel
theorem dX5_settleUntilPaid_78 : decode cX5_settleUntilPaid 78 = .ok (.iload_n 3, 1) := by decide +kernel
theorem dX5_settleUntilPaid_79 : decode cX5_settleUntilPaid 79 = .ok (.invokevirtual 200, 3) := by decide +kernel
theorem dX5_settleUntilPaid_82 : decode cX5_settleUntilPaid 82 = .ok (.putfield 9, 3) := by decide +kernel
theorem dX5_settleUntilPaid_85 : decode cX5_settleUntilPaid 85 = .ok (.iinc 6 1, 3) := by decide +kernel
theorem dX5_settleUntilPaid_88 : decode cX5_settleUntilPaid 88 = .ok (.goto (-64), 3) := by decide +kernel
theorem dX5_settleUntilPaid_91 : decode cX5_settleUntilPaid 91 = .ok (.lload 4, 2) := by decide +kernel
theorem dX5_settleUntilPaid_93 : decode cX5_settleUntilPaid 93 = .ok (.lreturn, 1) := by decide +kernel
theorem dX5_settleOneDay_0 : decode cX5_settleOneDay 0 = .ok (.lconst 0, 1) := by decide +kernel
theorem dX5_settleOneDay_1 : decode cX5_settleOneDay 1 = .ok (.lstore_n 1, 1) := by decide +kernel
theorem dX5_settleOneDay_2 : decode cX5_settleOneDay 2 = .ok (.iconst 0, 1) := by decide +kernel
theorem dX5_settleOneDay_3 : decode cX5_settleOneDay 3 = .ok (.istore_n 3, 1) := by decide +kernel
theorem dX5_settleOneDay_4 : decode cX5_settleOneDay 4 = .ok (.iload_n 3, 1) := by decide +kernel
theorem dX5_settleOneDay_5 : decode cX5_settleOneDay 5 = .ok (.aload_n 0, 1) := by decide +kernel
theorem dX5_settleOneDay_6 : decode cX5_settleOneDay 6 = .ok (.getfield 52, 3) := by decide +kernel
theorem dX5_settleOneDay_9 : decode cX5_settleOneDay 9 = .ok (.getfield 74, 3) := by decide +kernel
theorem dX5_settleOneDay_12 : decode cX5_settleOneDay 12 = .ok (.if_icmp .ge 43, 3) := by decide +kernel
theorem dX5_settleOneDay_15 : decode cX5_settleOneDay 15 = .ok (.aload_n 0, 1) := by decide +kernel
theorem dX5_settleOneDay_16 : decode cX5_settleOneDay 16 = .ok (.getfield 52, 3) := by decide +kernel
theorem dX5_settleOneDay_19 : decode cX5_settleOneDay 19 = .ok (.getfield 203, 3) := by decide +kernel
theorem dX5_settleOneDay_22 : decode cX5_settleOneDay 22 = .ok (.aload_n 0, 1) := by decide +kernel
theorem dX5_settleOneDay_23 : decode cX5_settleOneDay 23 = .ok (.getfield 63, 3) := by decide +kernel
theorem dX5_settleOneDay_26 : decode cX5_settleOneDay 26 = .ok (.iload_n 3, 1) := by decide +kernel
theorem dX5_settleOneDay_27 : decode cX5_settleOneDay 27 = .ok (.iaload, 1) := by decide +kernel
theorem dX5_settleOneDay_28 : decode cX5_settleOneDay 28 = .ok (.iaload, 1) := by decide +kernel
theorem dX5_settleOneDay_29 : decode cX5_settleOneDay 29 = .ok (.aload_n 0, 1) := by decide +kernel
theorem dX5_settleOneDay_30 : decode cX5_settleOneDay 30 = .ok (.getfield 9, 3) := by decide +kernel
theorem dX5_settleOneDay_33 : decode cX5_settleOneDay 33 = .ok (.if_icmp .gt 16, 3) := by decide +kernel
theorem dX5_settleOneDay_36 : decode cX5_settleOneDay 36 = .ok (.lload_n 1, 1) := by decide +kernel
theorem dX5_settleOneDay_37 : decode cX5_settleOneDay 37 = .ok (.aload_n 0, 1) := by decide +kernel
theorem dX5_settleOneDay_38 : decode cX5_settleOneDay 38 = .ok (.aload_n 0, 1) := by decide +kernel
theorem dX5_settleOneDay_39 : decode cX5_settleOneDay 39 = .ok (.getfield 63, 3) := by decide +kernel
theorem dX5_settleOneDay_42 : decode cX5_settleOneDay 42 = .ok (.iload_n 3, 1) := by decide +kernel
theorem dX5_settleOneDay_43 : decode cX5_settleOneDay 43 = .ok (.iaload, 1) := by decide +kernel
theorem dX5_settleOneDay_44 : decode cX5_settleOneDay 44 = .ok (.invokevirtual 206, 3) := by decide +kernel
theorem dX5_settleOneDay_47 : decode cX5_settleOneDay 47 = .ok (.ladd, 1) := by decide +kernel
theorem dX5_settleOneDay_48 : decode cX5_settleOneDay 48 = .ok (.lstore_n 1, 1) := by decide +kernel
theorem dX5_settleOneDay_49 : decode cX5_settleOneDay 49 = .ok (.iinc 3 1, 3) := by decide +kernel
theorem dX5_settleOneDay_52 : decode cX5_settleOneDay 52 = .ok (.goto (-48), 3) := by decide +kernel
theorem dX5_settleOneDay_55 : decode cX5_settleOneDay 55 = .ok (.aload_n 0, 1) := by decide +kernel
theorem dX5_settleOneDay_56 : decode cX5_settleOneDay 56 = .ok (.dup, 1) := by decide +kernel
theorem dX5_settleOneDay_57 : decode cX5_settleOneDay 57 = .ok (.getfield 9, 3) := by decide +kernel
theorem dX5_settleOneDay_60 : decode cX5_settleOneDay 60 = .ok (.iconst 1, 1) := by decide +kernel
theorem dX5_settleOneDay_61 : decode cX5_settleOneDay 61 = .ok (.iadd, 1) := by decide +kernel
theorem dX5_settleOneDay_62 : decode cX5_settleOneDay 62 = .ok (.putfield 9, 3) := by decide +kernel
theorem dX5_settleOneDay_65 : decode cX5_settleOneDay 65 = .ok (.lload_n 1, 1) := by decide +kernel
theorem dX5_settleOneDay_66 : decode cX5_settleOneDay 66 = .ok (.lreturn, 1) := by decide +kernel
theorem dX5_payFromAccount_0 : decode cX5_payFromAccount 0 = .ok (.aload_n 0, 1) := by decide +kernel
theorem dX5_payFromAccount_1 : decode cX5_payFromAccount 1 = .ok (.getfield 52, 3) := by decide +kernel
theorem dX5_payFromAccount_4 : decode cX5_payFromAccount 4 = .ok (.getfield 185, 3) := by decide +kernel
theorem dX5_payFromAccount_7 : decode cX5_payFromAccount 7 = .ok (.iload_n 1, 1) := by decide +kernel
theorem dX5_payFromAccount_8 : decode cX5_payFromAccount 8 = .ok (.laload, 1) := by decide +kernel
theorem dX5_payFromAccount_9 : decode cX5_payFromAccount 9 = .ok (.aload_n 0, 1) := by decide +kernel
theorem dX5_payFromAccount_10 : decode cX5_payFromAccount 10 = .ok (.iload_n 1, 1) := by decide +kernel
theorem dX5_payFromAccount_11 : decode cX5_payFromAccount 11 = .ok (.invokevirtual 209, 3) := by decide +kernel
theorem dX5_payFromAccount_14 : decode cX5_payFromAccount 14 = .ok (.invokestatic 127, 3) := by decide +kernel
theorem dX5_payFromAccount_17 : decode cX5_payFromAccount 17 = .ok (.lstore_n 2, 1) := by decide +kernel
theorem dX5_payFromAccount_18 : decode cX5_payFromAccount 18 = .ok (.lload_n 2, 1) := by decide +kernel
theorem dX5_payFromAccount_19 : decode cX5_payFromAccount 19 = .ok (.lconst 0, 1) := by decide +kernel
theorem dX5_payFromAccount_20 : decode cX5_payFromAccount 20 = .ok (.lcmp, 1) := by decide +kernel
theorem dX5_payFromAccount_21 : decode cX5_payFromAccount 21 = .ok (.ifCond .le 11, 3) := by decide +kernel
theorem dX5_payFromAccount_24 : decode cX5_payFromAccount 24 = .ok (.aload_n 0, 1) := by decide +kernel
theorem dX5_payFromAccount_25 : decode cX5_payFromAccount 25 = .ok (.iload_n 1, 1) := by decide +kernel
theorem dX5_payFromAccount_26 : decode cX5_payFromAccount 26 = .ok (.invokevirtual 212, 3) := by decide +kernel
theorem dX5_payFromAccount_29 : decode cX5_payFromAccount 29 = .ok (.ifCond .eq 5, 3) := by decide +kernel
theorem dX5_payFromAccount_32 : decode cX5_payFromAccount 32 = .ok (.lconst 0, 1) := by decide +kernel
theorem dX5_payFromAccount_33 : decode cX5_payFromAccount 33 = .ok (.lreturn, 1) := by decide +kernel
theorem dX5_payFromAccount_34 : decode cX5_payFromAccount 34 = .ok (.aload_n 0, 1) := by decide +kernel
theorem dX5_payFromAccount_35 : decode cX5_payFromAccount 35 = .ok (.iload_n 1, 1) := by decide +kernel
theorem dX5_payFromAccount_36 : decode cX5_payFromAccount 36 = .ok (.lload_n 2, 1) := by decide +kernel
theorem dX5_payFromAccount_37 : decode cX5_payFromAccount 37 = .ok (.invokevirtual 215, 3) := by decide +kernel
theorem dX5_payFromAccount_40 : decode cX5_payFromAccount 40 = .ok (.lload_n 2, 1) := by decide +kernel
theorem dX5_payFromAccount_41 : decode cX5_payFromAccount 41 = .ok (.lreturn, 1) := by decide +kernel
theorem dX5_claimOf_0 : decode cX5_claimOf 0 = .ok (.aload_n 0, 1) := by decide +kernel
theorem dX5_claimOf_1 : decode cX5_claimOf 1 = .ok (.getfield 59, 3) := by decide +kernel
theorem dX5_claimOf_4 : decode cX5_claimOf 4 = .ok (.getfield 219, 3) := by decide +kernel
theorem dX5_claimOf_7 : decode cX5_claimOf 7 = .ok (.iload_n 1, 1) := by decide +kernel
theorem dX5_claimOf_8 : decode cX5_claimOf 8 = .ok (.baload, 1) := by decide +kernel
theorem dX5_claimOf_9 : decode cX5_claimOf 9 = .ok (.ifCond .eq 5, 3) := by decide +kernel
theorem dX5_claimOf_12 : decode cX5_claimOf 12 = .ok (.lconst 0, 1) := by decide +kernel
theorem dX5_claimOf_13 : decode cX5_claimOf 13 = .ok (.lreturn, 1) := by decide +kernel
theorem dX5_claimOf_14 : decode cX5_claimOf 14 = .ok (.aload_n 0, 1) := by decide +kernel
theorem dX5_claimOf_15 : decode cX5_claimOf 15 = .ok (.getfield 59, 3) := by decide +kernel
theorem dX5_claimOf_18 : decode cX5_claimOf 18 = .ok (.getfield 222, 3) := by decide +kernel
theorem dX5_claimOf_21 : decode cX5_claimOf 21 = .ok (.iload_n 1, 1) := by decide +kernel
theorem dX5_claimOf_22 : decode cX5_claimOf 22 = .ok (.laload, 1) := by decide +kernel
theorem dX5_claimOf_23 : decode cX5_claimOf 23 = .ok (.aload_n 0, 1) := by decide +kernel
theorem dX5_claimOf_24 : decode cX5_claimOf 24 = .ok (.getfield 52, 3) := by decide +kernel
theorem dX5_claimOf_27 : decode cX5_claimOf 27 = .ok (.aload_n 0, 1) := by decide +kernel
theorem dX5_claimOf_28 : decode cX5_claimOf 28 = .ok (.getfield 59, 3) := by decide +kernel
theorem dX5_claimOf_31 : decode cX5_claimOf 31 = .ok (.getfield 225, 3) := by decide +kernel
theorem dX5_claimOf_34 : decode cX5_claimOf 34 = .ok (.iload_n 1, 1) := by decide +kernel
theorem dX5_claimOf_35 : decode cX5_claimOf 35 = .ok (.iaload, 1) := by decide +kernel
theorem dX5_claimOf_36 : decode cX5_claimOf 36 = .ok (.invokevirtual 226, 3) := by decide +kernel
theorem dX5_claimOf_39 : decode cX5_claimOf 39 = .ok (.invokestatic 127, 3) := by decide +kernel
theorem dX5_claimOf_42 : decode cX5_claimOf 42 = .ok (.lreturn, 1) := by decide +kernel
theorem dX5_hasClaim_0 : decode cX5_hasClaim 0 = .ok (.iconst 0, 1) := by decide +kernel
theorem dX5_hasClaim_1 : decode cX5_hasClaim 1 = .ok (.istore_n 2, 1) := by decide +kernel
theorem dX5_hasClaim_2 : decode cX5_hasClaim 2 = .ok (.iload_n 2, 1) := by decide +kernel
theorem dX5_hasClaim_3 : decode cX5_hasClaim 3 = .ok (.aload_n 0, 1) := by decide +kernel
theorem dX5_hasClaim_4 : decode cX5_hasClaim 4 = .ok (.getfield 59, 3) := by decide +kernel
theorem dX5_hasClaim_7 : decode cX5_hasClaim 7 = .ok (.getfield 75, 3) := by decide +kernel
theorem dX5_hasClaim_10 : decode cX5_hasClaim 10 = .ok (.if_icmp .ge 34, 3) := by decide +kernel
theorem dX5_hasClaim_13 : decode cX5_hasClaim 13 = .ok (.aload_n 0, 1) := by decide +kernel
theorem dX5_hasClaim_14 : decode cX5_hasClaim 14 = .ok (.getfield 59, 3) := by decide +kernel
theorem dX5_hasClaim_17 : decode cX5_hasClaim 17 = .ok (.getfield 225, 3) := by decide +kernel
theorem dX5_hasClaim_20 : decode cX5_hasClaim 20 = .ok (.iload_n 2, 1) := by decide +kernel
theorem dX5_hasClaim_21 : decode cX5_hasClaim 21 = .ok (.iaload, 1) := by decide +kernel
theorem dX5_hasClaim_22 : decode cX5_hasClaim 22 = .ok (.iload_n 1, 1) := by decide +kernel
theorem dX5_hasClaim_23 : decode cX5_hasClaim 23 = .ok (.if_icmp .ne 15, 3) := by decide +kernel
theorem dX5_hasClaim_26 : decode cX5_hasClaim 26 = .ok (.aload_n 0, 1) := by decide +kernel
theorem dX5_hasClaim_27 : decode cX5_hasClaim 27 = .ok (.iload_n 2, 1) := by decide +kernel
theorem dX5_hasClaim_28 : decode cX5_hasClaim 28 = .ok (.invokevirtual 229, 3) := by decide +kernel
theorem dX5_hasClaim_31 : decode cX5_hasClaim 31 = .ok (.lconst 0, 1) := by decide +kernel
theorem dX5_hasClaim_32 : decode cX5_hasClaim 32 = .ok (.lcmp, 1) := by decide +kernel
theorem dX5_hasClaim_33 : decode cX5_hasClaim 33 = .ok (.ifCond .le 5, 3) := by decide +kernel
theorem dX5_hasClaim_36 : decode cX5_hasClaim 36 = .ok (.iconst 1, 1) := by decide +kernel
theorem dX5_hasClaim_37 : decode cX5_hasClaim 37 = .ok (.ireturn, 1) := by decide +kernel
theorem dX5_hasClaim_38 : decode cX5_hasClaim 38 = .ok (.iinc 2 1, 3) := by decide +kernel
theorem dX5_hasClaim_41 : decode cX5_hasClaim 41 = .ok (.goto (-39), 3) := by decide +kernel
theorem dX5_hasClaim_44 : decode cX5_hasClaim 44 = .ok (.iconst 0, 1) := by decide +kernel
theorem dX5_hasClaim_45 : decode cX5_hasClaim 45 = .ok (.ireturn, 1) := by decide +kernel
theorem dX5_rankOf_0 : decode cX5_rankOf 0 = .ok (.aload_n 0, 1) := by decide +kernel
theorem dX5_rankOf_1 : decode cX5_rankOf 1 = .ok (.getfield 22, 3) := by decide +kernel
theorem dX5_rankOf_4 : decode cX5_rankOf 4 = .ok (.getfield 232, 3) := by decide +kernel
theorem dX5_rankOf_7 : decode cX5_rankOf 7 = .ok (.aload_n 0, 1) := by decide +kernel
theorem dX5_rankOf_8 : decode cX5_rankOf 8 = .ok (.getfield 59, 3) := by decide +kernel
theorem dX5_rankOf_11 : decode cX5_rankOf 11 = .ok (.getfield 225, 3) := by decide +kernel
theorem dX5_rankOf_14 : decode cX5_rankOf 14 = .ok (.iload_n 1, 1) := by decide +kernel
theorem dX5_rankOf_15 : decode cX5_rankOf 15 = .ok (.iaload, 1) := by decide +kernel
theorem dX5_rankOf_16 : decode cX5_rankOf 16 = .ok (.iaload, 1) := by decide +kernel
theorem dX5_rankOf_17 : decode cX5_rankOf 17 = .ok (.ireturn, 1) := by decide +kernel
theorem dX5_precedes_0 : decode cX5_precedes 0 = .ok (.aload_n 0, 1) := by decide +kernel
theorem dX5_precedes_1 : decode cX5_precedes 1 = .ok (.iload_n 1, 1) := by decide +kernel
theorem dX5_precedes_2 : decode cX5_precedes 2 = .ok (.invokevirtual 235, 3) := by decide +kernel
theorem dX5_precedes_5 : decode cX5_precedes 5 = .ok (.aload_n 0, 1) := by decide +kernel
theorem dX5_precedes_6 : decode cX5_precedes 6 = .ok (.iload_n 2, 1) := by decide +kernel
theorem dX5_precedes_7 : decode cX5_precedes 7 = .ok (.invokevirtual 235, 3) := by decide +kernel
theorem dX5_precedes_10 : decode cX5_precedes 10 = .ok (.if_icmp .eq 22, 3) := by decide +kernel
theorem dX5_precedes_13 : decode cX5_precedes 13 = .ok (.aload_n 0, 1) := by decide +kernel
theorem dX5_precedes_14 : decode cX5_precedes 14 = .ok (.iload_n 1, 1) := by decide +kernel
theorem dX5_precedes_15 : decode cX5_precedes 15 = .ok (.invokevirtual 235, 3) := by decide +kernel
theorem dX5_precedes_18 : decode cX5_precedes 18 = .ok (.aload_n 0, 1) := by decide +kernel
theorem dX5_precedes_19 : decode cX5_precedes 19 = .ok (.iload_n 2, 1) := by decide +kernel
theorem dX5_precedes_20 : decode cX5_precedes 20 = .ok (.invokevirtual 235, 3) := by decide +kernel
theorem dX5_precedes_23 : decode cX5_precedes 23 = .ok (.if_icmp .ge 7, 3) := by decide +kernel
theorem dX5_precedes_26 : decode cX5_precedes 26 = .ok (.iconst 1, 1) := by decide +kernel
theorem dX5_precedes_27 : decode cX5_precedes 27 = .ok (.goto 4, 3) := by decide +kernel
theorem dX5_precedes_30 : decode cX5_precedes 30 = .ok (.iconst 0, 1) := by decide +kernel
theorem dX5_precedes_31 : decode cX5_precedes 31 = .ok (.ireturn, 1) := by decide +kernel
theorem dX5_precedes_32 : decode cX5_precedes 32 = .ok (.aload_n 0, 1) := by decide +kernel
theorem dX5_precedes_33 : decode cX5_precedes 33 = .ok (.getfield 59, 3) := by decide +kernel
theorem dX5_precedes_36 : decode cX5_precedes 36 = .ok (.getfield 238, 3) := by decide +kernel
theorem dX5_precedes_39 : decode cX5_precedes 39 = .ok (.iload_n 1, 1) := by decide +kernel
theorem dX5_precedes_40 : decode cX5_precedes 40 = .ok (.iaload, 1) := by decide +kernel
theorem dX5_precedes_41 : decode cX5_precedes 41 = .ok (.aload_n 0, 1) := by decide +kernel
theorem dX5_precedes_42 : decode cX5_precedes 42 = .ok (.getfield 59, 3) := by decide +kernel
theorem dX5_precedes_45 : decode cX5_precedes 45 = .ok (.getfield 238, 3) := by decide +kernel
theorem dX5_precedes_48 : decode cX5_precedes 48 = .ok (.iload_n 2, 1) := by decide +kernel
theorem dX5_precedes_49 : decode cX5_precedes 49 = .ok (.iaload, 1) := by decide +kernel
theorem dX5_precedes_50 : decode cX5_precedes 50 = .ok (.if_icmp .eq 30, 3) := by decide +kernel
theorem dX5_precedes_53 : decode cX5_precedes 53 = .ok (.aload_n 0, 1) := by decide +kernel
theorem dX5_precedes_54 : decode cX5_precedes 54 = .ok (.getfield 59, 3) := by decide +kernel
theorem dX5_precedes_57 : decode cX5_precedes 57 = .ok (.getfield 238, 3) := by decide +kernel
theorem dX5_precedes_60 : decode cX5_precedes 60 = .ok (.iload_n 1, 1) := by decide +kernel
theorem dX5_precedes_61 : decode cX5_precedes 61 = .ok (.iaload, 1) := by decide +kernel
theorem dX5_precedes_62 : decode cX5_precedes 62 = .ok (.aload_n 0, 1) := by decide +kernel
theorem dX5_precedes_63 : decode cX5_precedes 63 = .ok (.getfield 59, 3) := by decide +kernel
theorem dX5_precedes_66 : decode cX5_precedes 66 = .ok (.getfield 238, 3) := by decide +kernel
theorem dX5_precedes_69 : decode cX5_precedes 69 = .ok (.iload_n 2, 1) := by decide +kernel
theorem dX5_precedes_70 : decode cX5_precedes 70 = .ok (.iaload, 1) := by decide +kernel
theorem dX5_precedes_71 : decode cX5_precedes 71 = .ok (.if_icmp .ge 7, 3) := by decide +kernel
theorem dX5_precedes_74 : decode cX5_precedes 74 = .ok (.iconst 1, 1) := by decide +kernel
theorem dX5_precedes_75 : decode cX5_precedes 75 = .ok (.goto 4, 3) := by decide +kernel
theorem dX5_precedes_78 : decode cX5_precedes 78 = .ok (.iconst 0, 1) := by decide +kernel
theorem dX5_precedes_79 : decode cX5_precedes 79 = .ok (.ireturn, 1) := by decide +kernel
theorem dX5_precedes_80 : decode cX5_precedes 80 = .ok (.iload_n 1, 1) := by decide +kernel
theorem dX5_precedes_81 : decode cX5_precedes 81 = .ok (.iload_n 2, 1) := by decide +kernel
theorem dX5_precedes_82 : decode cX5_precedes 82 = .ok (.if_icmp .ge 7, 3) := by decide +kernel
theorem dX5_precedes_85 : decode cX5_precedes 85 = .ok (.iconst 1, 1) := by decide +kernel
theorem dX5_precedes_86 : decode cX5_precedes 86 = .ok (.goto 4, 3) := by decide +kernel
theorem dX5_precedes_89 : decode cX5_precedes 89 = .ok (.iconst 0, 1) := by decide +kernel
theorem dX5_precedes_90 : decode cX5_precedes 90 = .ok (.ireturn, 1) := by decide +kernel
theorem dX5_lienAt_0 : decode cX5_lienAt 0 = .ok (.iconst 0, 1) := by decide +kernel
theorem dX5_lienAt_1 : decode cX5_lienAt 1 = .ok (.istore_n 2, 1) := by decide +kernel
theorem dX5_lienAt_2 : decode cX5_lienAt 2 = .ok (.iload_n 2, 1) := by decide +kernel
theorem dX5_lienAt_3 : decode cX5_lienAt 3 = .ok (.aload_n 0, 1) := by decide +kernel
theorem dX5_lienAt_4 : decode cX5_lienAt 4 = .ok (.getfield 59, 3) := by decide +kernel
theorem dX5_lienAt_7 : decode cX5_lienAt 7 = .ok (.getfield 75, 3) := by decide +kernel
theorem dX5_lienAt_10 : decode cX5_lienAt 10 = .ok (.if_icmp .ge 52, 3) := by decide +kernel
theorem dX5_lienAt_13 : decode cX5_lienAt 13 = .ok (.iconst 0, 1) := by decide +kernel
theorem dX5_lienAt_14 : decode cX5_lienAt 14 = .ok (.istore_n 3, 1) := by decide +kernel
theorem dX5_lienAt_15 : decode cX5_lienAt 15 = .ok (.iconst 0, 1) := by decide +kernel
theorem dX5_lienAt_16 : decode cX5_lienAt 16 = .ok (.istore 4, 2) := by decide +kernel
theorem dX5_lienAt_18 : decode cX5_lienAt 18 = .ok (.iload 4, 2) := by decide +kernel
theorem dX5_lienAt_20 : decode cX5_lienAt 20 = .ok (.aload_n 0, 1) := by decide +kernel
theorem dX5_lienAt_21 : decode cX5_lienAt 21 = .ok (.getfield 59, 3) := by decide +kernel
theorem dX5_lienAt_24 : decode cX5_lienAt 24 = .ok (.getfield 75, 3) := by decide +kernel
theorem dX5_lienAt_27 : decode cX5_lienAt 27 = .ok (.if_icmp .ge 22, 3) := by decide +kernel
theorem dX5_lienAt_30 : decode cX5_lienAt 30 = .ok (.aload_n 0, 1) := by decide +kernel
theorem dX5_lienAt_31 : decode cX5_lienAt 31 = .ok (.iload 4, 2) := by decide +kernel
theorem dX5_lienAt_33 : decode cX5_lienAt 33 = .ok (.iload_n 2, 1) := by decide +kernel
theorem dX5_lienAt_34 : decode cX5_lienAt 34 = .ok (.invokevirtual 241, 3) := by decide +kernel
theorem dX5_lienAt_37 : decode cX5_lienAt 37 = .ok (.ifCond .eq 6, 3) := by decide +kernel
theorem dX5_lienAt_40 : decode cX5_lienAt 40 = .ok (.iinc 3 1, 3) := by decide +kernel
theorem dX5_lienAt_43 : decode cX5_lienAt 43 = .ok (.iinc 4 1, 3) := by decide +kernel
theorem dX5_lienAt_46 : decode cX5_lienAt 46 = .ok (.goto (-28), 3) := by decide +kernel
theorem dX5_lienAt_49 : decode cX5_lienAt 49 = .ok (.iload_n 3, 1) := by decide +kernel
theorem dX5_lienAt_50 : decode cX5_lienAt 50 = .ok (.iload_n 1, 1) := by decide +kernel
theorem dX5_lienAt_51 : decode cX5_lienAt 51 = .ok (.if_icmp .ne 5, 3) := by decide +kernel
theorem dX5_lienAt_54 : decode cX5_lienAt 54 = .ok (.iload_n 2, 1) := by decide +kernel
theorem dX5_lienAt_55 : decode cX5_lienAt 55 = .ok (.ireturn, 1) := by decide +kernel
theorem dX5_lienAt_56 : decode cX5_lienAt 56 = .ok (.iinc 2 1, 3) := by decide +kernel
theorem dX5_lienAt_59 : decode cX5_lienAt 59 = .ok (.goto (-57), 3) := by decide +kernel
theorem dX5_lienAt_62 : decode cX5_lienAt 62 = .ok (.iconst (-1), 1) := by decide +kernel
theorem dX5_lienAt_63 : decode cX5_lienAt 63 = .ok (.ireturn, 1) := by decide +kernel
theorem dX5_claimsOfRank_0 : decode cX5_claimsOfRank 0 = .ok (.lconst 0, 1) := by decide +kernel
theorem dX5_claimsOfRank_1 : decode cX5_claimsOfRank 1 = .ok (.lstore_n 2, 1) := by decide +kernel
theorem dX5_claimsOfRank_2 : decode cX5_claimsOfRank 2 = .ok (.iconst 0, 1) := by decide +kernel
theorem dX5_claimsOfRank_3 : decode cX5_claimsOfRank 3 = .ok (.istore 4, 2) := by decide +kernel
theorem dX5_claimsOfRank_5 : decode cX5_claimsOfRank 5 = .ok (.iload 4, 2) := by decide +kernel
theorem dX5_claimsOfRank_7 : decode cX5_claimsOfRank 7 = .ok (.aload_n 0, 1) := by decide +kernel
theorem dX5_claimsOfRank_8 : decode cX5_claimsOfRank 8 = .ok (.getfield 59, 3) := by decide +kernel
theorem dX5_claimsOfRank_11 : decode cX5_claimsOfRank 11 = .ok (.getfield 75, 3) := by decide +kernel
theorem dX5_claimsOfRank_14 : decode cX5_claimsOfRank 14 = .ok (.if_icmp .ge 28, 3) := by decide +kernel
theorem dX5_claimsOfRank_17 : decode cX5_claimsOfRank 17 = .ok (.aload_n 0, 1) := by decide +kernel
theorem dX5_claimsOfRank_18 : decode cX5_claimsOfRank 18 = .ok (.iload 4, 2) := by decide +kernel
theorem dX5_claimsOfRank_20 : decode cX5_claimsOfRank 20 = .ok (.invokevirtual 235, 3) := by decide +kernel
theorem dX5_claimsOfRank_23 : decode cX5_claimsOfRank 23 = .ok (.iload_n 1, 1) := by decide +kernel
theorem dX5_claimsOfRank_24 : decode cX5_claimsOfRank 24 = .ok (.if_icmp .ne 12, 3) := by decide +kernel
theorem dX5_claimsOfRank_27 : decode cX5_claimsOfRank 27 = .ok (.lload_n 2, 1) := by decide +kernel
theorem dX5_claimsOfRank_28 : decode cX5_claimsOfRank 28 = .ok (.aload_n 0, 1) := by decide +kernel
theorem dX5_claimsOfRank_29 : decode cX5_claimsOfRank 29 = .ok (.iload 4, 2) := by decide +kernel
theorem dX5_claimsOfRank_31 : decode cX5_claimsOfRank 31 = .ok (.invokevirtual 229, 3) := by decide +kernel
theorem dX5_claimsOfRank_34 : decode cX5_claimsOfRank 34 = .ok (.ladd, 1) := by decide +kernel
theorem dX5_claimsOfRank_35 : decode cX5_claimsOfRank 35 = .ok (.lstore_n 2, 1) := by decide +kernel
theorem dX5_claimsOfRank_36 : decode cX5_claimsOfRank 36 = .ok (.iinc 4 1, 3) := by decide +kernel
theorem dX5_claimsOfRank_39 : decode cX5_claimsOfRank 39 = .ok (.goto (-34), 3) := by decide +kernel
theorem dX5_claimsOfRank_42 : decode cX5_claimsOfRank 42 = .ok (.lload_n 2, 1) := by decide +kernel
theorem dX5_claimsOfRank_43 : decode cX5_claimsOfRank 43 = .ok (.lreturn, 1) := by decide +kernel
theorem dX5_shareOf_0 : decode cX5_shareOf 0 = .ok (.lload_n 2, 1) := by decide +kernel
theorem dX5_shareOf_1 : decode cX5_shareOf 1 = .ok (.lstore 4, 2) := by decide +kernel
theorem dX5_shareOf_3 : decode cX5_shareOf 3 = .ok (.iconst 0, 1) := by decide +kernel
theorem dX5_shareOf_4 : decode cX5_shareOf 4 = .ok (.istore 6, 2) := by decide +kernel
theorem dX5_shareOf_6 : decode cX5_shareOf 6 = .ok (.iload 6, 2) := by decide +kernel
theorem dX5_shareOf_8 : decode cX5_shareOf 8 = .ok (.aload_n 0, 1) := by decide +kernel
theorem dX5_shareOf_9 : decode cX5_shareOf 9 = .ok (.iload_n 1, 1) := by decide +kernel
theorem dX5_shareOf_10 : decode cX5_shareOf 10 = .ok (.invokevirtual 235, 3) := by decide +kernel
theorem dX5_shareOf_13 : decode cX5_shareOf 13 = .ok (.if_icmp .ge 34, 3) := by decide +kernel
theorem dX5_shareOf_16 : decode cX5_shareOf 16 = .ok (.aload_n 0, 1) := by decide +kernel
theorem dX5_shareOf_17 : decode cX5_shareOf 17 = .ok (.iload 6, 2) := by decide +kernel
theorem dX5_shareOf_19 : decode cX5_shareOf 19 = .ok (.invokevirtual 244, 3) := by decide +kernel
theorem dX5_shareOf_22 : decode cX5_shareOf 22 = .ok (.lstore 7, 2) := by decide +kernel
theorem dX5_shareOf_24 : decode cX5_shareOf 24 = .ok (.lload 4, 2) := by decide +kernel
theorem dX5_shareOf_26 : decode cX5_shareOf 26 = .ok (.lload 7, 2) := by decide +kernel
theorem dX5_shareOf_28 : decode cX5_shareOf 28 = .ok (.lcmp, 1) := by decide +kernel
theorem dX5_shareOf_29 : decode cX5_shareOf 29 = .ok (.ifCond .ge 5, 3) := by decide +kernel
theorem dX5_shareOf_32 : decode cX5_shareOf 32 = .ok (.lconst 0, 1) := by decide +kernel
theorem dX5_shareOf_33 : decode cX5_shareOf 33 = .ok (.lreturn, 1) := by decide +kernel
theorem dX5_shareOf_34 : decode cX5_shareOf 34 = .ok (.lload 4, 2) := by decide +kernel
theorem dX5_shareOf_36 : decode cX5_shareOf 36 = .ok (.lload 7, 2) := by decide +kernel
theorem dX5_shareOf_38 : decode cX5_shareOf 38 = .ok (.lsub, 1) := by decide +kernel
theorem dX5_shareOf_39 : decode cX5_shareOf 39 = .ok (.lstore 4, 2) := by decide +kernel
theorem dX5_shareOf_41 : decode cX5_shareOf 41 = .ok (.iinc 6 1, 3) := by decide +kernel
theorem dX5_shareOf_44 : decode cX5_shareOf 44 = .ok (.goto (-38), 3) := by decide +kernel
theorem dX5_shareOf_47 : decode cX5_shareOf 47 = .ok (.aload_n 0, 1) := by decide +kernel
theorem dX5_shareOf_48 : decode cX5_shareOf 48 = .ok (.aload_n 0, 1) := by decide +kernel
theorem dX5_shareOf_49 : decode cX5_shareOf 49 = .ok (.iload_n 1, 1) := by decide +kernel
theorem dX5_shareOf_50 : decode cX5_shareOf 50 = .ok (.invokevirtual 235, 3) := by decide +kernel
theorem dX5_shareOf_53 : decode cX5_shareOf 53 = .ok (.invokevirtual 244, 3) := by decide +kernel
theorem dX5_shareOf_56 : decode cX5_shareOf 56 = .ok (.lstore 6, 2) := by decide +kernel
theorem dX5_shareOf_58 : decode cX5_shareOf 58 = .ok (.lload 4, 2) := by decide +kernel
theorem dX5_shareOf_60 : decode cX5_shareOf 60 = .ok (.lload 6, 2) := by decide +kernel
theorem dX5_shareOf_62 : decode cX5_shareOf 62 = .ok (.lcmp, 1) := by decide +kernel
theorem dX5_shareOf_63 : decode cX5_shareOf 63 = .ok (.ifCond .lt 11, 3) := by decide +kernel
theorem dX5_shareOf_66 : decode cX5_shareOf 66 = .ok (.aload_n 0, 1) := by decide +kernel
theorem dX5_shareOf_67 : decode cX5_shareOf 67 = .ok (.iload_n 1, 1) := by decide +kernel
theorem dX5_shareOf_68 : decode cX5_shareOf 68 = .ok (.invokevirtual 229, 3) := by decide +kernel
theorem dX5_shareOf_71 : decode cX5_shareOf 71 = .ok (.goto 12, 3) := by decide +kernel
theorem dX5_shareOf_74 : decode cX5_shareOf 74 = .ok (.aload_n 0, 1) := by decide +kernel
theorem dX5_shareOf_75 : decode cX5_shareOf 75 = .ok (.iload_n 1, 1) := by decide +kernel
theorem dX5_shareOf_76 : decode cX5_shareOf 76 = .ok (.lload 4, 2) := by decide +kernel
theorem dX5_shareOf_78 : decode cX5_shareOf 78 = .ok (.lload 6, 2) := by decide +kernel
theorem dX5_shareOf_80 : decode cX5_shareOf 80 = .ok (.invokevirtual 247, 3) := by decide +kernel
theorem dX5_shareOf_83 : decode cX5_shareOf 83 = .ok (.lreturn, 1) := by decide +kernel
theorem dX5_partOf_0 : decode cX5_partOf 0 = .ok (.lload 4, 2) := by decide +kernel
theorem dX5_partOf_2 : decode cX5_partOf 2 = .ok (.lconst 0, 1) := by decide +kernel
theorem dX5_partOf_3 : decode cX5_partOf 3 = .ok (.lcmp, 1) := by decide +kernel
theorem dX5_partOf_4 : decode cX5_partOf 4 = .ok (.ifCond .gt 5, 3) := by decide +kernel
theorem dX5_partOf_7 : decode cX5_partOf 7 = .ok (.lconst 0, 1) := by decide +kernel
theorem dX5_partOf_8 : decode cX5_partOf 8 = .ok (.lreturn, 1) := by decide +kernel
theorem dX5_partOf_9 : decode cX5_partOf 9 = .ok (.lload_n 2, 1) := by decide +kernel
theorem dX5_partOf_10 : decode cX5_partOf 10 = .ok (.lstore 6, 2) := by decide +kernel
theorem dX5_partOf_12 : decode cX5_partOf 12 = .ok (.lconst 0, 1) := by decide +kernel
theorem dX5_partOf_13 : decode cX5_partOf 13 = .ok (.lstore 8, 2) := by decide +kernel
theorem dX5_partOf_15 : decode cX5_partOf 15 = .ok (.iconst 0, 1) := by decide +kernel
theorem dX5_partOf_16 : decode cX5_partOf 16 = .ok (.istore 10, 2) := by decide +kernel
theorem dX5_partOf_18 : decode cX5_partOf 18 = .ok (.iload 10, 2) := by decide +kernel
theorem dX5_partOf_20 : decode cX5_partOf 20 = .ok (.aload_n 0, 1) := by decide +kernel
theorem dX5_partOf_21 : decode cX5_partOf 21 = .ok (.getfield 59, 3) := by decide +kernel
theorem dX5_partOf_24 : decode cX5_partOf 24 = .ok (.getfield 75, 3) := by decide +kernel
theorem dX5_partOf_27 : decode cX5_partOf 27 = .ok (.if_icmp .ge 71, 3) := by decide +kernel
theorem dX5_partOf_30 : decode cX5_partOf 30 = .ok (.aload_n 0, 1) := by decide +kernel
theorem dX5_partOf_31 : decode cX5_partOf 31 = .ok (.iload 10, 2) := by decide +kernel
theorem dX5_partOf_33 : decode cX5_partOf 33 = .ok (.invokevirtual 235, 3) := by decide +kernel
theorem dX5_partOf_36 : decode cX5_partOf 36 = .ok (.aload_n 0, 1) := by decide +kernel
theorem dX5_partOf_37 : decode cX5_partOf 37 = .ok (.iload_n 1, 1) := by decide +kernel
theorem dX5_partOf_38 : decode cX5_partOf 38 = .ok (.invokevirtual 235, 3) := by decide +kernel
theorem dX5_partOf_41 : decode cX5_partOf 41 = .ok (.if_icmp .ne 51, 3) := by decide +kernel
theorem dX5_partOf_44 : decode cX5_partOf 44 = .ok (.aload_n 0, 1) := by decide +kernel
theorem dX5_partOf_45 : decode cX5_partOf 45 = .ok (.iload 10, 2) := by decide +kernel
theorem dX5_partOf_47 : decode cX5_partOf 47 = .ok (.invokevirtual 229, 3) := by decide +kernel
theorem dX5_partOf_50 : decode cX5_partOf 50 = .ok (.lload_n 2, 1) := by decide +kernel
theorem dX5_partOf_51 : decode cX5_partOf 51 = .ok (.lmul, 1) := by decide +kernel
theorem dX5_partOf_52 : decode cX5_partOf 52 = .ok (.lload 4, 2) := by decide +kernel
theorem dX5_partOf_54 : decode cX5_partOf 54 = .ok (.ldiv, 1) := by decide +kernel
theorem dX5_partOf_55 : decode cX5_partOf 55 = .ok (.lstore 11, 2) := by decide +kernel
theorem dX5_partOf_57 : decode cX5_partOf 57 = .ok (.lload 6, 2) := by decide +kernel
theorem dX5_partOf_59 : decode cX5_partOf 59 = .ok (.lload 11, 2) := by decide +kernel
theorem dX5_partOf_61 : decode cX5_partOf 61 = .ok (.lsub, 1) := by decide +kernel
theorem dX5_partOf_62 : decode cX5_partOf 62 = .ok (.lstore 6, 2) := by decide +kernel
theorem dX5_partOf_64 : decode cX5_partOf 64 = .ok (.aload_n 0, 1) := by decide +kernel
theorem dX5_partOf_65 : decode cX5_partOf 65 = .ok (.iload 10, 2) := by decide +kernel
theorem dX5_partOf_67 : decode cX5_partOf 67 = .ok (.invokevirtual 229, 3) := by decide +kernel
theorem dX5_partOf_70 : decode cX5_partOf 70 = .ok (.lload 11, 2) := by decide +kernel
theorem dX5_partOf_72 : decode cX5_partOf 72 = .ok (.lcmp, 1) := by decide +kernel
theorem dX5_partOf_73 : decode cX5_partOf 73 = .ok (.ifCond .le 19, 3) := by decide +kernel
theorem dX5_partOf_76 : decode cX5_partOf 76 = .ok (.aload_n 0, 1) := by decide +kernel
theorem dX5_partOf_77 : decode cX5_partOf 77 = .ok (.iload 10, 2) := by decide +kernel
theorem dX5_partOf_79 : decode cX5_partOf 79 = .ok (.iload_n 1, 1) := by decide +kernel
theorem dX5_partOf_80 : decode cX5_partOf 80 = .ok (.invokevirtual 241, 3) := by decide +kernel
theorem dX5_partOf_83 : decode cX5_partOf 83 = .ok (.ifCond .eq 9, 3) := by decide +kernel
theorem dX5_partOf_86 : decode cX5_partOf 86 = .ok (.lload 8, 2) := by decide +kernel
theorem dX5_partOf_88 : decode cX5_partOf 88 = .ok (.lconst 1, 1) := by decide +kernel
theorem dX5_partOf_89 : decode cX5_partOf 89 = .ok (.ladd, 1) := by decide +kernel
theorem dX5_partOf_90 : decode cX5_partOf 90 = .ok (.lstore 8, 2) := by decide +kernel
theorem dX5_partOf_92 : decode cX5_partOf 92 = .ok (.iinc 10 1, 3) := by decide +kernel
theorem dX5_partOf_95 : decode cX5_partOf 95 = .ok (.goto (-77), 3) := by decide +kernel
theorem dX5_partOf_98 : decode cX5_partOf 98 = .ok (.aload_n 0, 1) := by decide +kernel
theorem dX5_partOf_99 : decode cX5_partOf 99 = .ok (.iload_n 1, 1) := by decide +kernel
theorem dX5_partOf_100 : decode cX5_partOf 100 = .ok (.invokevirtual 229, 3) := by decide +kernel
theorem dX5_partOf_103 : decode cX5_partOf 103 = .ok (.lload_n 2, 1) := by decide +kernel
theorem dX5_partOf_104 : decode cX5_partOf 104 = .ok (.lmul, 1) := by decide +kernel
theorem dX5_partOf_105 : decode cX5_partOf 105 = .ok (.lload 4, 2) := by decide +kernel
theorem dX5_partOf_107 : decode cX5_partOf 107 = .ok (.ldiv, 1) := by decide +kernel
theorem dX5_partOf_108 : decode cX5_partOf 108 = .ok (.lstore 10, 2) := by decide +kernel
theorem dX5_partOf_110 : decode cX5_partOf 110 = .ok (.aload_n 0, 1) := by decide +kernel
theorem dX5_partOf_111 : decode cX5_partOf 111 = .ok (.iload_n 1, 1) := by decide +kernel
theorem dX5_partOf_112 : decode cX5_partOf 112 = .ok (.invokevirtual 229, 3) := by decide +kernel
theorem dX5_partOf_115 : decode cX5_partOf 115 = .ok (.lload 10, 2) := by decide +kernel
theorem dX5_partOf_117 : decode cX5_partOf 117 = .ok (.lcmp, 1) := by decide +kernel
theorem dX5_partOf_118 : decode cX5_partOf 118 = .ok (.ifCond .le 18, 3) := by decide +kernel
theorem dX5_partOf_121 : decode cX5_partOf 121 = .ok (.lload 8, 2) := by decide +kernel
theorem dX5_partOf_123 : decode cX5_partOf 123 = .ok (.lload 6, 2) := by decide +kernel
theorem dX5_partOf_125 : decode cX5_partOf 125 = .ok (.lcmp, 1) := by decide +kernel
theorem dX5_partOf_126 : decode cX5_partOf 126 = .ok (.ifCond .ge 10, 3) := by decide +kernel
theorem dX5_partOf_129 : decode cX5_partOf 129 = .ok (.lload 10, 2) := by decide +kernel
theorem dX5_partOf_131 : decode cX5_partOf 131 = .ok (.lconst 1, 1) := by decide +kernel
theorem dX5_partOf_132 : decode cX5_partOf 132 = .ok (.ladd, 1) := by decide +kernel
theorem dX5_partOf_133 : decode cX5_partOf 133 = .ok (.goto 5, 3) := by decide +kernel
theorem dX5_partOf_136 : decode cX5_partOf 136 = .ok (.lload 10, 2) := by decide +kernel
theorem dX5_partOf_138 : decode cX5_partOf 138 = .ok (.lreturn, 1) := by decide +kernel
theorem dX5_checksumOfAll_0 : decode cX5_checksumOfAll 0 = .ok (.aload_n 0, 1) := by decide +kernel
theorem dX5_checksumOfAll_1 : decode cX5_checksumOfAll 1 = .ok (.getfield 9, 3) := by decide +kernel
theorem dX5_checksumOfAll_4 : decode cX5_checksumOfAll 4 = .ok (.i2l, 1) := by decide +kernel
theorem dX5_checksumOfAll_5 : decode cX5_checksumOfAll 5 = .ok (.lstore_n 1, 1) := by decide +kernel
theorem dX5_checksumOfAll_6 : decode cX5_checksumOfAll 6 = .ok (.ldc2_w 251, 3) := by decide +kernel
theorem dX5_checksumOfAll_9 : decode cX5_checksumOfAll 9 = .ok (.lload_n 1, 1) := by decide +kernel
theorem dX5_checksumOfAll_10 : decode cX5_checksumOfAll 10 = .ok (.lmul, 1) := by decide +kernel
theorem dX5_checksumOfAll_11 : decode cX5_checksumOfAll 11 = .ok (.aload_n 0, 1) := by decide +kernel
theorem dX5_checksumOfAll_12 : decode cX5_checksumOfAll 12 = .ok (.getfield 15, 3) := by decide +kernel
theorem dX5_checksumOfAll_15 : decode cX5_checksumOfAll 15 = .ok (.iconst 0, 1) := by decide +kernel
theorem dX5_checksumOfAll_16 : decode cX5_checksumOfAll 16 = .ok (.laload, 1) := by decide +kernel
theorem dX5_checksumOfAll_17 : decode cX5_checksumOfAll 17 = .ok (.ladd, 1) := by decide +kernel
theorem dX5_checksumOfAll_18 : decode cX5_checksumOfAll 18 = .ok (.lstore_n 1, 1) := by decide +kernel
theorem dX5_checksumOfAll_19 : decode cX5_checksumOfAll 19 = .ok (.iconst 0, 1) := by decide +kernel
theorem dX5_checksumOfAll_20 : decode cX5_checksumOfAll 20 = .ok (.istore_n 3, 1) := by decide +kernel
theorem dX5_checksumOfAll_21 : decode cX5_checksumOfAll 21 = .ok (.iload_n 3, 1) := by decide +kernel
theorem dX5_checksumOfAll_22 : decode cX5_checksumOfAll 22 = .ok (.aload_n 0, 1) := by decide +kernel
theorem dX5_checksumOfAll_23 : decode cX5_checksumOfAll 23 = .ok (.getfield 22, 3) := by decide +kernel
theorem dX5_checksumOfAll_26 : decode cX5_checksumOfAll 26 = .ok (.getfield 67, 3) := by decide +kernel
theorem dX5_checksumOfAll_29 : decode cX5_checksumOfAll 29 = .ok (.if_icmp .ge 68, 3) := by decide +kernel
theorem dX5_checksumOfAll_32 : decode cX5_checksumOfAll 32 = .ok (.ldc2_w 251, 3) := by decide +kernel
theorem dX5_checksumOfAll_35 : decode cX5_checksumOfAll 35 = .ok (.lload_n 1, 1) := by decide +kernel
theorem dX5_checksumOfAll_36 : decode cX5_checksumOfAll 36 = .ok (.lmul, 1) := by decide +kernel
theorem dX5_checksumOfAll_37 : decode cX5_checksumOfAll 37 = .ok (.aload_n 0, 1) := by decide +kernel
theorem dX5_checksumOfAll_38 : decode cX5_checksumOfAll 38 = .ok (.getfield 15, 3) := by decide +kernel
theorem dX5_checksumOfAll_41 : decode cX5_checksumOfAll 41 = .ok (.iload_n 3, 1) := by decide +kernel
theorem dX5_checksumOfAll_42 : decode cX5_checksumOfAll 42 = .ok (.iconst 1, 1) := by decide +kernel
theorem dX5_checksumOfAll_43 : decode cX5_checksumOfAll 43 = .ok (.iadd, 1) := by decide +kernel
theorem dX5_checksumOfAll_44 : decode cX5_checksumOfAll 44 = .ok (.laload, 1) := by decide +kernel
theorem dX5_checksumOfAll_45 : decode cX5_checksumOfAll 45 = .ok (.ladd, 1) := by decide +kernel
theorem dX5_checksumOfAll_46 : decode cX5_checksumOfAll 46 = .ok (.lstore_n 1, 1) := by decide +kernel
theorem dX5_checksumOfAll_47 : decode cX5_checksumOfAll 47 = .ok (.ldc2_w 251, 3) := by decide +kernel
theorem dX5_checksumOfAll_50 : decode cX5_checksumOfAll 50 = .ok (.lload_n 1, 1) := by decide +kernel
theorem dX5_checksumOfAll_51 : decode cX5_checksumOfAll 51 = .ok (.lmul, 1) := by decide +kernel
theorem dX5_checksumOfAll_52 : decode cX5_checksumOfAll 52 = .ok (.aload_n 0, 1) := by decide +kernel
theorem dX5_checksumOfAll_53 : decode cX5_checksumOfAll 53 = .ok (.getfield 22, 3) := by decide +kernel
theorem dX5_checksumOfAll_56 : decode cX5_checksumOfAll 56 = .ok (.getfield 133, 3) := by decide +kernel
theorem dX5_checksumOfAll_59 : decode cX5_checksumOfAll 59 = .ok (.iload_n 3, 1) := by decide +kernel
theorem dX5_checksumOfAll_60 : decode cX5_checksumOfAll 60 = .ok (.iaload, 1) := by decide +kernel
theorem dX5_checksumOfAll_61 : decode cX5_checksumOfAll 61 = .ok (.i2l, 1) := by decide +kernel
theorem dX5_checksumOfAll_62 : decode cX5_checksumOfAll 62 = .ok (.ladd, 1) := by decide +kernel
theorem dX5_checksumOfAll_63 : decode cX5_checksumOfAll 63 = .ok (.lstore_n 1, 1) := by decide +kernel
theorem dX5_checksumOfAll_64 : decode cX5_checksumOfAll 64 = .ok (.ldc2_w 251, 3) := by decide +kernel
theorem dX5_checksumOfAll_67 : decode cX5_checksumOfAll 67 = .ok (.lload_n 1, 1) := by decide +kernel
theorem dX5_checksumOfAll_68 : decode cX5_checksumOfAll 68 = .ok (.lmul, 1) := by decide +kernel
theorem dX5_checksumOfAll_69 : decode cX5_checksumOfAll 69 = .ok (.aload_n 0, 1) := by decide +kernel
theorem dX5_checksumOfAll_70 : decode cX5_checksumOfAll 70 = .ok (.iload_n 3, 1) := by decide +kernel
theorem dX5_checksumOfAll_71 : decode cX5_checksumOfAll 71 = .ok (.invokevirtual 138, 3) := by decide +kernel
theorem dX5_checksumOfAll_74 : decode cX5_checksumOfAll 74 = .ok (.ladd, 1) := by decide +kernel
theorem dX5_checksumOfAll_75 : decode cX5_checksumOfAll 75 = .ok (.lstore_n 1, 1) := by decide +kernel
theorem dX5_checksumOfAll_76 : decode cX5_checksumOfAll 76 = .ok (.ldc2_w 251, 3) := by decide +kernel
theorem dX5_checksumOfAll_79 : decode cX5_checksumOfAll 79 = .ok (.lload_n 1, 1) := by decide +kernel
theorem dX5_checksumOfAll_80 : decode cX5_checksumOfAll 80 = .ok (.lmul, 1) := by decide +kernel
theorem dX5_checksumOfAll_81 : decode cX5_checksumOfAll 81 = .ok (.aload_n 0, 1) := by decide +kernel
theorem dX5_checksumOfAll_82 : decode cX5_checksumOfAll 82 = .ok (.getfield 52, 3) := by decide +kernel
theorem dX5_checksumOfAll_85 : decode cX5_checksumOfAll 85 = .ok (.iload_n 3, 1) := by decide +kernel
theorem dX5_checksumOfAll_86 : decode cX5_checksumOfAll 86 = .ok (.invokevirtual 145, 3) := by decide +kernel
theorem dX5_checksumOfAll_89 : decode cX5_checksumOfAll 89 = .ok (.ladd, 1) := by decide +kernel
theorem dX5_checksumOfAll_90 : decode cX5_checksumOfAll 90 = .ok (.lstore_n 1, 1) := by decide +kernel
theorem dX5_checksumOfAll_91 : decode cX5_checksumOfAll 91 = .ok (.iinc 3 1, 3) := by decide +kernel
theorem dX5_checksumOfAll_94 : decode cX5_checksumOfAll 94 = .ok (.goto (-73), 3) := by decide +kernel
theorem dX5_checksumOfAll_97 : decode cX5_checksumOfAll 97 = .ok (.iconst 0, 1) := by decide +kernel
theorem dX5_checksumOfAll_98 : decode cX5_checksumOfAll 98 = .ok (.istore_n 3, 1) := by decide +kernel
theorem dX5_checksumOfAll_99 : decode cX5_checksumOfAll 99 = .ok (.iload_n 3, 1) := by decide +kernel
theorem dX5_checksumOfAll_100 : decode cX5_checksumOfAll 100 = .ok (.aload_n 0, 1) := by decide +kernel
theorem dX5_checksumOfAll_101 : decode cX5_checksumOfAll 101 = .ok (.getfield 52, 3) := by decide +kernel
theorem dX5_checksumOfAll_104 : decode cX5_checksumOfAll 104 = .ok (.getfield 74, 3) := by decide +kernel
theorem dX5_checksumOfAll_107 : decode cX5_checksumOfAll 107 = .ok (.if_icmp .ge 25, 3) := by decide +kernel
theorem dX5_checksumOfAll_110 : decode cX5_checksumOfAll 110 = .ok (.ldc2_w 251, 3) := by decide +kernel
theorem dX5_checksumOfAll_113 : decode cX5_checksumOfAll 113 = .ok (.lload_n 1, 1) := by decide +kernel
theorem dX5_checksumOfAll_114 : decode cX5_checksumOfAll 114 = .ok (.lmul, 1) := by decide +kernel
theorem dX5_checksumOfAll_115 : decode cX5_checksumOfAll 115 = .ok (.aload_n 0, 1) := by decide +kernel
theorem dX5_checksumOfAll_116 : decode cX5_checksumOfAll 116 = .ok (.getfield 52, 3) := by decide +kernel
theorem dX5_checksumOfAll_119 : decode cX5_checksumOfAll 119 = .ok (.getfield 185, 3) := by decide +kernel
theorem dX5_checksumOfAll_122 : decode cX5_checksumOfAll 122 = .ok (.iload_n 3, 1) := by decide +kernel
theorem dX5_checksumOfAll_123 : decode cX5_checksumOfAll 123 = .ok (.laload, 1) := by decide +kernel
theorem dX5_checksumOfAll_124 : decode cX5_checksumOfAll 124 = .ok (.ladd, 1) := by decide +kernel
theorem dX5_checksumOfAll_125 : decode cX5_checksumOfAll 125 = .ok (.lstore_n 1, 1) := by decide +kernel
theorem dX5_checksumOfAll_126 : decode cX5_checksumOfAll 126 = .ok (.iinc 3 1, 3) := by decide +kernel
theorem dX5_checksumOfAll_129 : decode cX5_checksumOfAll 129 = .ok (.goto (-30), 3) := by decide +kernel
theorem dX5_checksumOfAll_132 : decode cX5_checksumOfAll 132 = .ok (.iconst 0, 1) := by decide +kernel
theorem dX5_checksumOfAll_133 : decode cX5_checksumOfAll 133 = .ok (.istore_n 3, 1) := by decide +kernel
theorem dX5_checksumOfAll_134 : decode cX5_checksumOfAll 134 = .ok (.iload_n 3, 1) := by decide +kernel
theorem dX5_checksumOfAll_135 : decode cX5_checksumOfAll 135 = .ok (.aload_n 0, 1) := by decide +kernel
theorem dX5_checksumOfAll_136 : decode cX5_checksumOfAll 136 = .ok (.getfield 59, 3) := by decide +kernel
theorem dX5_checksumOfAll_139 : decode cX5_checksumOfAll 139 = .ok (.getfield 75, 3) := by decide +kernel
theorem dX5_checksumOfAll_142 : decode cX5_checksumOfAll 142 = .ok (.if_icmp .ge 21, 3) := by decide +kernel
theorem dX5_checksumOfAll_145 : decode cX5_checksumOfAll 145 = .ok (.ldc2_w 251, 3) := by decide +kernel
theorem dX5_checksumOfAll_148 : decode cX5_checksumOfAll 148 = .ok (.lload_n 1, 1) := by decide +kernel
theorem dX5_checksumOfAll_149 : decode cX5_checksumOfAll 149 = .ok (.lmul, 1) := by decide +kernel
theorem dX5_checksumOfAll_150 : decode cX5_checksumOfAll 150 = .ok (.aload_n 0, 1) := by decide +kernel
theorem dX5_checksumOfAll_151 : decode cX5_checksumOfAll 151 = .ok (.iload_n 3, 1) := by decide +kernel
theorem dX5_checksumOfAll_152 : decode cX5_checksumOfAll 152 = .ok (.invokevirtual 229, 3) := by decide +kernel
theorem dX5_checksumOfAll_155 : decode cX5_checksumOfAll 155 = .ok (.ladd, 1) := by decide +kernel
theorem dX5_checksumOfAll_156 : decode cX5_checksumOfAll 156 = .ok (.lstore_n 1, 1) := by decide +kernel
theorem dX5_checksumOfAll_157 : decode cX5_checksumOfAll 157 = .ok (.iinc 3 1, 3) := by decide +kernel
theorem dX5_checksumOfAll_160 : decode cX5_checksumOfAll 160 = .ok (.goto (-26), 3) := by decide +kernel
theorem dX5_checksumOfAll_163 : decode cX5_checksumOfAll 163 = .ok (.ldc2_w 251, 3) := by decide +kernel
theorem dX5_checksumOfAll_166 : decode cX5_checksumOfAll 166 = .ok (.lload_n 1, 1) := by decide +kernel
theorem dX5_checksumOfAll_167 : decode cX5_checksumOfAll 167 = .ok (.lmul, 1) := by decide +kernel
theorem dX5_checksumOfAll_168 : decode cX5_checksumOfAll 168 = .ok (.aload_n 0, 1) := by decide +kernel
theorem dX5_checksumOfAll_169 : decode cX5_checksumOfAll 169 = .ok (.getfield 45, 3) := by decide +kernel
theorem dX5_checksumOfAll_172 : decode cX5_checksumOfAll 172 = .ok (.getfield 73, 3) := by decide +kernel
theorem dX5_checksumOfAll_175 : decode cX5_checksumOfAll 175 = .ok (.i2l, 1) := by decide +kernel
theorem dX5_checksumOfAll_176 : decode cX5_checksumOfAll 176 = .ok (.ladd, 1) := by decide +kernel
theorem dX5_checksumOfAll_177 : decode cX5_checksumOfAll 177 = .ok (.lreturn, 1) := by decide +kernel
theorem dX6_init_0 : decode cX6_init 0 = .ok (.aload_n 0, 1) := by decide +kernel
theorem dX6_init_1 : decode cX6_init 1 = .ok (.invokespecial 3, 3) := by decide +kernel
theorem dX6_init_4 : decode cX6_init 4 = .ok (.aload_n 0, 1) := by decide +kernel
theorem dX6_init_5 : decode cX6_init 5 = .ok (.sipush 900, 3) := by decide +kernel
theorem dX6_init_8 : decode cX6_init 8 = .ok (.newarray .byte, 2) := by decide +kernel
theorem dX6_init_10 : decode cX6_init 10 = .ok (.putfield 9, 3) := by decide +kernel
theorem dX6_init_13 : decode cX6_init 13 = .ok (.aload_n 0, 1) := by decide +kernel
theorem dX6_init_14 : decode cX6_init 14 = .ok (.iconst 0, 1) := by decide +kernel
theorem dX6_init_15 : decode cX6_init 15 = .ok (.putfield 15, 3) := by decide +kernel
theorem dX6_init_18 : decode cX6_init 18 = .ok (.aload_n 0, 1) := by decide +kernel
theorem dX6_init_19 : decode cX6_init 19 = .ok (.new 19, 3) := by decide +kernel
theorem dX6_init_22 : decode cX6_init 22 = .ok (.dup, 1) := by decide +kernel
theorem dX6_init_23 : decode cX6_init 23 = .ok (.invokespecial 21, 3) := by decide +kernel
theorem dX6_init_26 : decode cX6_init 26 = .ok (.putfield 22, 3) := by decide +kernel
theorem dX6_init_29 : decode cX6_init 29 = .ok (.aload_n 0, 1) := by decide +kernel
theorem dX6_init_30 : decode cX6_init 30 = .ok (.iconst 0, 1) := by decide +kernel
theorem dX6_init_31 : decode cX6_init 31 = .ok (.putfield 26, 3) := by decide +kernel
theorem dX6_init_34 : decode cX6_init 34 = .ok (.aload_n 0, 1) := by decide +kernel
theorem dX6_init_35 : decode cX6_init 35 = .ok (.iconst 0, 1) := by decide +kernel
theorem dX6_init_36 : decode cX6_init 36 = .ok (.putfield 29, 3) := by decide +kernel
theorem dX6_init_39 : decode cX6_init 39 = .ok (.aload_n 0, 1) := by decide +kernel
theorem dX6_init_40 : decode cX6_init 40 = .ok (.iconst (-1), 1) := by decide +kernel
theorem dX6_init_41 : decode cX6_init 41 = .ok (.putfield 32, 3) := by decide +kernel
theorem dX6_init_44 : decode cX6_init 44 = .ok (.aload_n 0, 1) := by decide +kernel
theorem dX6_init_45 : decode cX6_init 45 = .ok (.iconst 0, 1) := by decide +kernel
theorem dX6_init_46 : decode cX6_init 46 = .ok (.putfield 35, 3) := by decide +kernel
theorem dX6_init_49 : decode cX6_init 49 = .ok (.aload_n 0, 1) := by decide +kernel
theorem dX6_init_50 : decode cX6_init 50 = .ok (.iconst 0, 1) := by decide +kernel
theorem dX6_init_51 : decode cX6_init 51 = .ok (.putfield 38, 3) := by decide +kernel
theorem dX6_init_54 : decode cX6_init 54 = .ok (.aload_n 0, 1) := by decide +kernel
theorem dX6_init_55 : decode cX6_init 55 = .ok (.iconst 0, 1) := by decide +kernel
theorem dX6_init_56 : decode cX6_init 56 = .ok (.putfield 41, 3) := by decide +kernel
theorem dX6_init_59 : decode cX6_init 59 = .ok (.aload_n 0, 1) := by decide +kernel
theorem dX6_init_60 : decode cX6_init 60 = .ok (.iconst (-1), 1) := by decide +kernel
theorem dX6_init_61 : decode cX6_init 61 = .ok (.putfield 44, 3) := by decide +kernel
theorem dX6_init_64 : decode cX6_init 64 = .ok (.aload_n 0, 1) := by decide +kernel
theorem dX6_init_65 : decode cX6_init 65 = .ok (.iconst 0, 1) := by decide +kernel
theorem dX6_init_66 : decode cX6_init 66 = .ok (.putfield 47, 3) := by decide +kernel
theorem dX6_init_69 : decode cX6_init 69 = .ok (.aload_n 0, 1) := by decide +kernel
theorem dX6_init_70 : decode cX6_init 70 = .ok (.iconst 0, 1) := by decide +kernel
theorem dX6_init_71 : decode cX6_init 71 = .ok (.putfield 51, 3) := by decide +kernel
theorem dX6_init_74 : decode cX6_init 74 = .ok (.return_, 1) := by decide +kernel
theorem dX6_addBytes_0 : decode cX6_addBytes 0 = .ok (.bipush 24, 2) := by decide +kernel
theorem dX6_addBytes_2 : decode cX6_addBytes 2 = .ok (.istore_n 2, 1) := by decide +kernel
theorem dX6_addBytes_3 : decode cX6_addBytes 3 = .ok (.iload_n 2, 1) := by decide +kernel
theorem dX6_addBytes_4 : decode cX6_addBytes 4 = .ok (.ifCond .lt 42, 3) := by decide +kernel
theorem dX6_addBytes_7 : decode cX6_addBytes 7 = .ok (.aload_n 0, 1) := by decide +kernel
theorem dX6_addBytes_8 : decode cX6_addBytes 8 = .ok (.getfield 15, 3) := by decide +kernel
theorem dX6_addBytes_11 : decode cX6_addBytes 11 = .ok (.sipush 900, 3) := by decide +kernel
theorem dX6_addBytes_14 : decode cX6_addBytes 14 = .ok (.if_icmp .ge 32, 3) := by decide +kernel
theorem dX6_addBytes_17 : decode cX6_addBytes 17 = .ok (.aload_n 0, 1) := by decide +kernel
theorem dX6_addBytes_18 : decode cX6_addBytes 18 = .ok (.getfield 9, 3) := by decide +kernel
theorem dX6_addBytes_21 : decode cX6_addBytes 21 = .ok (.aload_n 0, 1) := by decide +kernel
theorem dX6_addBytes_22 : decode cX6_addBytes 22 = .ok (.getfield 15, 3) := by decide +kernel
theorem dX6_addBytes_25 : decode cX6_addBytes 25 = .ok (.iload_n 1, 1) := by decide +kernel
theorem dX6_addBytes_26 : decode cX6_addBytes 26 = .ok (.iload_n 2, 1) := by decide +kernel
theorem dX6_addBytes_27 : decode cX6_addBytes 27 = .ok (.iushr, 1) := by decide +kernel
theorem dX6_addBytes_28 : decode cX6_addBytes 28 = .ok (.i2b, 1) := by decide +kernel
theorem dX6_addBytes_29 : decode cX6_addBytes 29 = .ok (.bastore, 1) := by decide +kernel
theorem dX6_addBytes_30 : decode cX6_addBytes 30 = .ok (.aload_n 0, 1) := by decide +kernel
theorem dX6_addBytes_31 : decode cX6_addBytes 31 = .ok (.dup, 1) := by decide +kernel
theorem dX6_addBytes_32 : decode cX6_addBytes 32 = .ok (.getfield 15, 3) := by decide +kernel
theorem dX6_addBytes_35 : decode cX6_addBytes 35 = .ok (.iconst 1, 1) := by decide +kernel
theorem dX6_addBytes_36 : decode cX6_addBytes 36 = .ok (.iadd, 1) := by decide +kernel
theorem dX6_addBytes_37 : decode cX6_addBytes 37 = .ok (.putfield 15, 3) := by decide +kernel
theorem dX6_addBytes_40 : decode cX6_addBytes 40 = .ok (.iinc 2 (-8), 3) := by decide +kernel
theorem dX6_addBytes_43 : decode cX6_addBytes 43 = .ok (.goto (-40), 3) := by decide +kernel
theorem dX6_addBytes_46 : decode cX6_addBytes 46 = .ok (.return_, 1) := by decide +kernel
theorem dX6_read_0 : decode cX6_read 0 = .ok (.aload_n 0, 1) := by decide +kernel
theorem dX6_read_1 : decode cX6_read 1 = .ok (.iload_n 1, 1) := by decide +kernel
theorem dX6_read_2 : decode cX6_read 2 = .ok (.aload_n 0, 1) := by decide +kernel
theorem dX6_read_3 : decode cX6_read 3 = .ok (.getfield 15, 3) := by decide +kernel
theorem dX6_read_6 : decode cX6_read 6 = .ok (.invokestatic 54, 3) := by decide +kernel
theorem dX6_read_9 : decode cX6_read 9 = .ok (.putfield 26, 3) := by decide +kernel
theorem dX6_read_12 : decode cX6_read 12 = .ok (.aload_n 0, 1) := by decide +kernel
theorem dX6_read_13 : decode cX6_read 13 = .ok (.iconst 0, 1) := by decide +kernel
theorem dX6_read_14 : decode cX6_read 14 = .ok (.putfield 15, 3) := by decide +kernel
theorem dX6_read_17 : decode cX6_read 17 = .ok (.aload_n 0, 1) := by decide +kernel
theorem dX6_read_18 : decode cX6_read 18 = .ok (.iconst 0, 1) := by decide +kernel
theorem dX6_read_19 : decode cX6_read 19 = .ok (.putfield 29, 3) := by decide +kernel
theorem dX6_read_22 : decode cX6_read 22 = .ok (.aload_n 0, 1) := by decide +kernel
theorem dX6_read_23 : decode cX6_read 23 = .ok (.iconst 0, 1) := by decide +kernel
theorem dX6_read_24 : decode cX6_read 24 = .ok (.putfield 41, 3) := by decide +kernel
theorem dX6_read_27 : decode cX6_read 27 = .ok (.aload_n 0, 1) := by decide +kernel
theorem dX6_read_28 : decode cX6_read 28 = .ok (.iconst (-1), 1) := by decide +kernel
theorem dX6_read_29 : decode cX6_read 29 = .ok (.putfield 44, 3) := by decide +kernel
theorem dX6_read_32 : decode cX6_read 32 = .ok (.aload_n 0, 1) := by decide +kernel
theorem dX6_read_33 : decode cX6_read 33 = .ok (.iconst 0, 1) := by decide +kernel
theorem dX6_read_34 : decode cX6_read 34 = .ok (.putfield 47, 3) := by decide +kernel
theorem dX6_read_37 : decode cX6_read 37 = .ok (.aload_n 0, 1) := by decide +kernel
theorem dX6_read_38 : decode cX6_read 38 = .ok (.iconst 0, 1) := by decide +kernel
theorem dX6_read_39 : decode cX6_read 39 = .ok (.putfield 51, 3) := by decide +kernel
theorem dX6_read_42 : decode cX6_read 42 = .ok (.aload_n 0, 1) := by decide +kernel
theorem dX6_read_43 : decode cX6_read 43 = .ok (.getfield 22, 3) := by decide +kernel
theorem dX6_read_46 : decode cX6_read 46 = .ok (.aload_n 0, 1) := by decide +kernel
theorem dX6_read_47 : decode cX6_read 47 = .ok (.getfield 26, 3) := by decide +kernel
theorem dX6_read_50 : decode cX6_read 50 = .ok (.invokevirtual 60, 3) := by decide +kernel
theorem dX6_read_53 : decode cX6_read 53 = .ok (.aload_n 0, 1) := by decide +kernel
theorem dX6_read_54 : decode cX6_read 54 = .ok (.invokevirtual 64, 3) := by decide +kernel
theorem dX6_read_57 : decode cX6_read 57 = .ok (.aload_n 0, 1) := by decide +kernel
theorem dX6_read_58 : decode cX6_read 58 = .ok (.invokevirtual 67, 3) := by decide +kernel
theorem dX6_read_61 : decode cX6_read 61 = .ok (.iconst 0, 1) := by decide +kernel
theorem dX6_read_62 : decode cX6_read 62 = .ok (.istore_n 2, 1) := by decide +kernel
theorem dX6_read_63 : decode cX6_read 63 = .ok (.iload_n 2, 1) := by decide +kernel
theorem dX6_read_64 : decode cX6_read 64 = .ok (.aload_n 0, 1) := by decide +kernel
theorem dX6_read_65 : decode cX6_read 65 = .ok (.getfield 26, 3) := by decide +kernel
theorem dX6_read_68 : decode cX6_read 68 = .ok (.if_icmp .ge 34, 3) := by decide +kernel
theorem dX6_read_71 : decode cX6_read 71 = .ok (.aload_n 0, 1) := by decide +kernel
theorem dX6_read_72 : decode cX6_read 72 = .ok (.getfield 41, 3) := by decide +kernel
theorem dX6_read_75 : decode cX6_read 75 = .ok (.ifCond .ne 27, 3) := by decide +kernel
theorem dX6_read_78 : decode cX6_read 78 = .ok (.aload_n 0, 1) := by decide +kernel
theorem dX6_read_79 : decode cX6_read 79 = .ok (.getfield 32, 3) := by decide +kernel
theorem dX6_read_82 : decode cX6_read 82 = .ok (.iconst (-1), 1) := by decide +kernel
theorem dX6_read_83 : decode cX6_read 83 = .ok (.if_icmp .eq 19, 3) := by decide +kernel
theorem dX6_read_86 : decode cX6_read 86 = .ok (.aload_n 0, 1) := by decide +kernel
theorem dX6_read_87 : decode cX6_read 87 = .ok (.invokevirtual 70, 3) := by decide +kernel
theorem dX6_read_90 : decode cX6_read 90 = .ok (.aload_n 0, 1) := by decide +kernel
theorem dX6_read_91 : decode cX6_read 91 = .ok (.bipush 59, 2) := by decide +kernel
theorem dX6_read_93 : decode cX6_read 93 = .ok (.invokevirtual 73, 3) := by decide +kernel
theorem dX6_read_96 : decode cX6_read 96 = .ok (.iinc 2 1, 3) := by decide +kernel
theorem dX6_read_99 : decode cX6_read 99 = .ok (.goto (-36), 3) := by decide +kernel
theorem dX6_read_102 : decode cX6_read 102 = .ok (.aload_n 0, 1) := by decide +kernel
theorem dX6_read_103 : decode cX6_read 103 = .ok (.getfield 41, 3) := by decide +kernel
theorem dX6_read_106 : decode cX6_read 106 = .ok (.ireturn, 1) := by decide +kernel
theorem dX6_readHead_0 : decode cX6_readHead 0 = .ok (.aload_n 0, 1) := by decide +kernel
theorem dX6_readHead_1 : decode cX6_readHead 1 = .ok (.ldc 76, 2) := by decide +kernel
theorem dX6_readHead_3 : decode cX6_readHead 3 = .ok (.invokevirtual 78, 3) := by decide +kernel
theorem dX6_readHead_6 : decode cX6_readHead 6 = .ok (.aload_n 0, 1) := by decide +kernel
theorem dX6_readHead_7 : decode cX6_readHead 7 = .ok (.iconst 0, 1) := by decide +kernel
theorem dX6_readHead_8 : decode cX6_readHead 8 = .ok (.ldc 82, 2) := by decide +kernel
theorem dX6_readHead_10 : decode cX6_readHead 10 = .ok (.invokevirtual 83, 3) := by decide +kernel
theorem dX6_readHead_13 : decode cX6_readHead 13 = .ok (.istore_n 1, 1) := by decide +kernel
theorem dX6_readHead_14 : decode cX6_readHead 14 = .ok (.aload_n 0, 1) := by decide +kernel
theorem dX6_readHead_15 : decode cX6_readHead 15 = .ok (.bipush 59, 2) := by decide +kernel
theorem dX6_readHead_17 : decode cX6_readHead 17 = .ok (.invokevirtual 73, 3) := by decide +kernel
theorem dX6_readHead_20 : decode cX6_readHead 20 = .ok (.aload_n 0, 1) := by decide +kernel
theorem dX6_readHead_21 : decode cX6_readHead 21 = .ok (.ldc 86, 2) := by decide +kernel
theorem dX6_readHead_23 : decode cX6_readHead 23 = .ok (.invokevirtual 78, 3) := by decide +kernel
theorem dX6_readHead_26 : decode cX6_readHead 26 = .ok (.aload_n 0, 1) := by decide +kernel
theorem dX6_readHead_27 : decode cX6_readHead 27 = .ok (.iconst 0, 1) := by decide +kernel
theorem dX6_readHead_28 : decode cX6_readHead 28 = .ok (.bipush 20, 2) := by decide +kernel
theorem dX6_readHead_30 : decode cX6_readHead 30 = .ok (.invokevirtual 83, 3) := by decide +kernel
theorem dX6_readHead_33 : decode cX6_readHead 33 = .ok (.istore_n 2, 1) := by decide +kernel
theorem dX6_readHead_34 : decode cX6_readHead 34 = .ok (.aload_n 0, 1) := by decide +kernel
theorem dX6_readHead_35 : decode cX6_readHead 35 = .ok (.iconst 0, 1) := by decide +kernel
theorem dX6_readHead_36 : decode cX6_readHead 36 = .ok (.bipush 20, 2) := by decide +kernel
theorem dX6_readHead_38 : decode cX6_readHead 38 = .ok (.invokevirtual 83, 3) := by decide +kernel
theorem dX6_readHead_41 : decode cX6_readHead 41 = .ok (.istore_n 3, 1) := by decide +kernel
theorem dX6_readHead_42 : decode cX6_readHead 42 = .ok (.aload_n 0, 1) := by decide +kernel
theorem dX6_readHead_43 : decode cX6_readHead 43 = .ok (.iconst 0, 1) := by decide +kernel
theorem dX6_readHead_44 : decode cX6_readHead 44 = .ok (.bipush 60, 2) := by decide +kernel
theorem dX6_readHead_46 : decode cX6_readHead 46 = .ok (.invokevirtual 83, 3) := by decide +kernel
theorem dX6_readHead_49 : decode cX6_readHead 49 = .ok (.istore 4, 2) := by decide +kernel
theorem dX6_readHead_51 : decode cX6_readHead 51 = .ok (.aload_n 0, 1) := by decide +kernel
theorem dX6_readHead_52 : decode cX6_readHead 52 = .ok (.bipush 59, 2) := by decide +kernel
theorem dX6_readHead_54 : decode cX6_readHead 54 = .ok (.invokevirtual 73, 3) := by decide +kernel
theorem dX6_readHead_57 : decode cX6_readHead 57 = .ok (.aload_n 0, 1) := by decide +kernel
theorem dX6_readHead_58 : decode cX6_readHead 58 = .ok (.getfield 41, 3) := by decide +kernel
theorem dX6_readHead_61 : decode cX6_readHead 61 = .ok (.ifCond .ne 31, 3) := by decide +kernel
theorem dX6_readHead_64 : decode cX6_readHead 64 = .ok (.aload_n 0, 1) := by decide +kernel
theorem dX6_readHead_65 : decode cX6_readHead 65 = .ok (.getfield 22, 3) := by decide +kernel
theorem dX6_readHead_68 : decode cX6_readHead 68 = .ok (.getfield 88, 3) := by decide +kernel
theorem dX6_readHead_71 : decode cX6_readHead 71 = .ok (.iconst 0, 1) := by decide +kernel
theorem dX6_readHead_72 : decode cX6_readHead 72 = .ok (.iload_n 1, 1) := by decide +kernel
theorem dX6_readHead_73 : decode cX6_readHead 73 = .ok (.i2l, 1) := by decide +kernel
theorem dX6_readHead_74 : decode cX6_readHead 74 = .ok (.lastore, 1) := by decide +kernel
theorem dX6_readHead_75 : decode cX6_readHead 75 = .ok (.aload_n 0, 1) := by decide +kernel
theorem dX6_readHead_76 : decode cX6_readHead 76 = .ok (.getfield 22, 3) := by decide +kernel
theorem dX6_readHead_79 : decode cX6_readHead 79 = .ok (.getfield 92, 3) := by decide +kernel
theorem dX6_readHead_82 : decode cX6_readHead 82 = .ok (.iconst (-1), 1) := by decide +kernel
theorem dX6_readHead_83 : decode cX6_readHead 83 = .ok (.iload_n 2, 1) := by decide +kernel
theorem dX6_readHead_84 : decode cX6_readHead 84 = .ok (.iload_n 3, 1) := by decide +kernel
theorem dX6_readHead_85 : decode cX6_readHead 85 = .ok (.iload 4, 2) := by decide +kernel
theorem dX6_readHead_87 : decode cX6_readHead 87 = .ok (.iconst 0, 1) := by decide +kernel
theorem dX6_readHead_88 : decode cX6_readHead 88 = .ok (.iconst 0, 1) := by decide +kernel
theorem dX6_readHead_89 : decode cX6_readHead 89 = .ok (.invokevirtual 96, 3) := by decide +kernel
theorem dX6_readHead_92 : decode cX6_readHead 92 = .ok (.return_, 1) := by decide +kernel
theorem dX6_readStatement_0 : decode cX6_readStatement 0 = .ok (.aload_n 0, 1) := by decide +kernel
theorem dX6_readStatement_1 : decode cX6_readStatement 1 = .ok (.ldc 102, 2) := by decide +kernel
theorem dX6_readStatement_3 : decode cX6_readStatement 3 = .ok (.invokevirtual 104, 3) := by decide +kernel
theorem dX6_readStatement_6 : decode cX6_readStatement 6 = .ok (.ifCond .eq 10, 3) := by decide +kernel
theorem dX6_readStatement_9 : decode cX6_readStatement 9 = .ok (.aload_n 0, 1) := by decide +kernel
theorem dX6_readStatement_10 : decode cX6_readStatement 10 = .ok (.invokevirtual 108, 3) := by decide +kernel
theorem dX6_readStatement_13 : decode cX6_readStatement 13 = .ok (.goto 107, 3) := by decide +kernel
theorem dX6_readStatement_16 : decode cX6_readStatement 16 = .ok (.aload_n 0, 1) := by decide +kernel
theorem dX6_readStatement_17 : decode cX6_readStatement 17 = .ok (.ldc 111, 2) := by decide +kernel
theorem dX6_readStatement_19 : decode cX6_readStatement 19 = .ok (.invokevirtual 104, 3) := by decide +kernel
theorem dX6_readStatement_22 : decode cX6_readStatement 22 = .ok (.ifCond .eq 10, 3) := by decide +kernel
theorem dX6_readStatement_25 : decode cX6_readStatement 25 = .ok (.aload_n 0, 1) := by decide +kernel
theorem dX6_readStatement_26 : decode cX6_readStatement 26 = .ok (.invokevirtual 113, 3) := by decide +kernel
theorem dX6_readStatement_29 : decode cX6_readStatement 29 = .ok (.goto 91, 3) := by decide +kernel
theorem dX6_readStatement_32 : decode cX6_readStatement 32 = .ok (.aload_n 0, 1) := by decide +kernel
theorem dX6_readStatement_33 : decode cX6_readStatement 33 = .ok (.ldc 116, 2) := by decide +kernel
theorem dX6_readStatement_35 : decode cX6_readStatement 35 = .ok (.invokevirtual 104, 3) := by decide +kernel
theorem dX6_readStatement_38 : decode cX6_readStatement 38 = .ok (.ifCond .eq 39, 3) := by decide +kernel
theorem dX6_readStatement_41 : decode cX6_readStatement 41 = .ok (.aload_n 0, 1) := by decide +kernel
theorem dX6_readStatement_42 : decode cX6_readStatement 42 = .ok (.getfield 47, 3) := by decide +kernel
theorem dX6_readStatement_45 : decode cX6_readStatement 45 = .ok (.ifCond .ne 32, 3) := by decide +kernel
theorem dX6_readStatement_48 : decode cX6_readStatement 48 = .ok (.aload_n 0, 1) := by decide +kernel
theorem dX6_readStatement_49 : decode cX6_readStatement 49 = .ok (.iconst 1, 1) := by decide +kernel
theorem dX6_readStatement_50 : decode cX6_readStatement 50 = .ok (.putfield 47, 3) := by decide +kernel
theorem dX6_readStatement_53 : decode cX6_readStatement 53 = .ok (.aload_n 0, 1) := by decide +kernel
theorem dX6_readStatement_54 : decode cX6_readStatement 54 = .ok (.invokevirtual 64, 3) := by decide +kernel
theorem dX6_readStatement_57 : decode cX6_readStatement 57 = .ok (.aload_n 0, 1) := by decide +kernel
theorem dX6_readStatement_58 : decode cX6_readStatement 58 = .ok (.getfield 22, 3) := by decide +kernel
theorem dX6_readStatement_61 : decode cX6_readStatement 61 = .ok (.getfield 118, 3) := by decide +kernel
theorem dX6_readStatement_64 : decode cX6_readStatement 64 = .ok (.aload_n 0, 1) := by decide +kernel
theorem dX6_readStatement_65 : decode cX6_readStatement 65 = .ok (.iconst 0, 1) := by decide +kernel
theorem dX6_readStatement_66 : decode cX6_readStatement 66 = .ok (.bipush 100, 2) := by decide +kernel
theorem dX6_readStatement_68 : decode cX6_readStatement 68 = .ok (.invokevirtual 83, 3) := by decide +kernel
theorem dX6_readStatement_71 : decode cX6_readStatement 71 = .ok (.putfield 122, 3) := by decide +kernel
theorem dX6_readStatement_74 : decode cX6_readStatement 74 = .ok (.goto 46, 3) := by decide +kernel
theorem dX6_readStatement_77 : decode cX6_readStatement 77 = .ok (.aload_n 0, 1) := by decide +kernel
theorem dX6_readStatement_78 : decode cX6_readStatement 78 = .ok (.ldc 126, 2) := by decide +kernel
theorem dX6_readStatement_80 : decode cX6_readStatement 80 = .ok (.invokevirtual 104, 3) := by decide +kernel
theorem dX6_readStatement_83 : decode cX6_readStatement 83 = .ok (.ifCond .eq 27, 3) := by decide +kernel
theorem dX6_readStatement_86 : decode cX6_readStatement 86 = .ok (.aload_n 0, 1) := by decide +kernel
theorem dX6_readStatement_87 : decode cX6_readStatement 87 = .ok (.getfield 51, 3) := by decide +kernel
theorem dX6_readStatement_90 : decode cX6_readStatement 90 = .ok (.ifCond .ne 20, 3) := by decide +kernel
theorem dX6_readStatement_93 : decode cX6_readStatement 93 = .ok (.aload_n 0, 1) := by decide +kernel
theorem dX6_readStatement_94 : decode cX6_readStatement 94 = .ok (.iconst 1, 1) := by decide +kernel
theorem dX6_readStatement_95 : decode cX6_readStatement 95 = .ok (.putfield 51, 3) := by decide +kernel
theorem dX6_readStatement_98 : decode cX6_readStatement 98 = .ok (.aload_n 0, 1) := by decide +kernel
theorem dX6_readStatement_99 : decode cX6_readStatement 99 = .ok (.invokevirtual 64, 3) := by decide +kernel
theorem dX6_readStatement_102 : decode cX6_readStatement 102 = .ok (.aload_n 0, 1) := by decide +kernel
theorem dX6_readStatement_103 : decode cX6_readStatement 103 = .ok (.iconst 0, 1) := by decide +kernel
theorem dX6_readStatement_104 : decode cX6_readStatement 104 = .ok (.invokevirtual 128, 3) := by decide +kernel
theorem dX6_readStatement_107 : decode cX6_readStatement 107 = .ok (.goto 13, 3) := by decide +kernel
theorem dX6_readStatement_110 : decode cX6_readStatement 110 = .ok (.aload_n 0, 1) := by decide +kernel
theorem dX6_readStatement_111 : decode cX6_readStatement 111 = .ok (.aload_n 0, 1) := by decide +kernel
theorem dX6_readStatement_112 : decode cX6_readStatement 112 = .ok (.getfield 35, 3) := by decide +kernel
theorem dX6_readStatement_115 : decode cX6_readStatement 115 = .ok (.bipush (-2), 2) := by decide +kernel
theorem dX6_readStatement_117 : decode cX6_readStatement 117 = .ok (.invokevirtual 131, 3) := by decide +kernel
theorem dX6_readStatement_120 : decode cX6_readStatement 120 = .ok (.return_, 1) := by decide +kernel
theorem dX6_readSub_0 : decode cX6_readSub 0 = .ok (.aload_n 0, 1) := by decide +kernel
theorem dX6_readSub_1 : decode cX6_readSub 1 = .ok (.getfield 22, 3) := by decide +kernel
theorem dX6_readSub_4 : decode cX6_readSub 4 = .ok (.getfield 92, 3) := by decide +kernel
theorem dX6_readSub_7 : decode cX6_readSub 7 = .ok (.getfield 135, 3) := by decide +kernel
theorem dX6_readSub_10 : decode cX6_readSub 10 = .ok (.bipush 8, 2) := by decide +kernel
theorem dX6_readSub_12 : decode cX6_readSub 12 = .ok (.if_icmp .lt 14, 3) := by decide +kernel
theorem dX6_readSub_15 : decode cX6_readSub 15 = .ok (.aload_n 0, 1) := by decide +kernel
theorem dX6_readSub_16 : decode cX6_readSub 16 = .ok (.aload_n 0, 1) := by decide +kernel
theorem dX6_readSub_17 : decode cX6_readSub 17 = .ok (.getfield 35, 3) := by decide +kernel
theorem dX6_readSub_20 : decode cX6_readSub 20 = .ok (.bipush (-4), 2) := by decide +kernel
theorem dX6_readSub_22 : decode cX6_readSub 22 = .ok (.invokevirtual 131, 3) := by decide +kernel
theorem dX6_readSub_25 : decode cX6_readSub 25 = .ok (.return_, 1) := by decide +kernel
theorem dX6_readSub_26 : decode cX6_readSub 26 = .ok (.aload_n 0, 1) := by decide +kernel
theorem dX6_readSub_27 : decode cX6_readSub 27 = .ok (.invokevirtual 64, 3) := by decide +kernel
theorem dX6_readSub_30 : decode cX6_readSub 30 = .ok (.aload_n 0, 1) := by decide +kernel
theorem dX6_readSub_31 : decode cX6_readSub 31 = .ok (.iconst 0, 1) := by decide +kernel
theorem dX6_readSub_32 : decode cX6_readSub 32 = .ok (.aload_n 0, 1) := by decide +kernel
theorem dX6_readSub_33 : decode cX6_readSub 33 = .ok (.getfield 22, 3) := by decide +kernel
theorem dX6_readSub_36 : decode cX6_readSub 36 = .ok (.getfield 92, 3) := by decide +kernel
theorem dX6_readSub_39 : decode cX6_readSub 39 = .ok (.getfield 135, 3) := by decide +kernel
theorem dX6_readSub_42 : decode cX6_readSub 42 = .ok (.iconst 1, 1) := by decide +kernel
theorem dX6_readSub_43 : decode cX6_readSub 43 = .ok (.isub, 1) := by decide +kernel
theorem dX6_readSub_44 : decode cX6_readSub 44 = .ok (.invokevirtual 83, 3) := by decide +kernel
theorem dX6_readSub_47 : decode cX6_readSub 47 = .ok (.istore_n 1, 1) := by decide +kernel
theorem dX6_readSub_48 : decode cX6_readSub 48 = .ok (.aload_n 0, 1) := by decide +kernel
theorem dX6_readSub_49 : decode cX6_readSub 49 = .ok (.iconst 0, 1) := by decide +kernel
theorem dX6_readSub_50 : decode cX6_readSub 50 = .ok (.bipush 20, 2) := by decide +kernel
theorem dX6_readSub_52 : decode cX6_readSub 52 = .ok (.invokevirtual 83, 3) := by decide +kernel
theorem dX6_readSub_55 : decode cX6_readSub 55 = .ok (.istore_n 2, 1) := by decide +kernel
theorem dX6_readSub_56 : decode cX6_readSub 56 = .ok (.aload_n 0, 1) := by decide +kernel
theorem dX6_readSub_57 : decode cX6_readSub 57 = .ok (.iconst 0, 1) := by decide +kernel
theorem dX6_readSub_58 : decode cX6_readSub 58 = .ok (.bipush 20, 2) := by decide +kernel
theorem dX6_readSub_60 : decode cX6_readSub 60 = .ok (.invokevirtual 83, 3) := by decide +kernel
theorem dX6_readSub_63 : decode cX6_readSub 63 = .ok (.istore_n 3, 1) := by decide +kernel
theorem dX6_readSub_64 : decode cX6_readSub 64 = .ok (.aload_n 0, 1) := by decide +kernel
theorem dX6_readSub_65 : decode cX6_readSub 65 = .ok (.iconst 0, 1) := by decide +kernel
theorem dX6_readSub_66 : decode cX6_readSub 66 = .ok (.bipush 60, 2) := by decide +kernel
theorem dX6_readSub_68 : decode cX6_readSub 68 = .ok (.invokevirtual 83, 3) := by decide +kernel
theorem dX6_readSub_71 : decode cX6_readSub 71 = .ok (.istore 4, 2) := by decide +kernel
theorem dX6_readSub_73 : decode cX6_readSub 73 = .ok (.aload_n 0, 1) := by decide +kernel
theorem dX6_readSub_74 : decode cX6_readSub 74 = .ok (.iconst 0, 1) := by decide +kernel
theorem dX6_readSub_75 : decode cX6_readSub 75 = .ok (.iconst 3, 1) := by decide +kernel
theorem dX6_readSub_76 : decode cX6_readSub 76 = .ok (.invokevirtual 83, 3) := by decide +kernel
theorem dX6_readSub_79 : decode cX6_readSub 79 = .ok (.istore 5, 2) := by decide +kernel
theorem dX6_readSub_81 : decode cX6_readSub 81 = .ok (.aload_n 0, 1) := by decide +kernel
theorem dX6_readSub_82 : decode cX6_readSub 82 = .ok (.ldc 138, 2) := by decide +kernel
theorem dX6_readSub_84 : decode cX6_readSub 84 = .ok (.invokevirtual 104, 3) := by decide +kernel
theorem dX6_readSub_87 : decode cX6_readSub 87 = .ok (.istore 6, 2) := by decide +kernel
theorem dX6_readSub_89 : decode cX6_readSub 89 = .ok (.iload 6, 2) := by decide +kernel
theorem dX6_readSub_91 : decode cX6_readSub 91 = .ok (.ifCond .eq 7, 3) := by decide +kernel
theorem dX6_readSub_94 : decode cX6_readSub 94 = .ok (.aload_n 0, 1) := by decide +kernel
theorem dX6_readSub_95 : decode cX6_readSub 95 = .ok (.invokevirtual 64, 3) := by decide +kernel
theorem dX6_readSub_98 : decode cX6_readSub 98 = .ok (.aload_n 0, 1) := by decide +kernel
theorem dX6_readSub_99 : decode cX6_readSub 99 = .ok (.getfield 41, 3) := by decide +kernel
theorem dX6_readSub_102 : decode cX6_readSub 102 = .ok (.ifCond .ne 22, 3) := by decide +kernel
theorem dX6_readSub_105 : decode cX6_readSub 105 = .ok (.aload_n 0, 1) := by decide +kernel
theorem dX6_readSub_106 : decode cX6_readSub 106 = .ok (.getfield 22, 3) := by decide +kernel
theorem dX6_readSub_109 : decode cX6_readSub 109 = .ok (.getfield 92, 3) := by decide +kernel
theorem dX6_readSub_112 : decode cX6_readSub 112 = .ok (.iload_n 1, 1) := by decide +kernel
theorem dX6_readSub_113 : decode cX6_readSub 113 = .ok (.iload_n 2, 1) := by decide +kernel
theorem dX6_readSub_114 : decode cX6_readSub 114 = .ok (.iload_n 3, 1) := by decide +kernel
theorem dX6_readSub_115 : decode cX6_readSub 115 = .ok (.iload 4, 2) := by decide +kernel
theorem dX6_readSub_117 : decode cX6_readSub 117 = .ok (.iload 5, 2) := by decide +kernel
theorem dX6_readSub_119 : decode cX6_readSub 119 = .ok (.iload 6, 2) := by decide +kernel
theorem dX6_readSub_121 : decode cX6_readSub 121 = .ok (.invokevirtual 96, 3) := by decide +kernel
theorem dX6_readSub_124 : decode cX6_readSub 124 = .ok (.return_, 1) := by decide +kernel
theorem dX6_readItem_0 : decode cX6_readItem 0 = .ok (.aload_n 0, 1) := by decide +kernel
theorem dX6_readItem_1 : decode cX6_readItem 1 = .ok (.invokevirtual 64, 3) := by decide +kernel
theorem dX6_readItem_4 : decode cX6_readItem 4 = .ok (.aload_n 0, 1) := by decide +kernel
theorem dX6_readItem_5 : decode cX6_readItem 5 = .ok (.getfield 35, 3) := by decide +kernel
theorem dX6_readItem_8 : decode cX6_readItem 8 = .ok (.istore_n 1, 1) := by decide +kernel
theorem dX6_readItem_9 : decode cX6_readItem 9 = .ok (.aload_n 0, 1) := by decide +kernel
theorem dX6_readItem_10 : decode cX6_readItem 10 = .ok (.iconst 0, 1) := by decide +kernel
theorem dX6_readItem_11 : decode cX6_readItem 11 = .ok (.aload_n 0, 1) := by decide +kernel
theorem dX6_readItem_12 : decode cX6_readItem 12 = .ok (.getfield 22, 3) := by decide +kernel
theorem dX6_readItem_15 : decode cX6_readItem 15 = .ok (.getfield 92, 3) := by decide +kernel
theorem dX6_readItem_18 : decode cX6_readItem 18 = .ok (.getfield 135, 3) := by decide +kernel
theorem dX6_readItem_21 : decode cX6_readItem 21 = .ok (.iconst 1, 1) := by decide +kernel
theorem dX6_readItem_22 : decode cX6_readItem 22 = .ok (.isub, 1) := by decide +kernel
theorem dX6_readItem_23 : decode cX6_readItem 23 = .ok (.invokevirtual 83, 3) := by decide +kernel
theorem dX6_readItem_26 : decode cX6_readItem 26 = .ok (.istore_n 2, 1) := by decide +kernel
theorem dX6_readItem_27 : decode cX6_readItem 27 = .ok (.aload_n 0, 1) := by decide +kernel
theorem dX6_readItem_28 : decode cX6_readItem 28 = .ok (.getfield 41, 3) := by decide +kernel
theorem dX6_readItem_31 : decode cX6_readItem 31 = .ok (.ifCond .ne 27, 3) := by decide +kernel
theorem dX6_readItem_34 : decode cX6_readItem 34 = .ok (.aload_n 0, 1) := by decide +kernel
theorem dX6_readItem_35 : decode cX6_readItem 35 = .ok (.getfield 22, 3) := by decide +kernel
theorem dX6_readItem_38 : decode cX6_readItem 38 = .ok (.getfield 140, 3) := by decide +kernel
theorem dX6_readItem_41 : decode cX6_readItem 41 = .ok (.getfield 144, 3) := by decide +kernel
theorem dX6_readItem_44 : decode cX6_readItem 44 = .ok (.iload_n 2, 1) := by decide +kernel
theorem dX6_readItem_45 : decode cX6_readItem 45 = .ok (.iaload, 1) := by decide +kernel
theorem dX6_readItem_46 : decode cX6_readItem 46 = .ok (.bipush 6, 2) := by decide +kernel
theorem dX6_readItem_48 : decode cX6_readItem 48 = .ok (.if_icmp .lt 10, 3) := by decide +kernel
theorem dX6_readItem_51 : decode cX6_readItem 51 = .ok (.aload_n 0, 1) := by decide +kernel
theorem dX6_readItem_52 : decode cX6_readItem 52 = .ok (.iload_n 1, 1) := by decide +kernel
theorem dX6_readItem_53 : decode cX6_readItem 53 = .ok (.bipush (-4), 2) := by decide +kernel
theorem dX6_readItem_55 : decode cX6_readItem 55 = .ok (.invokevirtual 131, 3) := by decide +kernel
theorem dX6_readItem_58 : decode cX6_readItem 58 = .ok (.aload_n 0, 1) := by decide +kernel
theorem dX6_readItem_59 : decode cX6_readItem 59 = .ok (.iconst 1, 1) := by decide +kernel
theorem dX6_readItem_60 : decode cX6_readItem 60 = .ok (.sipush 999, 3) := by decide +kernel
theorem dX6_readItem_63 : decode cX6_readItem 63 = .ok (.invokevirtual 83, 3) := by decide +kernel
theorem dX6_readItem_66 : decode cX6_readItem 66 = .ok (.istore_n 3, 1) := by decide +kernel
theorem dX6_readItem_67 : decode cX6_readItem 67 = .ok (.aload_n 0, 1) := by decide +kernel
theorem dX6_readItem_68 : decode cX6_readItem 68 = .ok (.iconst 0, 1) := by decide +kernel
theorem dX6_readItem_69 : decode cX6_readItem 69 = .ok (.sipush 9999, 3) := by decide +kernel
theorem dX6_readItem_72 : decode cX6_readItem 72 = .ok (.invokevirtual 83, 3) := by decide +kernel
theorem dX6_readItem_75 : decode cX6_readItem 75 = .ok (.istore 4, 2) := by decide +kernel
theorem dX6_readItem_77 : decode cX6_readItem 77 = .ok (.aload_n 0, 1) := by decide +kernel
theorem dX6_readItem_78 : decode cX6_readItem 78 = .ok (.getfield 41, 3) := by decide +kernel
theorem dX6_readItem_81 : decode cX6_readItem 81 = .ok (.ifCond .ne 17, 3) := by decide +kernel
theorem dX6_readItem_84 : decode cX6_readItem 84 = .ok (.aload_n 0, 1) := by decide +kernel
theorem dX6_readItem_85 : decode cX6_readItem 85 = .ok (.getfield 22, 3) := by decide +kernel
theorem dX6_readItem_88 : decode cX6_readItem 88 = .ok (.getfield 140, 3) := by decide +kernel
theorem dX6_readItem_91 : decode cX6_readItem 91 = .ok (.iload_n 2, 1) := by decide +kernel
theorem dX6_readItem_92 : decode cX6_readItem 92 = .ok (.iload_n 3, 1) := by decide +kernel
theorem dX6_readItem_93 : decode cX6_readItem 93 = .ok (.iload 4, 2) := by decide +kernel
theorem dX6_readItem_95 : decode cX6_readItem 95 = .ok (.invokevirtual 149, 3) := by decide +kernel
theorem dX6_readItem_98 : decode cX6_readItem 98 = .ok (.return_, 1) := by decide +kernel
theorem dX6_readSum_0 : decode cX6_readSum 0 = .ok (.aload_n 0, 1) := by decide +kernel
theorem dX6_readSum_1 : decode cX6_readSum 1 = .ok (.iload_n 1, 1) := by decide +kernel
theorem dX6_readSum_2 : decode cX6_readSum 2 = .ok (.invokevirtual 152, 3) := by decide +kernel
theorem dX6_readSum_5 : decode cX6_readSum 5 = .ok (.iconst 0, 1) := by decide +kernel
theorem dX6_readSum_6 : decode cX6_readSum 6 = .ok (.istore_n 2, 1) := by decide +kernel
theorem dX6_readSum_7 : decode cX6_readSum 7 = .ok (.iload_n 2, 1) := by decide +kernel
theorem dX6_readSum_8 : decode cX6_readSum 8 = .ok (.aload_n 0, 1) := by decide +kernel
theorem dX6_readSum_9 : decode cX6_readSum 9 = .ok (.getfield 26, 3) := by decide +kernel
theorem dX6_readSum_12 : decode cX6_readSum 12 = .ok (.if_icmp .ge 71, 3) := by decide +kernel
theorem dX6_readSum_15 : decode cX6_readSum 15 = .ok (.aload_n 0, 1) := by decide +kernel
theorem dX6_readSum_16 : decode cX6_readSum 16 = .ok (.getfield 41, 3) := by decide +kernel
theorem dX6_readSum_19 : decode cX6_readSum 19 = .ok (.ifCond .ne 64, 3) := by decide +kernel
theorem dX6_readSum_22 : decode cX6_readSum 22 = .ok (.aload_n 0, 1) := by decide +kernel
theorem dX6_readSum_23 : decode cX6_readSum 23 = .ok (.getfield 32, 3) := by decide +kernel
theorem dX6_readSum_26 : decode cX6_readSum 26 = .ok (.bipush 43, 2) := by decide +kernel
theorem dX6_readSum_28 : decode cX6_readSum 28 = .ok (.if_icmp .eq 12, 3) := by decide +kernel
theorem dX6_readSum_31 : decode cX6_readSum 31 = .ok (.aload_n 0, 1) := by decide +kernel
theorem dX6_readSum_32 : decode cX6_readSum 32 = .ok (.getfield 32, 3) := by decide +kernel
theorem dX6_readSum_35 : decode cX6_readSum 35 = .ok (.bipush 45, 2) := by decide +kernel
theorem dX6_readSum_37 : decode cX6_readSum 37 = .ok (.if_icmp .ne 46, 3) := by decide +kernel
theorem dX6_readSum_40 : decode cX6_readSum 40 = .ok (.aload_n 0, 1) := by decide +kernel
theorem dX6_readSum_41 : decode cX6_readSum 41 = .ok (.getfield 32, 3) := by decide +kernel
theorem dX6_readSum_44 : decode cX6_readSum 44 = .ok (.bipush 43, 2) := by decide +kernel
theorem dX6_readSum_46 : decode cX6_readSum 46 = .ok (.if_icmp .ne 8, 3) := by decide +kernel
theorem dX6_readSum_49 : decode cX6_readSum 49 = .ok (.bipush (-4), 2) := by decide +kernel
theorem dX6_readSum_51 : decode cX6_readSum 51 = .ok (.goto 5, 3) := by decide +kernel
theorem dX6_readSum_54 : decode cX6_readSum 54 = .ok (.bipush (-5), 2) := by decide +kernel
theorem dX6_readSum_56 : decode cX6_readSum 56 = .ok (.istore_n 3, 1) := by decide +kernel
theorem dX6_readSum_57 : decode cX6_readSum 57 = .ok (.aload_n 0, 1) := by decide +kernel
theorem dX6_readSum_58 : decode cX6_readSum 58 = .ok (.invokevirtual 64, 3) := by decide +kernel
theorem dX6_readSum_61 : decode cX6_readSum 61 = .ok (.aload_n 0, 1) := by decide +kernel
theorem dX6_readSum_62 : decode cX6_readSum 62 = .ok (.iload_n 1, 1) := by decide +kernel
theorem dX6_readSum_63 : decode cX6_readSum 63 = .ok (.invokevirtual 152, 3) := by decide +kernel
theorem dX6_readSum_66 : decode cX6_readSum 66 = .ok (.aload_n 0, 1) := by decide +kernel
theorem dX6_readSum_67 : decode cX6_readSum 67 = .ok (.getfield 22, 3) := by decide +kernel
theorem dX6_readSum_70 : decode cX6_readSum 70 = .ok (.getfield 118, 3) := by decide +kernel
theorem dX6_readSum_73 : decode cX6_readSum 73 = .ok (.iload_n 3, 1) := by decide +kernel
theorem dX6_readSum_74 : decode cX6_readSum 74 = .ok (.invokevirtual 155, 3) := by decide +kernel
theorem dX6_readSum_77 : decode cX6_readSum 77 = .ok (.iinc 2 1, 3) := by decide +kernel
theorem dX6_readSum_80 : decode cX6_readSum 80 = .ok (.goto (-73), 3) := by decide +kernel
theorem dX6_readSum_83 : decode cX6_readSum 83 = .ok (.return_, 1) := by decide +kernel
theorem dX6_readTerm_0 : decode cX6_readTerm 0 = .ok (.aload_n 0, 1) := by decide +kernel
theorem dX6_readTerm_1 : decode cX6_readTerm 1 = .ok (.iload_n 1, 1) := by decide +kernel
theorem dX6_readTerm_2 : decode cX6_readTerm 2 = .ok (.invokevirtual 157, 3) := by decide +kernel
theorem dX6_readTerm_5 : decode cX6_readTerm 5 = .ok (.iconst 0, 1) := by decide +kernel
theorem dX6_readTerm_6 : decode cX6_readTerm 6 = .ok (.istore_n 2, 1) := by decide +kernel
theorem dX6_readTerm_7 : decode cX6_readTerm 7 = .ok (.iload_n 2, 1) := by decide +kernel
theorem dX6_readTerm_8 : decode cX6_readTerm 8 = .ok (.aload_n 0, 1) := by decide +kernel
theorem dX6_readTerm_9 : decode cX6_readTerm 9 = .ok (.getfield 26, 3) := by decide +kernel
theorem dX6_readTerm_12 : decode cX6_readTerm 12 = .ok (.if_icmp .ge 71, 3) := by decide +kernel
theorem dX6_readTerm_15 : decode cX6_readTerm 15 = .ok (.aload_n 0, 1) := by decide +kernel
theorem dX6_readTerm_16 : decode cX6_readTerm 16 = .ok (.getfield 41, 3) := by decide +kernel
theorem dX6_readTerm_19 : decode cX6_readTerm 19 = .ok (.ifCond .ne 64, 3) := by decide +kernel
theorem dX6_readTerm_22 : decode cX6_readTerm 22 = .ok (.aload_n 0, 1) := by decide +kernel
theorem dX6_readTerm_23 : decode cX6_readTerm 23 = .ok (.getfield 32, 3) := by decide +kernel
theorem dX6_readTerm_26 : decode cX6_readTerm 26 = .ok (.bipush 42, 2) := by decide +kernel
theorem dX6_readTerm_28 : decode cX6_readTerm 28 = .ok (.if_icmp .eq 12, 3) := by decide +kernel
theorem dX6_readTerm_31 : decode cX6_readTerm 31 = .ok (.aload_n 0, 1) := by decide +kernel
theorem dX6_readTerm_32 : decode cX6_readTerm 32 = .ok (.getfield 32, 3) := by decide +kernel
theorem dX6_readTerm_35 : decode cX6_readTerm 35 = .ok (.bipush 47, 2) := by decide +kernel
theorem dX6_readTerm_37 : decode cX6_readTerm 37 = .ok (.if_icmp .ne 46, 3) := by decide +kernel
theorem dX6_readTerm_40 : decode cX6_readTerm 40 = .ok (.aload_n 0, 1) := by decide +kernel
theorem dX6_readTerm_41 : decode cX6_readTerm 41 = .ok (.getfield 32, 3) := by decide +kernel
theorem dX6_readTerm_44 : decode cX6_readTerm 44 = .ok (.bipush 42, 2) := by decide +kernel
theorem dX6_readTerm_46 : decode cX6_readTerm 46 = .ok (.if_icmp .ne 8, 3) := by decide +kernel
theorem dX6_readTerm_49 : decode cX6_readTerm 49 = .ok (.bipush (-6), 2) := by decide +kernel
theorem dX6_readTerm_51 : decode cX6_readTerm 51 = .ok (.goto 5, 3) := by decide +kernel
theorem dX6_readTerm_54 : decode cX6_readTerm 54 = .ok (.bipush (-7), 2) := by decide +kernel
theorem dX6_readTerm_56 : decode cX6_readTerm 56 = .ok (.istore_n 3, 1) := by decide +kernel
theorem dX6_readTerm_57 : decode cX6_readTerm 57 = .ok (.aload_n 0, 1) := by decide +kernel
theorem dX6_readTerm_58 : decode cX6_readTerm 58 = .ok (.invokevirtual 64, 3) := by decide +kernel
theorem dX6_readTerm_61 : decode cX6_readTerm 61 = .ok (.aload_n 0, 1) := by decide +kernel
theorem dX6_readTerm_62 : decode cX6_readTerm 62 = .ok (.iload_n 1, 1) := by decide +kernel
theorem dX6_readTerm_63 : decode cX6_readTerm 63 = .ok (.invokevirtual 157, 3) := by decide +kernel
theorem dX6_readTerm_66 : decode cX6_readTerm 66 = .ok (.aload_n 0, 1) := by decide +kernel
theorem dX6_readTerm_67 : decode cX6_readTerm 67 = .ok (.getfield 22, 3) := by decide +kernel
theorem dX6_readTerm_70 : decode cX6_readTerm 70 = .ok (.getfield 118, 3) := by decide +kernel
theorem dX6_readTerm_73 : decode cX6_readTerm 73 = .ok (.iload_n 3, 1) := by decide +kernel
theorem dX6_readTerm_74 : decode cX6_readTerm 74 = .ok (.invokevirtual 155, 3) := by decide +kernel
theorem dX6_readTerm_77 : decode cX6_readTerm 77 = .ok (.iinc 2 1, 3) := by decide +kernel
theorem dX6_readTerm_80 : decode cX6_readTerm 80 = .ok (.goto (-73), 3) := by decide +kernel
theorem dX6_readTerm_83 : decode cX6_readTerm 83 = .ok (.return_, 1) := by decide +kernel
theorem dX6_readFactor_0 : decode cX6_readFactor 0 = .ok (.aload_n 0, 1) := by decide +kernel
theorem dX6_readFactor_1 : decode cX6_readFactor 1 = .ok (.ldc 160, 2) := by decide +kernel
theorem dX6_readFactor_3 : decode cX6_readFactor 3 = .ok (.invokevirtual 104, 3) := by decide +kernel
theorem dX6_readFactor_6 : decode cX6_readFactor 6 = .ok (.ifCond .eq 11, 3) := by decide +kernel
theorem dX6_readFactor_9 : decode cX6_readFactor 9 = .ok (.aload_n 0, 1) := by decide +kernel
theorem dX6_readFactor_10 : decode cX6_readFactor 10 = .ok (.iconst (-1), 1) := by decide +kernel
theorem dX6_readFactor_11 : decode cX6_readFactor 11 = .ok (.invokevirtual 162, 3) := by decide +kernel
theorem dX6_readFactor_14 : decode cX6_readFactor 14 = .ok (.goto 104, 3) := by decide +kernel
theorem dX6_readFactor_17 : decode cX6_readFactor 17 = .ok (.aload_n 0, 1) := by decide +kernel
theorem dX6_readFactor_18 : decode cX6_readFactor 18 = .ok (.ldc 165, 2) := by decide +kernel
theorem dX6_readFactor_20 : decode cX6_readFactor 20 = .ok (.invokevirtual 104, 3) := by decide +kernel
theorem dX6_readFactor_23 : decode cX6_readFactor 23 = .ok (.ifCond .eq 12, 3) := by decide +kernel
theorem dX6_readFactor_26 : decode cX6_readFactor 26 = .ok (.aload_n 0, 1) := by decide +kernel
theorem dX6_readFactor_27 : decode cX6_readFactor 27 = .ok (.bipush (-2), 2) := by decide +kernel
theorem dX6_readFactor_29 : decode cX6_readFactor 29 = .ok (.invokevirtual 162, 3) := by decide +kernel
theorem dX6_readFactor_32 : decode cX6_readFactor 32 = .ok (.goto 86, 3) := by decide +kernel
theorem dX6_readFactor_35 : decode cX6_readFactor 35 = .ok (.aload_n 0, 1) := by decide +kernel
theorem dX6_readFactor_36 : decode cX6_readFactor 36 = .ok (.ldc 167, 2) := by decide +kernel
theorem dX6_readFactor_38 : decode cX6_readFactor 38 = .ok (.invokevirtual 104, 3) := by decide +kernel
theorem dX6_readFactor_41 : decode cX6_readFactor 41 = .ok (.ifCond .eq 12, 3) := by decide +kernel
theorem dX6_readFactor_44 : decode cX6_readFactor 44 = .ok (.aload_n 0, 1) := by decide +kernel
theorem dX6_readFactor_45 : decode cX6_readFactor 45 = .ok (.bipush (-3), 2) := by decide +kernel
theorem dX6_readFactor_47 : decode cX6_readFactor 47 = .ok (.invokevirtual 162, 3) := by decide +kernel
theorem dX6_readFactor_50 : decode cX6_readFactor 50 = .ok (.goto 68, 3) := by decide +kernel
theorem dX6_readFactor_53 : decode cX6_readFactor 53 = .ok (.aload_n 0, 1) := by decide +kernel
theorem dX6_readFactor_54 : decode cX6_readFactor 54 = .ok (.getfield 32, 3) := by decide +kernel
theorem dX6_readFactor_57 : decode cX6_readFactor 57 = .ok (.bipush 40, 2) := by decide +kernel
theorem dX6_readFactor_59 : decode cX6_readFactor 59 = .ok (.if_icmp .eq 24, 3) := by decide +kernel
theorem dX6_readFactor_62 : decode cX6_readFactor 62 = .ok (.aload_n 0, 1) := by decide +kernel
theorem dX6_readFactor_63 : decode cX6_readFactor 63 = .ok (.getfield 22, 3) := by decide +kernel
theorem dX6_readFactor_66 : decode cX6_readFactor 66 = .ok (.getfield 118, 3) := by decide +kernel
theorem dX6_readFactor_69 : decode cX6_readFactor 69 = .ok (.aload_n 0, 1) := by decide +kernel
theorem dX6_readFactor_70 : decode cX6_readFactor 70 = .ok (.iconst 0, 1) := by decide +kernel
theorem dX6_readFactor_71 : decode cX6_readFactor 71 = .ok (.sipush 9999, 3) := by decide +kernel
theorem dX6_readFactor_74 : decode cX6_readFactor 74 = .ok (.invokevirtual 83, 3) := by decide +kernel
theorem dX6_readFactor_77 : decode cX6_readFactor 77 = .ok (.invokevirtual 155, 3) := by decide +kernel
theorem dX6_readFactor_80 : decode cX6_readFactor 80 = .ok (.goto 38, 3) := by decide +kernel
theorem dX6_readFactor_83 : decode cX6_readFactor 83 = .ok (.iload_n 1, 1) := by decide +kernel
theorem dX6_readFactor_84 : decode cX6_readFactor 84 = .ok (.iconst 4, 1) := by decide +kernel
theorem dX6_readFactor_85 : decode cX6_readFactor 85 = .ok (.if_icmp .lt 16, 3) := by decide +kernel
theorem dX6_readFactor_88 : decode cX6_readFactor 88 = .ok (.aload_n 0, 1) := by decide +kernel
theorem dX6_readFactor_89 : decode cX6_readFactor 89 = .ok (.aload_n 0, 1) := by decide +kernel
theorem dX6_readFactor_90 : decode cX6_readFactor 90 = .ok (.getfield 35, 3) := by decide +kernel
theorem dX6_readFactor_93 : decode cX6_readFactor 93 = .ok (.bipush (-5), 2) := by decide +kernel
theorem dX6_readFactor_95 : decode cX6_readFactor 95 = .ok (.invokevirtual 131, 3) := by decide +kernel
theorem dX6_readFactor_98 : decode cX6_readFactor 98 = .ok (.goto 20, 3) := by decide +kernel
theorem dX6_readFactor_101 : decode cX6_readFactor 101 = .ok (.aload_n 0, 1) := by decide +kernel
theorem dX6_readFactor_102 : decode cX6_readFactor 102 = .ok (.invokevirtual 64, 3) := by decide +kernel
theorem dX6_readFactor_105 : decode cX6_readFactor 105 = .ok (.aload_n 0, 1) := by decide +kernel
theorem dX6_readFactor_106 : decode cX6_readFactor 106 = .ok (.iload_n 1, 1) := by decide +kernel
theorem dX6_readFactor_107 : decode cX6_readFactor 107 = .ok (.iconst 1, 1) := by decide +kernel
theorem dX6_readFactor_108 : decode cX6_readFactor 108 = .ok (.iadd, 1) := by decide +kernel
theorem dX6_readFactor_109 : decode cX6_readFactor 109 = .ok (.invokevirtual 128, 3) := by decide +kernel
theorem dX6_readFactor_112 : decode cX6_readFactor 112 = .ok (.aload_n 0, 1) := by decide +kernel
theorem dX6_readFactor_113 : decode cX6_readFactor 113 = .ok (.bipush 41, 2) := by decide +kernel
theorem dX6_readFactor_115 : decode cX6_readFactor 115 = .ok (.invokevirtual 73, 3) := by decide +kernel
theorem dX6_readFactor_118 : decode cX6_readFactor 118 = .ok (.return_, 1) := by decide +kernel
theorem dX6_addOperand_0 : decode cX6_addOperand 0 = .ok (.aload_n 0, 1) := by decide +kernel
theorem dX6_addOperand_1 : decode cX6_addOperand 1 = .ok (.getfield 22, 3) := by decide +kernel
theorem dX6_addOperand_4 : decode cX6_addOperand 4 = .ok (.getfield 118, 3) := by decide +kernel
theorem dX6_addOperand_7 : decode cX6_addOperand 7 = .ok (.iload_n 1, 1) := by decide +kernel
theorem dX6_addOperand_8 : decode cX6_addOperand 8 = .ok (.invokevirtual 155, 3) := by decide +kernel
theorem dX6_addOperand_11 : decode cX6_addOperand 11 = .ok (.aload_n 0, 1) := by decide +kernel
theorem dX6_addOperand_12 : decode cX6_addOperand 12 = .ok (.invokevirtual 64, 3) := by decide +kernel
theorem dX6_addOperand_15 : decode cX6_addOperand 15 = .ok (.return_, 1) := by decide +kernel
theorem dX6_failAt_0 : decode cX6_failAt 0 = .ok (.aload_n 0, 1) := by decide +kernel
theorem dX6_failAt_1 : decode cX6_failAt 1 = .ok (.getfield 41, 3) := by decide +kernel
theorem dX6_failAt_4 : decode cX6_failAt 4 = .ok (.ifCond .ne 13, 3) := by decide +kernel
theorem dX6_failAt_7 : decode cX6_failAt 7 = .ok (.aload_n 0, 1) := by decide +kernel
theorem dX6_failAt_8 : decode cX6_failAt 8 = .ok (.iload_n 2, 1) := by decide +kernel
theorem dX6_failAt_9 : decode cX6_failAt 9 = .ok (.putfield 41, 3) := by decide +kernel
theorem dX6_failAt_12 : decode cX6_failAt 12 = .ok (.aload_n 0, 1) := by decide +kernel
theorem dX6_failAt_13 : decode cX6_failAt 13 = .ok (.iload_n 1, 1) := by decide +kernel
theorem dX6_failAt_14 : decode cX6_failAt 14 = .ok (.putfield 44, 3) := by decide +kernel
theorem dX6_failAt_17 : decode cX6_failAt 17 = .ok (.return_, 1) := by decide +kernel
theorem dX6_take_0 : decode cX6_take 0 = .ok (.aload_n 0, 1) := by decide +kernel
theorem dX6_take_1 : decode cX6_take 1 = .ok (.getfield 32, 3) := by decide +kernel
theorem dX6_take_4 : decode cX6_take 4 = .ok (.iload_n 1, 1) := by decide +kernel
theorem dX6_take_5 : decode cX6_take 5 = .ok (.if_icmp .ne 10, 3) := by decide +kernel
theorem dX6_take_8 : decode cX6_take 8 = .ok (.aload_n 0, 1) := by decide +kernel
theorem dX6_take_9 : decode cX6_take 9 = .ok (.invokevirtual 64, 3) := by decide +kernel
theorem dX6_take_12 : decode cX6_take 12 = .ok (.goto 13, 3) := by decide +kernel
theorem dX6_take_15 : decode cX6_take 15 = .ok (.aload_n 0, 1) := by decide +kernel
theorem dX6_take_16 : decode cX6_take 16 = .ok (.aload_n 0, 1) := by decide +kernel
theorem dX6_take_17 : decode cX6_take 17 = .ok (.getfield 35, 3) := by decide +kernel
theorem dX6_take_20 : decode cX6_take 20 = .ok (.bipush (-2), 2) := by decide +kernel
theorem dX6_take_22 : decode cX6_take 22 = .ok (.invokevirtual 131, 3) := by decide +kernel
theorem dX6_take_25 : decode cX6_take 25 = .ok (.return_, 1) := by decide +kernel
theorem dX6_takeWord_0 : decode cX6_takeWord 0 = .ok (.aload_n 0, 1) := by decide +kernel
theorem dX6_takeWord_1 : decode cX6_takeWord 1 = .ok (.aload_n 1, 1) := by decide +kernel
theorem dX6_takeWord_2 : decode cX6_takeWord 2 = .ok (.invokevirtual 104, 3) := by decide +kernel
theorem dX6_takeWord_5 : decode cX6_takeWord 5 = .ok (.ifCond .eq 10, 3) := by decide +kernel
theorem dX6_takeWord_8 : decode cX6_takeWord 8 = .ok (.aload_n 0, 1) := by decide +kernel
theorem dX6_takeWord_9 : decode cX6_takeWord 9 = .ok (.invokevirtual 64, 3) := by decide +kernel
theorem dX6_takeWord_12 : decode cX6_takeWord 12 = .ok (.goto 13, 3) := by decide +kernel
theorem dX6_takeWord_15 : decode cX6_takeWord 15 = .ok (.aload_n 0, 1) := by decide +kernel
theorem dX6_takeWord_16 : decode cX6_takeWord 16 = .ok (.aload_n 0, 1) := by decide +kernel
theorem dX6_takeWord_17 : decode cX6_takeWord 17 = .ok (.getfield 35, 3) := by decide +kernel
theorem dX6_takeWord_20 : decode cX6_takeWord 20 = .ok (.bipush (-2), 2) := by decide +kernel
theorem dX6_takeWord_22 : decode cX6_takeWord 22 = .ok (.invokevirtual 131, 3) := by decide +kernel
theorem dX6_takeWord_25 : decode cX6_takeWord 25 = .ok (.return_, 1) := by decide +kernel
theorem dX6_takeNumber_0 : decode cX6_takeNumber 0 = .ok (.aload_n 0, 1) := by decide +kernel
theorem dX6_takeNumber_1 : decode cX6_takeNumber 1 = .ok (.getfield 38, 3) := by decide +kernel
theorem dX6_takeNumber_4 : decode cX6_takeNumber 4 = .ok (.istore_n 3, 1) := by decide +kernel
theorem dX6_takeNumber_5 : decode cX6_takeNumber 5 = .ok (.aload_n 0, 1) := by decide +kernel
theorem dX6_takeNumber_6 : decode cX6_takeNumber 6 = .ok (.getfield 32, 3) := by decide +kernel
theorem dX6_takeNumber_9 : decode cX6_takeNumber 9 = .ok (.bipush (-2), 2) := by decide +kernel
theorem dX6_takeNumber_11 : decode cX6_takeNumber 11 = .ok (.if_icmp .eq 16, 3) := by decide +kernel
theorem dX6_takeNumber_14 : decode cX6_takeNumber 14 = .ok (.aload_n 0, 1) := by decide +kernel
theorem dX6_takeNumber_15 : decode cX6_takeNumber 15 = .ok (.aload_n 0, 1) := by decide +kernel
theorem dX6_takeNumber_16 : decode cX6_takeNumber 16 = .ok (.getfield 35, 3) := by decide +kernel
theorem dX6_takeNumber_19 : decode cX6_takeNumber 19 = .ok (.bipush (-2), 2) := by decide +kernel
theorem dX6_takeNumber_21 : decode cX6_takeNumber 21 = .ok (.invokevirtual 131, 3) := by decide +kernel
theorem dX6_takeNumber_24 : decode cX6_takeNumber 24 = .ok (.goto 23, 3) := by decide +kernel
theorem dX6_takeNumber_27 : decode cX6_takeNumber 27 = .ok (.iload_n 3, 1) := by decide +kernel
theorem dX6_takeNumber_28 : decode cX6_takeNumber 28 = .ok (.iload_n 1, 1) := by decide +kernel
theorem dX6_takeNumber_29 : decode cX6_takeNumber 29 = .ok (.if_icmp .lt 8, 3) := by decide +kernel
theorem dX6_takeNumber_32 : decode cX6_takeNumber 32 = .ok (.iload_n 3, 1) := by decide +kernel
theorem dX6_takeNumber_33 : decode cX6_takeNumber 33 = .ok (.iload_n 2, 1) := by decide +kernel
theorem dX6_takeNumber_34 : decode cX6_takeNumber 34 = .ok (.if_icmp .le 13, 3) := by decide +kernel
theorem dX6_takeNumber_37 : decode cX6_takeNumber 37 = .ok (.aload_n 0, 1) := by decide +kernel
theorem dX6_takeNumber_38 : decode cX6_takeNumber 38 = .ok (.aload_n 0, 1) := by decide +kernel
theorem dX6_takeNumber_39 : decode cX6_takeNumber 39 = .ok (.getfield 35, 3) := by decide +kernel
theorem dX6_takeNumber_42 : decode cX6_takeNumber 42 = .ok (.bipush (-3), 2) := by decide +kernel
theorem dX6_takeNumber_44 : decode cX6_takeNumber 44 = .ok (.invokevirtual 131, 3) := by decide +kernel
theorem dX6_takeNumber_47 : decode cX6_takeNumber 47 = .ok (.aload_n 0, 1) := by decide +kernel
theorem dX6_takeNumber_48 : decode cX6_takeNumber 48 = .ok (.getfield 41, 3) := by decide +kernel
theorem dX6_takeNumber_51 : decode cX6_takeNumber 51 = .ok (.ifCond .eq 5, 3) := by decide +kernel
theorem dX6_takeNumber_54 : decode cX6_takeNumber 54 = .ok (.iconst (-1), 1) := by decide +kernel
theorem dX6_takeNumber_55 : decode cX6_takeNumber 55 = .ok (.ireturn, 1) := by decide +kernel
theorem dX6_takeNumber_56 : decode cX6_takeNumber 56 = .ok (.aload_n 0, 1) := by decide +kernel
theorem dX6_takeNumber_57 : decode cX6_takeNumber 57 = .ok (.invokevirtual 64, 3) := by decide +kernel
theorem dX6_takeNumber_60 : decode cX6_takeNumber 60 = .ok (.iload_n 3, 1) := by decide +kernel
theorem dX6_takeNumber_61 : decode cX6_takeNumber 61 = .ok (.ireturn, 1) := by decide +kernel
theorem dX6_isWord_0 : decode cX6_isWord 0 = .ok (.aload_n 0, 1) := by decide +kernel
theorem dX6_isWord_1 : decode cX6_isWord 1 = .ok (.getfield 32, 3) := by decide +kernel
theorem dX6_isWord_4 : decode cX6_isWord 4 = .ok (.bipush (-3), 2) := by decide +kernel
theorem dX6_isWord_6 : decode cX6_isWord 6 = .ok (.if_icmp .ne 19, 3) := by decide +kernel
theorem dX6_isWord_9 : decode cX6_isWord 9 = .ok (.aload_n 0, 1) := by decide +kernel
theorem dX6_isWord_10 : decode cX6_isWord 10 = .ok (.getfield 29, 3) := by decide +kernel
theorem dX6_isWord_13 : decode cX6_isWord 13 = .ok (.aload_n 0, 1) := by decide +kernel
theorem dX6_isWord_14 : decode cX6_isWord 14 = .ok (.getfield 35, 3) := by decide +kernel
theorem dX6_isWord_17 : decode cX6_isWord 17 = .ok (.isub, 1) := by decide +kernel
theorem dX6_isWord_18 : decode cX6_isWord 18 = .ok (.aload_n 1, 1) := by decide +kernel
theorem dX6_isWord_19 : decode cX6_isWord 19 = .ok (.invokevirtual 169, 3) := by decide +kernel
theorem dX6_isWord_22 : decode cX6_isWord 22 = .ok (.if_icmp .eq 5, 3) := by decide +kernel
theorem dX6_isWord_25 : decode cX6_isWord 25 = .ok (.iconst 0, 1) := by decide +kernel
theorem dX6_isWord_26 : decode cX6_isWord 26 = .ok (.ireturn, 1) := by decide +kernel
theorem dX6_isWord_27 : decode cX6_isWord 27 = .ok (.iconst 0, 1) := by decide +kernel
theorem dX6_isWord_28 : decode cX6_isWord 28 = .ok (.istore_n 2, 1) := by decide +kernel
theorem dX6_isWord_29 : decode cX6_isWord 29 = .ok (.iload_n 2, 1) := by decide +kernel
theorem dX6_isWord_30 : decode cX6_isWord 30 = .ok (.aload_n 1, 1) := by decide +kernel
theorem dX6_isWord_31 : decode cX6_isWord 31 = .ok (.invokevirtual 169, 3) := by decide +kernel
theorem dX6_isWord_34 : decode cX6_isWord 34 = .ok (.if_icmp .ge 30, 3) := by decide +kernel
theorem dX6_isWord_37 : decode cX6_isWord 37 = .ok (.aload_n 0, 1) := by decide +kernel
theorem dX6_isWord_38 : decode cX6_isWord 38 = .ok (.getfield 9, 3) := by decide +kernel
theorem dX6_isWord_41 : decode cX6_isWord 41 = .ok (.aload_n 0, 1) := by decide +kernel
theorem dX6_isWord_42 : decode cX6_isWord 42 = .ok (.getfield 35, 3) := by decide +kernel
theorem dX6_isWord_45 : decode cX6_isWord 45 = .ok (.iload_n 2, 1) := by decide +kernel
theorem dX6_isWord_46 : decode cX6_isWord 46 = .ok (.iadd, 1) := by decide +kernel
theorem dX6_isWord_47 : decode cX6_isWord 47 = .ok (.baload, 1) := by decide +kernel
theorem dX6_isWord_48 : decode cX6_isWord 48 = .ok (.aload_n 1, 1) := by decide +kernel
theorem dX6_isWord_49 : decode cX6_isWord 49 = .ok (.iload_n 2, 1) := by decide +kernel
theorem dX6_isWord_50 : decode cX6_isWord 50 = .ok (.invokevirtual 174, 3) := by decide +kernel
theorem dX6_isWord_53 : decode cX6_isWord 53 = .ok (.if_icmp .eq 5, 3) := by decide +kernel
theorem dX6_isWord_56 : decode cX6_isWord 56 = .ok (.iconst 0, 1) := by decide +kernel
theorem dX6_isWord_57 : decode cX6_isWord 57 = .ok (.ireturn, 1) := by decide +kernel
theorem dX6_isWord_58 : decode cX6_isWord 58 = .ok (.iinc 2 1, 3) := by decide +kernel
theorem dX6_isWord_61 : decode cX6_isWord 61 = .ok (.goto (-32), 3) := by decide +kernel
theorem dX6_isWord_64 : decode cX6_isWord 64 = .ok (.iconst 1, 1) := by decide +kernel
theorem dX6_isWord_65 : decode cX6_isWord 65 = .ok (.ireturn, 1) := by decide +kernel
theorem dX6_advance_0 : decode cX6_advance 0 = .ok (.aload_n 0, 1) := by decide +kernel
theorem dX6_advance_1 : decode cX6_advance 1 = .ok (.getfield 29, 3) := by decide +kernel
theorem dX6_advance_4 : decode cX6_advance 4 = .ok (.aload_n 0, 1) := by decide +kernel
theorem dX6_advance_5 : decode cX6_advance 5 = .ok (.getfield 26, 3) := by decide +kernel
theorem dX6_advance_8 : decode cX6_advance 8 = .ok (.if_icmp .ge 30, 3) := by decide +kernel
theorem dX6_advance_11 : decode cX6_advance 11 = .ok (.aload_n 0, 1) := by decide +kernel
theorem dX6_advance_12 : decode cX6_advance 12 = .ok (.getfield 9, 3) := by decide +kernel
theorem dX6_advance_15 : decode cX6_advance 15 = .ok (.aload_n 0, 1) := by decide +kernel
theorem dX6_advance_16 : decode cX6_advance 16 = .ok (.getfield 29, 3) := by decide +kernel
theorem dX6_advance_19 : decode cX6_advance 19 = .ok (.baload, 1) := by decide +kernel
theorem dX6_advance_20 : decode cX6_advance 20 = .ok (.bipush 32, 2) := by decide +kernel
theorem dX6_advance_22 : decode cX6_advance 22 = .ok (.if_icmp .ne 16, 3) := by decide +kernel
theorem dX6_advance_25 : decode cX6_advance 25 = .ok (.aload_n 0, 1) := by decide +kernel
theorem dX6_advance_26 : decode cX6_advance 26 = .ok (.dup, 1) := by decide +kernel
theorem dX6_advance_27 : decode cX6_advance 27 = .ok (.getfield 29, 3) := by decide +kernel
theorem dX6_advance_30 : decode cX6_advance 30 = .ok (.iconst 1, 1) := by decide +kernel
theorem dX6_advance_31 : decode cX6_advance 31 = .ok (.iadd, 1) := by decide +kernel
theorem dX6_advance_32 : decode cX6_advance 32 = .ok (.putfield 29, 3) := by decide +kernel
theorem dX6_advance_35 : decode cX6_advance 35 = .ok (.goto (-35), 3) := by decide +kernel
theorem dX6_advance_38 : decode cX6_advance 38 = .ok (.aload_n 0, 1) := by decide +kernel
theorem dX6_advance_39 : decode cX6_advance 39 = .ok (.aload_n 0, 1) := by decide +kernel
theorem dX6_advance_40 : decode cX6_advance 40 = .ok (.getfield 29, 3) := by decide +kernel
theorem dX6_advance_43 : decode cX6_advance 43 = .ok (.putfield 35, 3) := by decide +kernel
theorem dX6_advance_46 : decode cX6_advance 46 = .ok (.aload_n 0, 1) := by decide +kernel
theorem dX6_advance_47 : decode cX6_advance 47 = .ok (.getfield 29, 3) := by decide +kernel
theorem dX6_advance_50 : decode cX6_advance 50 = .ok (.aload_n 0, 1) := by decide +kernel
theorem dX6_advance_51 : decode cX6_advance 51 = .ok (.getfield 26, 3) := by decide +kernel
theorem dX6_advance_54 : decode cX6_advance 54 = .ok (.if_icmp .lt 9, 3) := by decide +kernel
theorem dX6_advance_57 : decode cX6_advance 57 = .ok (.aload_n 0, 1) := by decide +kernel
theorem dX6_advance_58 : decode cX6_advance 58 = .ok (.iconst (-1), 1) := by decide +kernel
theorem dX6_advance_59 : decode cX6_advance 59 = .ok (.putfield 32, 3) := by decide +kernel
theorem dX6_advance_62 : decode cX6_advance 62 = .ok (.return_, 1) := by decide +kernel
theorem dX6_advance_63 : decode cX6_advance 63 = .ok (.aload_n 0, 1) := by decide +kernel
theorem dX6_advance_64 : decode cX6_advance 64 = .ok (.getfield 9, 3) := by decide +kernel
theorem dX6_advance_67 : decode cX6_advance 67 = .ok (.aload_n 0, 1) := by decide +kernel
theorem dX6_advance_68 : decode cX6_advance 68 = .ok (.getfield 29, 3) := by decide +kernel
theorem dX6_advance_71 : decode cX6_advance 71 = .ok (.baload, 1) := by decide +kernel
theorem dX6_advance_72 : decode cX6_advance 72 = .ok (.istore_n 1, 1) := by decide +kernel
theorem dX6_advance_73 : decode cX6_advance 73 = .ok (.iload_n 1, 1) := by decide +kernel
theorem dX6_advance_74 : decode cX6_advance 74 = .ok (.bipush 48, 2) := by decide +kernel
theorem dX6_advance_76 : decode cX6_advance 76 = .ok (.if_icmp .lt 110, 3) := by decide +kernel
theorem dX6_advance_79 : decode cX6_advance 79 = .ok (.iload_n 1, 1) := by decide +kernel
theorem dX6_advance_80 : decode cX6_advance 80 = .ok (.bipush 57, 2) := by decide +kernel
theorem dX6_advance_82 : decode cX6_advance 82 = .ok (.if_icmp .gt 104, 3) := by decide +kernel
theorem dX6_advance_85 : decode cX6_advance 85 = .ok (.aload_n 0, 1) := by decide +kernel
theorem dX6_advance_86 : decode cX6_advance 86 = .ok (.bipush (-2), 2) := by decide +kernel
theorem dX6_advance_88 : decode cX6_advance 88 = .ok (.putfield 32, 3) := by decide +kernel
theorem dX6_advance_91 : decode cX6_advance 91 = .ok (.aload_n 0, 1) := by decide +kernel
theorem dX6_advance_92 : decode cX6_advance 92 = .ok (.iconst 0, 1) := by decide +kernel
theorem dX6_advance_93 : decode cX6_advance 93 = .ok (.putfield 38, 3) := by decide +kernel
theorem dX6_advance_96 : decode cX6_advance 96 = .ok (.aload_n 0, 1) := by decide +kernel
theorem dX6_advance_97 : decode cX6_advance 97 = .ok (.getfield 29, 3) := by decide +kernel
theorem dX6_advance_100 : decode cX6_advance 100 = .ok (.aload_n 0, 1) := by decide +kernel
theorem dX6_advance_101 : decode cX6_advance 101 = .ok (.getfield 26, 3) := by decide +kernel
theorem dX6_advance_104 : decode cX6_advance 104 = .ok (.if_icmp .ge 171, 3) := by decide +kernel
theorem dX6_advance_107 : decode cX6_advance 107 = .ok (.aload_n 0, 1) := by decide +kernel
theorem dX6_advance_108 : decode cX6_advance 108 = .ok (.getfield 9, 3) := by decide +kernel
theorem dX6_advance_111 : decode cX6_advance 111 = .ok (.aload_n 0, 1) := by decide +kernel
theorem dX6_advance_112 : decode cX6_advance 112 = .ok (.getfield 29, 3) := by decide +kernel
theorem dX6_advance_115 : decode cX6_advance 115 = .ok (.baload, 1) := by decide +kernel
theorem dX6_advance_116 : decode cX6_advance 116 = .ok (.bipush 48, 2) := by decide +kernel
theorem dX6_advance_118 : decode cX6_advance 118 = .ok (.if_icmp .lt 157, 3) := by decide +kernel
theorem dX6_advance_121 : decode cX6_advance 121 = .ok (.aload_n 0, 1) := by decide +kernel
theorem dX6_advance_122 : decode cX6_advance 122 = .ok (.getfield 9, 3) := by decide +kernel
theorem dX6_advance_125 : decode cX6_advance 125 = .ok (.aload_n 0, 1) := by decide +kernel
theorem dX6_advance_126 : decode cX6_advance 126 = .ok (.getfield 29, 3) := by decide +kernel
theorem dX6_advance_129 : decode cX6_advance 129 = .ok (.baload, 1) := by decide +kernel
theorem dX6_advance_130 : decode cX6_advance 130 = .ok (.bipush 57, 2) := by decide +kernel
theorem dX6_advance_132 : decode cX6_advance 132 = .ok (.if_icmp .gt 143, 3) := by decide +kernel
theorem dX6_advance_135 : decode cX6_advance 135 = .ok (.aload_n 0, 1) := by decide +kernel
theorem dX6_advance_136 : decode cX6_advance 136 = .ok (.aload_n 0, 1) := by decide +kernel
theorem dX6_advance_137 : decode cX6_advance 137 = .ok (.getfield 38, 3) := by decide +kernel
theorem dX6_advance_140 : decode cX6_advance 140 = .ok (.ldc 178, 2) := by decide +kernel
theorem dX6_advance_142 : decode cX6_advance 142 = .ok (.if_icmp .ge 26, 3) := by decide +kernel
theorem dX6_advance_145 : decode cX6_advance 145 = .ok (.aload_n 0, 1) := by decide +kernel
theorem dX6_advance_146 : decode cX6_advance 146 = .ok (.getfield 38, 3) := by decide +kernel
theorem dX6_advance_149 : decode cX6_advance 149 = .ok (.bipush 10, 2) := by decide +kernel
theorem dX6_advance_151 : decode cX6_advance 151 = .ok (.imul, 1) := by decide +kernel
theorem dX6_advance_152 : decode cX6_advance 152 = .ok (.aload_n 0, 1) := by decide +kernel
theorem dX6_advance_153 : decode cX6_advance 153 = .ok (.getfield 9, 3) := by decide +kernel
theorem dX6_advance_156 : decode cX6_advance 156 = .ok (.aload_n 0, 1) := by decide +kernel
theorem dX6_advance_157 : decode cX6_advance 157 = .ok (.getfield 29, 3) := by decide +kernel
theorem dX6_advance_160 : decode cX6_advance 160 = .ok (.baload, 1) := by decide +kernel
theorem dX6_advance_161 : decode cX6_advance 161 = .ok (.iadd, 1) := by decide +kernel
theorem dX6_advance_162 : decode cX6_advance 162 = .ok (.bipush 48, 2) := by decide +kernel
theorem dX6_advance_164 : decode cX6_advance 164 = .ok (.isub, 1) := by decide +kernel
theorem dX6_advance_165 : decode cX6_advance 165 = .ok (.goto 5, 3) := by decide +kernel
theorem dX6_advance_168 : decode cX6_advance 168 = .ok (.ldc 178, 2) := by decide +kernel
theorem dX6_advance_170 : decode cX6_advance 170 = .ok (.putfield 38, 3) := by decide +kernel
theorem dX6_advance_173 : decode cX6_advance 173 = .ok (.aload_n 0, 1) := by decide +kernel
theorem dX6_advance_174 : decode cX6_advance 174 = .ok (.dup, 1) := by decide +kernel
theorem dX6_advance_175 : decode cX6_advance 175 = .ok (.getfield 29, 3) := by decide +kernel
theorem dX6_advance_178 : decode cX6_advance 178 = .ok (.iconst 1, 1) := by decide +kernel
theorem dX6_advance_179 : decode cX6_advance 179 = .ok (.iadd, 1) := by decide +kernel
theorem dX6_advance_180 : decode cX6_advance 180 = .ok (.putfield 29, 3) := by decide +kernel
theorem dX6_advance_183 : decode cX6_advance 183 = .ok (.goto (-87), 3) := by decide +kernel
theorem dX6_advance_186 : decode cX6_advance 186 = .ok (.iload_n 1, 1) := by decide +kernel
theorem dX6_advance_187 : decode cX6_advance 187 = .ok (.bipush 97, 2) := by decide +kernel
theorem dX6_advance_189 : decode cX6_advance 189 = .ok (.if_icmp .lt 67, 3) := by decide +kernel
theorem dX6_advance_192 : decode cX6_advance 192 = .ok (.iload_n 1, 1) := by decide +kernel
theorem dX6_advance_193 : decode cX6_advance 193 = .ok (.bipush 122, 2) := by decide +kernel
theorem dX6_advance_195 : decode cX6_advance 195 = .ok (.if_icmp .gt 61, 3) := by decide +kernel
theorem dX6_advance_198 : decode cX6_advance 198 = .ok (.aload_n 0, 1) := by decide +kernel
theorem dX6_advance_199 : decode cX6_advance 199 = .ok (.bipush (-3), 2) := by decide +kernel
theorem dX6_advance_201 : decode cX6_advance 201 = .ok (.putfield 32, 3) := by decide +kernel
theorem dX6_advance_204 : decode cX6_advance 204 = .ok (.aload_n 0, 1) := by decide +kernel
theorem dX6_advance_205 : decode cX6_advance 205 = .ok (.getfield 29, 3) := by decide +kernel
theorem dX6_advance_208 : decode cX6_advance 208 = .ok (.aload_n 0, 1) := by decide +kernel
theorem dX6_advance_209 : decode cX6_advance 209 = .ok (.getfield 26, 3) := by decide +kernel
theorem dX6_advance_212 : decode cX6_advance 212 = .ok (.if_icmp .ge 63, 3) := by decide +kernel
theorem dX6_advance_215 : decode cX6_advance 215 = .ok (.aload_n 0, 1) := by decide +kernel
theorem dX6_advance_216 : decode cX6_advance 216 = .ok (.getfield 9, 3) := by decide +kernel
theorem dX6_advance_219 : decode cX6_advance 219 = .ok (.aload_n 0, 1) := by decide +kernel
theorem dX6_advance_220 : decode cX6_advance 220 = .ok (.getfield 29, 3) := by decide +kernel
theorem dX6_advance_223 : decode cX6_advance 223 = .ok (.baload, 1) := by decide +kernel
theorem dX6_advance_224 : decode cX6_advance 224 = .ok (.bipush 97, 2) := by decide +kernel
theorem dX6_advance_226 : decode cX6_advance 226 = .ok (.if_icmp .lt 49, 3) := by decide +kernel
theorem dX6_advance_229 : decode cX6_advance 229 = .ok (.aload_n 0, 1) := by decide +kernel
theorem dX6_advance_230 : decode cX6_advance 230 = .ok (.getfield 9, 3) := by decide +kernel
theorem dX6_advance_233 : decode cX6_advance 233 = .ok (.aload_n 0, 1) := by decide +kernel
theorem dX6_advance_234 : decode cX6_advance 234 = .ok (.getfield 29, 3) := by decide +kernel
theorem dX6_advance_237 : decode cX6_advance 237 = .ok (.baload, 1) := by decide +kernel
theorem dX6_advance_238 : decode cX6_advance 238 = .ok (.bipush 122, 2) := by decide +kernel
theorem dX6_advance_240 : decode cX6_advance 240 = .ok (.if_icmp .gt 35, 3) := by decide +kernel
theorem dX6_advance_243 : decode cX6_advance 243 = .ok (.aload_n 0, 1) := by decide +kernel
theorem dX6_advance_244 : decode cX6_advance 244 = .ok (.dup, 1) := by decide +kernel
theorem dX6_advance_245 : decode cX6_advance 245 = .ok (.getfield 29, 3) := by decide +kernel
theorem dX6_advance_248 : decode cX6_advance 248 = .ok (.iconst 1, 1) := by decide +kernel
theorem dX6_advance_249 : decode cX6_advance 249 = .ok (.iadd, 1) := by decide +kernel
theorem dX6_advance_250 : decode cX6_advance 250 = .ok (.putfield 29, 3) := by decide +kernel
theorem dX6_advance_253 : decode cX6_advance 253 = .ok (.goto (-49), 3) := by decide +kernel
theorem dX6_advance_256 : decode cX6_advance 256 = .ok (.aload_n 0, 1) := by decide +kernel
theorem dX6_advance_257 : decode cX6_advance 257 = .ok (.iload_n 1, 1) := by decide +kernel
theorem dX6_advance_258 : decode cX6_advance 258 = .ok (.sipush 255, 3) := by decide +kernel
theorem dX6_advance_261 : decode cX6_advance 261 = .ok (.iand, 1) := by decide +kernel
theorem dX6_advance_262 : decode cX6_advance 262 = .ok (.putfield 32, 3) := by decide +kernel
theorem dX6_advance_265 : decode cX6_advance 265 = .ok (.aload_n 0, 1) := by decide +kernel
theorem dX6_advance_266 : decode cX6_advance 266 = .ok (.dup, 1) := by decide +kernel
theorem dX6_advance_267 : decode cX6_advance 267 = .ok (.getfield 29, 3) := by decide +kernel
theorem dX6_advance_270 : decode cX6_advance 270 = .ok (.iconst 1, 1) := by decide +kernel
theorem dX6_advance_271 : decode cX6_advance 271 = .ok (.iadd, 1) := by decide +kernel
theorem dX6_advance_272 : decode cX6_advance 272 = .ok (.putfield 29, 3) := by decide +kernel
theorem dX6_advance_275 : decode cX6_advance 275 = .ok (.return_, 1) := by decide +kernel
theorem dX7_init_0 : decode cX7_init 0 = .ok (.aload_n 0, 1) := by decide +kernel
theorem dX7_init_1 : decode cX7_init 1 = .ok (.invokespecial 3, 3) := by decide +kernel
theorem dX7_init_4 : decode cX7_init 4 = .ok (.aload_n 0, 1) := by decide +kernel
theorem dX7_init_5 : decode cX7_init 5 = .ok (.iconst 0, 1) := by decide +kernel
theorem dX7_init_6 : decode cX7_init 6 = .ok (.putfield 9, 3) := by decide +kernel
theorem dX7_init_9 : decode cX7_init 9 = .ok (.aload_n 0, 1) := by decide +kernel
theorem dX7_init_10 : decode cX7_init 10 = .ok (.bipush 20, 2) := by decide +kernel
theorem dX7_init_12 : decode cX7_init 12 = .ok (.newarray .int, 2) := by decide +kernel
theorem dX7_init_14 : decode cX7_init 14 = .ok (.putfield 15, 3) := by decide +kernel
theorem dX7_init_17 : decode cX7_init 17 = .ok (.aload_n 0, 1) := by decide +kernel
theorem dX7_init_18 : decode cX7_init 18 = .ok (.bipush 20, 2) := by decide +kernel
theorem dX7_init_20 : decode cX7_init 20 = .ok (.newarray .int, 2) := by decide +kernel
theorem dX7_init_22 : decode cX7_init 22 = .ok (.putfield 19, 3) := by decide +kernel
theorem dX7_init_25 : decode cX7_init 25 = .ok (.aload_n 0, 1) := by decide +kernel
theorem dX7_init_26 : decode cX7_init 26 = .ok (.bipush 20, 2) := by decide +kernel
theorem dX7_init_28 : decode cX7_init 28 = .ok (.newarray .boolean, 2) := by decide +kernel
theorem dX7_init_30 : decode cX7_init 30 = .ok (.putfield 22, 3) := by decide +kernel
theorem dX7_init_33 : decode cX7_init 33 = .ok (.return_, 1) := by decide +kernel
theorem dX7_add_0 : decode cX7_add 0 = .ok (.aload_n 0, 1) := by decide +kernel
theorem dX7_add_1 : decode cX7_add 1 = .ok (.getfield 9, 3) := by decide +kernel
theorem dX7_add_4 : decode cX7_add 4 = .ok (.bipush 20, 2) := by decide +kernel
theorem dX7_add_6 : decode cX7_add 6 = .ok (.if_icmp .lt 5, 3) := by decide +kernel
theorem dX7_add_9 : decode cX7_add 9 = .ok (.iconst (-1), 1) := by decide +kernel
theorem dX7_add_10 : decode cX7_add 10 = .ok (.ireturn, 1) := by decide +kernel
theorem dX7_add_11 : decode cX7_add 11 = .ok (.aload_n 0, 1) := by decide +kernel
theorem dX7_add_12 : decode cX7_add 12 = .ok (.getfield 15, 3) := by decide +kernel
theorem dX7_add_15 : decode cX7_add 15 = .ok (.aload_n 0, 1) := by decide +kernel
theorem dX7_add_16 : decode cX7_add 16 = .ok (.getfield 9, 3) := by decide +kernel
theorem dX7_add_19 : decode cX7_add 19 = .ok (.iload_n 1, 1) := by decide +kernel
theorem dX7_add_20 : decode cX7_add 20 = .ok (.iastore, 1) := by decide +kernel
theorem dX7_add_21 : decode cX7_add 21 = .ok (.aload_n 0, 1) := by decide +kernel
theorem dX7_add_22 : decode cX7_add 22 = .ok (.getfield 19, 3) := by decide +kernel
theorem dX7_add_25 : decode cX7_add 25 = .ok (.aload_n 0, 1) := by decide +kernel
theorem dX7_add_26 : decode cX7_add 26 = .ok (.getfield 9, 3) := by decide +kernel
theorem dX7_add_29 : decode cX7_add 29 = .ok (.iload_n 2, 1) := by decide +kernel
theorem dX7_add_30 : decode cX7_add 30 = .ok (.iastore, 1) := by decide +kernel
theorem dX7_add_31 : decode cX7_add 31 = .ok (.aload_n 0, 1) := by decide +kernel
theorem dX7_add_32 : decode cX7_add 32 = .ok (.getfield 22, 3) := by decide +kernel
theorem dX7_add_35 : decode cX7_add 35 = .ok (.aload_n 0, 1) := by decide +kernel
theorem dX7_add_36 : decode cX7_add 36 = .ok (.getfield 9, 3) := by decide +kernel
theorem dX7_add_39 : decode cX7_add 39 = .ok (.iconst 0, 1) := by decide +kernel
theorem dX7_add_40 : decode cX7_add 40 = .ok (.bastore, 1) := by decide +kernel
theorem dX7_add_41 : decode cX7_add 41 = .ok (.aload_n 0, 1) := by decide +kernel
theorem dX7_add_42 : decode cX7_add 42 = .ok (.dup, 1) := by decide +kernel
theorem dX7_add_43 : decode cX7_add 43 = .ok (.getfield 9, 3) := by decide +kernel
theorem dX7_add_46 : decode cX7_add 46 = .ok (.iconst 1, 1) := by decide +kernel
theorem dX7_add_47 : decode cX7_add 47 = .ok (.iadd, 1) := by decide +kernel
theorem dX7_add_48 : decode cX7_add 48 = .ok (.putfield 9, 3) := by decide +kernel
theorem dX7_add_51 : decode cX7_add 51 = .ok (.aload_n 0, 1) := by decide +kernel
theorem dX7_add_52 : decode cX7_add 52 = .ok (.getfield 9, 3) := by decide +kernel
theorem dX7_add_55 : decode cX7_add 55 = .ok (.iconst 1, 1) := by decide +kernel
theorem dX7_add_56 : decode cX7_add 56 = .ok (.isub, 1) := by decide +kernel
theorem dX7_add_57 : decode cX7_add 57 = .ok (.ireturn, 1) := by decide +kernel
theorem dX7_copyFrom_0 : decode cX7_copyFrom 0 = .ok (.aload_n 0, 1) := by decide +kernel
theorem dX7_copyFrom_1 : decode cX7_copyFrom 1 = .ok (.aload_n 1, 1) := by decide +kernel
theorem dX7_copyFrom_2 : decode cX7_copyFrom 2 = .ok (.getfield 9, 3) := by decide +kernel
theorem dX7_copyFrom_5 : decode cX7_copyFrom 5 = .ok (.putfield 9, 3) := by decide +kernel
theorem dX7_copyFrom_8 : decode cX7_copyFrom 8 = .ok (.aload_n 1, 1) := by decide +kernel
theorem dX7_copyFrom_9 : decode cX7_copyFrom 9 = .ok (.getfield 15, 3) := by decide +kernel
theorem dX7_copyFrom_12 : decode cX7_copyFrom 12 = .ok (.iconst 0, 1) := by decide +kernel
theorem dX7_copyFrom_13 : decode cX7_copyFrom 13 = .ok (.aload_n 0, 1) := by decide +kernel
theorem dX7_copyFrom_14 : decode cX7_copyFrom 14 = .ok (.getfield 15, 3) := by decide +kernel
theorem dX7_copyFrom_17 : decode cX7_copyFrom 17 = .ok (.iconst 0, 1) := by decide +kernel
theorem dX7_copyFrom_18 : decode cX7_copyFrom 18 = .ok (.aload_n 0, 1) := by decide +kernel
theorem dX7_copyFrom_19 : decode cX7_copyFrom 19 = .ok (.getfield 9, 3) := by decide +kernel
theorem dX7_copyFrom_22 : decode cX7_copyFrom 22 = .ok (.invokestatic 26, 3) := by decide +kernel
theorem dX7_copyFrom_25 : decode cX7_copyFrom 25 = .ok (.aload_n 1, 1) := by decide +kernel
theorem dX7_copyFrom_26 : decode cX7_copyFrom 26 = .ok (.getfield 19, 3) := by decide +kernel
theorem dX7_copyFrom_29 : decode cX7_copyFrom 29 = .ok (.iconst 0, 1) := by decide +kernel
theorem dX7_copyFrom_30 : decode cX7_copyFrom 30 = .ok (.aload_n 0, 1) := by decide +kernel
theorem dX7_copyFrom_31 : decode cX7_copyFrom 31 = .ok (.getfield 19, 3) := by decide +kernel
theorem dX7_copyFrom_34 : decode cX7_copyFrom 34 = .ok (.iconst 0, 1) := by decide +kernel
theorem dX7_copyFrom_35 : decode cX7_copyFrom 35 = .ok (.aload_n 0, 1) := by decide +kernel
theorem dX7_copyFrom_36 : decode cX7_copyFrom 36 = .ok (.getfield 9, 3) := by decide +kernel
theorem dX7_copyFrom_39 : decode cX7_copyFrom 39 = .ok (.invokestatic 26, 3) := by decide +kernel
theorem dX7_copyFrom_42 : decode cX7_copyFrom 42 = .ok (.iconst 0, 1) := by decide +kernel
theorem dX7_copyFrom_43 : decode cX7_copyFrom 43 = .ok (.istore_n 2, 1) := by decide +kernel
theorem dX7_copyFrom_44 : decode cX7_copyFrom 44 = .ok (.iload_n 2, 1) := by decide +kernel
theorem dX7_copyFrom_45 : decode cX7_copyFrom 45 = .ok (.aload_n 0, 1) := by decide +kernel
theorem dX7_copyFrom_46 : decode cX7_copyFrom 46 = .ok (.getfield 9, 3) := by decide +kernel
theorem dX7_copyFrom_49 : decode cX7_copyFrom 49 = .ok (.if_icmp .ge 21, 3) := by decide +kernel
theorem dX7_copyFrom_52 : decode cX7_copyFrom 52 = .ok (.aload_n 0, 1) := by decide +kernel
theorem dX7_copyFrom_53 : decode cX7_copyFrom 53 = .ok (.getfield 22, 3) := by decide +kernel
theorem dX7_copyFrom_56 : decode cX7_copyFrom 56 = .ok (.iload_n 2, 1) := by decide +kernel
theorem dX7_copyFrom_57 : decode cX7_copyFrom 57 = .ok (.aload_n 1, 1) := by decide +kernel
theorem dX7_copyFrom_58 : decode cX7_copyFrom 58 = .ok (.getfield 22, 3) := by decide +kernel
theorem dX7_copyFrom_61 : decode cX7_copyFrom 61 = .ok (.iload_n 2, 1) := by decide +kernel
theorem dX7_copyFrom_62 : decode cX7_copyFrom 62 = .ok (.baload, 1) := by decide +kernel
theorem dX7_copyFrom_63 : decode cX7_copyFrom 63 = .ok (.bastore, 1) := by decide +kernel
theorem dX7_copyFrom_64 : decode cX7_copyFrom 64 = .ok (.iinc 2 1, 3) := by decide +kernel
theorem dX7_copyFrom_67 : decode cX7_copyFrom 67 = .ok (.goto (-23), 3) := by decide +kernel
theorem dX7_copyFrom_70 : decode cX7_copyFrom 70 = .ok (.return_, 1) := by decide +kernel
theorem dX8_init_0 : decode cX8_init 0 = .ok (.aload_n 0, 1) := by decide +kernel
theorem dX8_init_1 : decode cX8_init 1 = .ok (.invokespecial 3, 3) := by decide +kernel
theorem dX8_init_4 : decode cX8_init 4 = .ok (.aload_n 0, 1) := by decide +kernel
theorem dX8_init_5 : decode cX8_init 5 = .ok (.new 9, 3) := by decide +kernel
theorem dX8_init_8 : decode cX8_init 8 = .ok (.dup, 1) := by decide +kernel
theorem dX8_init_9 : decode cX8_init 9 = .ok (.invokespecial 11, 3) := by decide +kernel
theorem dX8_init_12 : decode cX8_init 12 = .ok (.putfield 12, 3) := by decide +kernel
theorem dX8_init_15 : decode cX8_init 15 = .ok (.aload_n 0, 1) := by decide +kernel
theorem dX8_init_16 : decode cX8_init 16 = .ok (.bipush 9, 2) := by decide +kernel
theorem dX8_init_18 : decode cX8_init 18 = .ok (.anewarray 16, 3) := by decide +kernel
theorem dX8_init_21 : decode cX8_init 21 = .ok (.putfield 18, 3) := by decide +kernel
theorem dX8_init_24 : decode cX8_init 24 = .ok (.aload_n 0, 1) := by decide +kernel
theorem dX8_init_25 : decode cX8_init 25 = .ok (.iconst 0, 1) := by decide +kernel
theorem dX8_init_26 : decode cX8_init 26 = .ok (.putfield 22, 3) := by decide +kernel
theorem dX8_init_29 : decode cX8_init 29 = .ok (.aload_n 0, 1) := by decide +kernel
theorem dX8_init_30 : decode cX8_init 30 = .ok (.iconst 0, 1) := by decide +kernel
theorem dX8_init_31 : decode cX8_init 31 = .ok (.putfield 26, 3) := by decide +kernel
theorem dX8_init_34 : decode cX8_init 34 = .ok (.aload_n 0, 1) := by decide +kernel
theorem dX8_init_35 : decode cX8_init 35 = .ok (.new 16, 3) := by decide +kernel
theorem dX8_init_38 : decode cX8_init 38 = .ok (.dup, 1) := by decide +kernel
theorem dX8_init_39 : decode cX8_init 39 = .ok (.invokespecial 29, 3) := by decide +kernel
theorem dX8_init_42 : decode cX8_init 42 = .ok (.putfield 30, 3) := by decide +kernel
theorem dX8_init_45 : decode cX8_init 45 = .ok (.iconst 0, 1) := by decide +kernel
theorem dX8_init_46 : decode cX8_init 46 = .ok (.istore_n 1, 1) := by decide +kernel
theorem dX8_init_47 : decode cX8_init 47 = .ok (.iload_n 1, 1) := by decide +kernel
theorem dX8_init_48 : decode cX8_init 48 = .ok (.bipush 9, 2) := by decide +kernel
theorem dX8_init_50 : decode cX8_init 50 = .ok (.if_icmp .ge 22, 3) := by decide +kernel
theorem dX8_init_53 : decode cX8_init 53 = .ok (.aload_n 0, 1) := by decide +kernel
theorem dX8_init_54 : decode cX8_init 54 = .ok (.getfield 18, 3) := by decide +kernel
theorem dX8_init_57 : decode cX8_init 57 = .ok (.iload_n 1, 1) := by decide +kernel
theorem dX8_init_58 : decode cX8_init 58 = .ok (.new 16, 3) := by decide +kernel
theorem dX8_init_61 : decode cX8_init 61 = .ok (.dup, 1) := by decide +kernel
theorem dX8_init_62 : decode cX8_init 62 = .ok (.invokespecial 29, 3) := by decide +kernel
theorem dX8_init_65 : decode cX8_init 65 = .ok (.aastore, 1) := by decide +kernel
theorem dX8_init_66 : decode cX8_init 66 = .ok (.iinc 1 1, 3) := by decide +kernel
theorem dX8_init_69 : decode cX8_init 69 = .ok (.goto (-22), 3) := by decide +kernel
theorem dX8_init_72 : decode cX8_init 72 = .ok (.return_, 1) := by decide +kernel
theorem dX8_append_0 : decode cX8_append 0 = .ok (.aload_n 0, 1) := by decide +kernel
theorem dX8_append_1 : decode cX8_append 1 = .ok (.getfield 12, 3) := by decide +kernel
theorem dX8_append_4 : decode cX8_append 4 = .ok (.getfield 34, 3) := by decide +kernel
theorem dX8_append_7 : decode cX8_append 7 = .ok (.bipush 20, 2) := by decide +kernel
theorem dX8_append_9 : decode cX8_append 9 = .ok (.iadd, 1) := by decide +kernel
theorem dX8_append_10 : decode cX8_append 10 = .ok (.sipush 900, 3) := by decide +kernel
theorem dX8_append_13 : decode cX8_append 13 = .ok (.if_icmp .le 5, 3) := by decide +kernel
theorem dX8_append_16 : decode cX8_append 16 = .ok (.iconst (-1), 1) := by decide +kernel
theorem dX8_append_17 : decode cX8_append 17 = .ok (.ireturn, 1) := by decide +kernel
theorem dX8_append_18 : decode cX8_append 18 = .ok (.aload_n 0, 1) := by decide +kernel
theorem dX8_append_19 : decode cX8_append 19 = .ok (.getfield 12, 3) := by decide +kernel
theorem dX8_append_22 : decode cX8_append 22 = .ok (.iload_n 1, 1) := by decide +kernel
theorem dX8_append_23 : decode cX8_append 23 = .ok (.invokevirtual 37, 3) := by decide +kernel
theorem dX8_append_26 : decode cX8_append 26 = .ok (.aload_n 0, 1) := by decide +kernel
theorem dX8_append_27 : decode cX8_append 27 = .ok (.getfield 12, 3) := by decide +kernel
theorem dX8_append_30 : decode cX8_append 30 = .ok (.iload_n 2, 1) := by decide +kernel
theorem dX8_append_31 : decode cX8_append 31 = .ok (.invokevirtual 37, 3) := by decide +kernel
theorem dX8_append_34 : decode cX8_append 34 = .ok (.aload_n 0, 1) := by decide +kernel
theorem dX8_append_35 : decode cX8_append 35 = .ok (.getfield 12, 3) := by decide +kernel
theorem dX8_append_38 : decode cX8_append 38 = .ok (.iload_n 3, 1) := by decide +kernel
theorem dX8_append_39 : decode cX8_append 39 = .ok (.invokevirtual 37, 3) := by decide +kernel
theorem dX8_append_42 : decode cX8_append 42 = .ok (.aload_n 0, 1) := by decide +kernel
theorem dX8_append_43 : decode cX8_append 43 = .ok (.getfield 12, 3) := by decide +kernel
theorem dX8_append_46 : decode cX8_append 46 = .ok (.iload 4, 2) := by decide +kernel
theorem dX8_append_48 : decode cX8_append 48 = .ok (.invokevirtual 37, 3) := by decide +kernel
theorem dX8_append_51 : decode cX8_append 51 = .ok (.aload_n 0, 1) := by decide +kernel
theorem dX8_append_52 : decode cX8_append 52 = .ok (.getfield 12, 3) := by decide +kernel
theorem dX8_append_55 : decode cX8_append 55 = .ok (.iload 5, 2) := by decide +kernel
theorem dX8_append_57 : decode cX8_append 57 = .ok (.invokevirtual 37, 3) := by decide +kernel
theorem dX8_append_60 : decode cX8_append 60 = .ok (.aload_n 0, 1) := by decide +kernel
theorem dX8_append_61 : decode cX8_append 61 = .ok (.getfield 12, 3) := by decide +kernel
theorem dX8_append_64 : decode cX8_append 64 = .ok (.getfield 34, 3) := by decide +kernel
theorem dX8_append_67 : decode cX8_append 67 = .ok (.ireturn, 1) := by decide +kernel
theorem dX8_load_0 : decode cX8_load 0 = .ok (.iload_n 1, 1) := by decide +kernel
theorem dX8_load_1 : decode cX8_load 1 = .ok (.iconst 0, 1) := by decide +kernel
theorem dX8_load_2 : decode cX8_load 2 = .ok (.aload_n 0, 1) := by decide +kernel
theorem dX8_load_3 : decode cX8_load 3 = .ok (.getfield 12, 3) := by decide +kernel
theorem dX8_load_6 : decode cX8_load 6 = .ok (.getfield 34, 3) := by decide +kernel
theorem dX8_load_9 : decode cX8_load 9 = .ok (.invokestatic 41, 3) := by decide +kernel
theorem dX8_load_12 : decode cX8_load 12 = .ok (.aload_n 0, 1) := by decide +kernel
theorem dX8_load_13 : decode cX8_load 13 = .ok (.getfield 12, 3) := by decide +kernel
theorem dX8_load_16 : decode cX8_load 16 = .ok (.iload_n 1, 1) := by decide +kernel
theorem dX8_load_17 : decode cX8_load 17 = .ok (.invokevirtual 45, 3) := by decide +kernel
theorem dX8_load_20 : decode cX8_load 20 = .ok (.istore_n 2, 1) := by decide +kernel
theorem dX8_load_21 : decode cX8_load 21 = .ok (.iload_n 2, 1) := by decide +kernel
theorem dX8_load_22 : decode cX8_load 22 = .ok (.ifCond .eq 5, 3) := by decide +kernel
theorem dX8_load_25 : decode cX8_load 25 = .ok (.iload_n 2, 1) := by decide +kernel
theorem dX8_load_26 : decode cX8_load 26 = .ok (.ireturn, 1) := by decide +kernel
theorem dX8_load_27 : decode cX8_load 27 = .ok (.aload_n 0, 1) := by decide +kernel
theorem dX8_load_28 : decode cX8_load 28 = .ok (.invokevirtual 49, 3) := by decide +kernel
theorem dX8_load_31 : decode cX8_load 31 = .ok (.astore_n 3, 1) := by decide +kernel
theorem dX8_load_32 : decode cX8_load 32 = .ok (.aload_n 3, 1) := by decide +kernel
theorem dX8_load_33 : decode cX8_load 33 = .ok (.aload_n 0, 1) := by decide +kernel
theorem dX8_load_34 : decode cX8_load 34 = .ok (.getfield 12, 3) := by decide +kernel
theorem dX8_load_37 : decode cX8_load 37 = .ok (.getfield 53, 3) := by decide +kernel
theorem dX8_load_40 : decode cX8_load 40 = .ok (.invokevirtual 56, 3) := by decide +kernel
theorem dX8_load_43 : decode cX8_load 43 = .ok (.aload_n 3, 1) := by decide +kernel
theorem dX8_load_44 : decode cX8_load 44 = .ok (.getfield 60, 3) := by decide +kernel
theorem dX8_load_47 : decode cX8_load 47 = .ok (.getfield 64, 3) := by decide +kernel
theorem dX8_load_50 : decode cX8_load 50 = .ok (.ireturn, 1) := by decide +kernel
theorem dX8_errorOffset_0 : decode cX8_errorOffset 0 = .ok (.aload_n 0, 1) := by decide +kernel
theorem dX8_errorOffset_1 : decode cX8_errorOffset 1 = .ok (.getfield 12, 3) := by decide +kernel
theorem dX8_errorOffset_4 : decode cX8_errorOffset 4 = .ok (.getfield 69, 3) := by decide +kernel
theorem dX8_errorOffset_7 : decode cX8_errorOffset 7 = .ok (.ireturn, 1) := by decide +kernel
theorem dX8_day_0 : decode cX8_day 0 = .ok (.aload_n 0, 1) := by decide +kernel
theorem dX8_day_1 : decode cX8_day 1 = .ok (.invokevirtual 72, 3) := by decide +kernel
theorem dX8_day_4 : decode cX8_day 4 = .ok (.getfield 75, 3) := by decide +kernel
theorem dX8_day_7 : decode cX8_day 7 = .ok (.ireturn, 1) := by decide +kernel
theorem dX8_contractCount_0 : decode cX8_contractCount 0 = .ok (.aload_n 0, 1) := by decide +kernel
theorem dX8_contractCount_1 : decode cX8_contractCount 1 = .ok (.invokevirtual 72, 3) := by decide +kernel
theorem dX8_contractCount_4 : decode cX8_contractCount 4 = .ok (.getfield 60, 3) := by decide +kernel
theorem dX8_contractCount_7 : decode cX8_contractCount 7 = .ok (.getfield 64, 3) := by decide +kernel
theorem dX8_contractCount_10 : decode cX8_contractCount 10 = .ok (.ireturn, 1) := by decide +kernel
theorem dX8_parent_0 : decode cX8_parent 0 = .ok (.aload_n 0, 1) := by decide +kernel
theorem dX8_parent_1 : decode cX8_parent 1 = .ok (.iload_n 1, 1) := by decide +kernel
theorem dX8_parent_2 : decode cX8_parent 2 = .ok (.invokevirtual 78, 3) := by decide +kernel
theorem dX8_parent_5 : decode cX8_parent 5 = .ok (.aload_n 0, 1) := by decide +kernel
theorem dX8_parent_6 : decode cX8_parent 6 = .ok (.invokevirtual 72, 3) := by decide +kernel
theorem dX8_parent_9 : decode cX8_parent 9 = .ok (.getfield 60, 3) := by decide +kernel
theorem dX8_parent_12 : decode cX8_parent 12 = .ok (.getfield 81, 3) := by decide +kernel
theorem dX8_parent_15 : decode cX8_parent 15 = .ok (.iload_n 1, 1) := by decide +kernel
theorem dX8_parent_16 : decode cX8_parent 16 = .ok (.iaload, 1) := by decide +kernel
theorem dX8_parent_17 : decode cX8_parent 17 = .ok (.ireturn, 1) := by decide +kernel
theorem dX8_itemCount_0 : decode cX8_itemCount 0 = .ok (.aload_n 0, 1) := by decide +kernel
theorem dX8_itemCount_1 : decode cX8_itemCount 1 = .ok (.iload_n 1, 1) := by decide +kernel
theorem dX8_itemCount_2 : decode cX8_itemCount 2 = .ok (.invokevirtual 78, 3) := by decide +kernel
theorem dX8_itemCount_5 : decode cX8_itemCount 5 = .ok (.aload_n 0, 1) := by decide +kernel
theorem dX8_itemCount_6 : decode cX8_itemCount 6 = .ok (.invokevirtual 72, 3) := by decide +kernel
theorem dX8_itemCount_9 : decode cX8_itemCount 9 = .ok (.getfield 85, 3) := by decide +kernel
theorem dX8_itemCount_12 : decode cX8_itemCount 12 = .ok (.getfield 89, 3) := by decide +kernel
theorem dX8_itemCount_15 : decode cX8_itemCount 15 = .ok (.iload_n 1, 1) := by decide +kernel
theorem dX8_itemCount_16 : decode cX8_itemCount 16 = .ok (.iaload, 1) := by decide +kernel
theorem dX8_itemCount_17 : decode cX8_itemCount 17 = .ok (.ireturn, 1) := by decide +kernel
theorem dX8_quantity_0 : decode cX8_quantity 0 = .ok (.aload_n 0, 1) := by decide +kernel
theorem dX8_quantity_1 : decode cX8_quantity 1 = .ok (.iload_n 1, 1) := by decide +kernel
theorem dX8_quantity_2 : decode cX8_quantity 2 = .ok (.iload_n 2, 1) := by decide +kernel
theorem dX8_quantity_3 : decode cX8_quantity 3 = .ok (.invokevirtual 93, 3) := by decide +kernel
theorem dX8_quantity_6 : decode cX8_quantity 6 = .ok (.aload_n 0, 1) := by decide +kernel
theorem dX8_quantity_7 : decode cX8_quantity 7 = .ok (.invokevirtual 72, 3) := by decide +kernel
theorem dX8_quantity_10 : decode cX8_quantity 10 = .ok (.getfield 85, 3) := by decide +kernel
theorem dX8_quantity_13 : decode cX8_quantity 13 = .ok (.getfield 97, 3) := by decide +kernel
theorem dX8_quantity_16 : decode cX8_quantity 16 = .ok (.iload_n 1, 1) := by decide +kernel
theorem dX8_quantity_17 : decode cX8_quantity 17 = .ok (.iload_n 2, 1) := by decide +kernel
theorem dX8_quantity_18 : decode cX8_quantity 18 = .ok (.invokestatic 100, 3) := by decide +kernel
theorem dX8_quantity_21 : decode cX8_quantity 21 = .ok (.iaload, 1) := by decide +kernel
theorem dX8_quantity_22 : decode cX8_quantity 22 = .ok (.ireturn, 1) := by decide +kernel
theorem dX8_specialRate_0 : decode cX8_specialRate 0 = .ok (.aload_n 0, 1) := by decide +kernel
theorem dX8_specialRate_1 : decode cX8_specialRate 1 = .ok (.iload_n 1, 1) := by decide +kernel
theorem dX8_specialRate_2 : decode cX8_specialRate 2 = .ok (.iload_n 2, 1) := by decide +kernel
theorem dX8_specialRate_3 : decode cX8_specialRate 3 = .ok (.invokevirtual 93, 3) := by decide +kernel
theorem dX8_specialRate_6 : decode cX8_specialRate 6 = .ok (.aload_n 0, 1) := by decide +kernel
theorem dX8_specialRate_7 : decode cX8_specialRate 7 = .ok (.invokevirtual 72, 3) := by decide +kernel
theorem dX8_specialRate_10 : decode cX8_specialRate 10 = .ok (.astore_n 3, 1) := by decide +kernel
theorem dX8_specialRate_11 : decode cX8_specialRate 11 = .ok (.aload_n 3, 1) := by decide +kernel
theorem dX8_specialRate_12 : decode cX8_specialRate 12 = .ok (.getfield 85, 3) := by decide +kernel
theorem dX8_specialRate_15 : decode cX8_specialRate 15 = .ok (.iload_n 1, 1) := by decide +kernel
theorem dX8_specialRate_16 : decode cX8_specialRate 16 = .ok (.iload_n 2, 1) := by decide +kernel
theorem dX8_specialRate_17 : decode cX8_specialRate 17 = .ok (.invokestatic 100, 3) := by decide +kernel
theorem dX8_specialRate_20 : decode cX8_specialRate 20 = .ok (.aload_n 3, 1) := by decide +kernel
theorem dX8_specialRate_21 : decode cX8_specialRate 21 = .ok (.getfield 104, 3) := by decide +kernel
theorem dX8_specialRate_24 : decode cX8_specialRate 24 = .ok (.invokevirtual 108, 3) := by decide +kernel
theorem dX8_specialRate_27 : decode cX8_specialRate 27 = .ok (.ireturn, 1) := by decide +kernel
theorem dX8_itemValue_0 : decode cX8_itemValue 0 = .ok (.aload_n 0, 1) := by decide +kernel
theorem dX8_itemValue_1 : decode cX8_itemValue 1 = .ok (.iload_n 1, 1) := by decide +kernel
theorem dX8_itemValue_2 : decode cX8_itemValue 2 = .ok (.iload_n 2, 1) := by decide +kernel
theorem dX8_itemValue_3 : decode cX8_itemValue 3 = .ok (.invokevirtual 93, 3) := by decide +kernel
theorem dX8_itemValue_6 : decode cX8_itemValue 6 = .ok (.aload_n 0, 1) := by decide +kernel
theorem dX8_itemValue_7 : decode cX8_itemValue 7 = .ok (.invokevirtual 72, 3) := by decide +kernel
theorem dX8_itemValue_10 : decode cX8_itemValue 10 = .ok (.astore_n 3, 1) := by decide +kernel
theorem dX8_itemValue_11 : decode cX8_itemValue 11 = .ok (.aload_n 3, 1) := by decide +kernel
theorem dX8_itemValue_12 : decode cX8_itemValue 12 = .ok (.getfield 85, 3) := by decide +kernel
theorem dX8_itemValue_15 : decode cX8_itemValue 15 = .ok (.iload_n 1, 1) := by decide +kernel
theorem dX8_itemValue_16 : decode cX8_itemValue 16 = .ok (.iload_n 2, 1) := by decide +kernel
theorem dX8_itemValue_17 : decode cX8_itemValue 17 = .ok (.invokestatic 100, 3) := by decide +kernel
theorem dX8_itemValue_20 : decode cX8_itemValue 20 = .ok (.aload_n 3, 1) := by decide +kernel
theorem dX8_itemValue_21 : decode cX8_itemValue 21 = .ok (.getfield 104, 3) := by decide +kernel
theorem dX8_itemValue_24 : decode cX8_itemValue 24 = .ok (.invokevirtual 112, 3) := by decide +kernel
theorem dX8_itemValue_27 : decode cX8_itemValue 27 = .ok (.lreturn, 1) := by decide +kernel
theorem dX8_firstSum_0 : decode cX8_firstSum 0 = .ok (.aload_n 0, 1) := by decide +kernel
theorem dX8_firstSum_1 : decode cX8_firstSum 1 = .ok (.iload_n 1, 1) := by decide +kernel
theorem dX8_firstSum_2 : decode cX8_firstSum 2 = .ok (.invokevirtual 78, 3) := by decide +kernel
theorem dX8_firstSum_5 : decode cX8_firstSum 5 = .ok (.aload_n 0, 1) := by decide +kernel
theorem dX8_firstSum_6 : decode cX8_firstSum 6 = .ok (.invokevirtual 72, 3) := by decide +kernel
theorem dX8_firstSum_9 : decode cX8_firstSum 9 = .ok (.getfield 85, 3) := by decide +kernel
theorem dX8_firstSum_12 : decode cX8_firstSum 12 = .ok (.iload_n 1, 1) := by decide +kernel
theorem dX8_firstSum_13 : decode cX8_firstSum 13 = .ok (.invokevirtual 116, 3) := by decide +kernel
theorem dX8_firstSum_16 : decode cX8_firstSum 16 = .ok (.lreturn, 1) := by decide +kernel
theorem dX8_presentSum_0 : decode cX8_presentSum 0 = .ok (.aload_n 0, 1) := by decide +kernel
theorem dX8_presentSum_1 : decode cX8_presentSum 1 = .ok (.iload_n 1, 1) := by decide +kernel
theorem dX8_presentSum_2 : decode cX8_presentSum 2 = .ok (.invokevirtual 78, 3) := by decide +kernel
theorem dX8_presentSum_5 : decode cX8_presentSum 5 = .ok (.aload_n 0, 1) := by decide +kernel
theorem dX8_presentSum_6 : decode cX8_presentSum 6 = .ok (.invokevirtual 72, 3) := by decide +kernel
theorem dX8_presentSum_9 : decode cX8_presentSum 9 = .ok (.iload_n 1, 1) := by decide +kernel
theorem dX8_presentSum_10 : decode cX8_presentSum 10 = .ok (.invokevirtual 120, 3) := by decide +kernel
theorem dX8_presentSum_13 : decode cX8_presentSum 13 = .ok (.lreturn, 1) := by decide +kernel
theorem dX8_grossValue_0 : decode cX8_grossValue 0 = .ok (.aload_n 0, 1) := by decide +kernel
theorem dX8_grossValue_1 : decode cX8_grossValue 1 = .ok (.iload_n 1, 1) := by decide +kernel
theorem dX8_grossValue_2 : decode cX8_grossValue 2 = .ok (.invokevirtual 78, 3) := by decide +kernel
theorem dX8_grossValue_5 : decode cX8_grossValue 5 = .ok (.aload_n 0, 1) := by decide +kernel
theorem dX8_grossValue_6 : decode cX8_grossValue 6 = .ok (.invokevirtual 72, 3) := by decide +kernel
theorem dX8_grossValue_9 : decode cX8_grossValue 9 = .ok (.iload_n 1, 1) := by decide +kernel
theorem dX8_grossValue_10 : decode cX8_grossValue 10 = .ok (.invokevirtual 123, 3) := by decide +kernel
theorem dX8_grossValue_13 : decode cX8_grossValue 13 = .ok (.lreturn, 1) := by decide +kernel
theorem dX8_retention_0 : decode cX8_retention 0 = .ok (.aload_n 0, 1) := by decide +kernel
theorem dX8_retention_1 : decode cX8_retention 1 = .ok (.iload_n 1, 1) := by decide +kernel
theorem dX8_retention_2 : decode cX8_retention 2 = .ok (.invokevirtual 78, 3) := by decide +kernel
theorem dX8_retention_5 : decode cX8_retention 5 = .ok (.aload_n 0, 1) := by decide +kernel
theorem dX8_retention_6 : decode cX8_retention 6 = .ok (.invokevirtual 72, 3) := by decide +kernel
theorem dX8_retention_9 : decode cX8_retention 9 = .ok (.iload_n 1, 1) := by decide +kernel
theorem dX8_retention_10 : decode cX8_retention 10 = .ok (.aload_n 0, 1) := by decide +kernel
theorem dX8_retention_11 : decode cX8_retention 11 = .ok (.invokevirtual 72, 3) := by decide +kernel
theorem dX8_retention_14 : decode cX8_retention 14 = .ok (.iload_n 1, 1) := by decide +kernel
theorem dX8_retention_15 : decode cX8_retention 15 = .ok (.invokevirtual 123, 3) := by decide +kernel
theorem dX8_retention_18 : decode cX8_retention 18 = .ok (.invokevirtual 126, 3) := by decide +kernel
theorem dX8_retention_21 : decode cX8_retention 21 = .ok (.lreturn, 1) := by decide +kernel
theorem dX8_certified_0 : decode cX8_certified 0 = .ok (.aload_n 0, 1) := by decide +kernel
theorem dX8_certified_1 : decode cX8_certified 1 = .ok (.iload_n 1, 1) := by decide +kernel
theorem dX8_certified_2 : decode cX8_certified 2 = .ok (.invokevirtual 78, 3) := by decide +kernel
theorem dX8_certified_5 : decode cX8_certified 5 = .ok (.aload_n 0, 1) := by decide +kernel
theorem dX8_certified_6 : decode cX8_certified 6 = .ok (.invokevirtual 72, 3) := by decide +kernel
theorem dX8_certified_9 : decode cX8_certified 9 = .ok (.getfield 130, 3) := by decide +kernel
theorem dX8_certified_12 : decode cX8_certified 12 = .ok (.iload_n 1, 1) := by decide +kernel
theorem dX8_certified_13 : decode cX8_certified 13 = .ok (.invokevirtual 134, 3) := by decide +kernel
theorem dX8_certified_16 : decode cX8_certified 16 = .ok (.lreturn, 1) := by decide +kernel
theorem dX8_unpaid_0 : decode cX8_unpaid 0 = .ok (.aload_n 0, 1) := by decide +kernel
theorem dX8_unpaid_1 : decode cX8_unpaid 1 = .ok (.iload_n 1, 1) := by decide +kernel
theorem dX8_unpaid_2 : decode cX8_unpaid 2 = .ok (.invokevirtual 78, 3) := by decide +kernel
theorem dX8_unpaid_5 : decode cX8_unpaid 5 = .ok (.aload_n 0, 1) := by decide +kernel
theorem dX8_unpaid_6 : decode cX8_unpaid 6 = .ok (.invokevirtual 72, 3) := by decide +kernel
theorem dX8_unpaid_9 : decode cX8_unpaid 9 = .ok (.getfield 130, 3) := by decide +kernel
theorem dX8_unpaid_12 : decode cX8_unpaid 12 = .ok (.iload_n 1, 1) := by decide +kernel
theorem dX8_unpaid_13 : decode cX8_unpaid 13 = .ok (.invokevirtual 139, 3) := by decide +kernel
theorem dX8_unpaid_16 : decode cX8_unpaid 16 = .ok (.lreturn, 1) := by decide +kernel
theorem dX8_overdue_0 : decode cX8_overdue 0 = .ok (.aload_n 0, 1) := by decide +kernel
theorem dX8_overdue_1 : decode cX8_overdue 1 = .ok (.iload_n 1, 1) := by decide +kernel
theorem dX8_overdue_2 : decode cX8_overdue 2 = .ok (.invokevirtual 78, 3) := by decide +kernel
theorem dX8_overdue_5 : decode cX8_overdue 5 = .ok (.aload_n 0, 1) := by decide +kernel
theorem dX8_overdue_6 : decode cX8_overdue 6 = .ok (.invokevirtual 72, 3) := by decide +kernel
theorem dX8_overdue_9 : decode cX8_overdue 9 = .ok (.iload_n 1, 1) := by decide +kernel
theorem dX8_overdue_10 : decode cX8_overdue 10 = .ok (.invokevirtual 142, 3) := by decide +kernel
theorem dX8_overdue_13 : decode cX8_overdue 13 = .ok (.lreturn, 1) := by decide +kernel
theorem dX8_stage_0 : decode cX8_stage 0 = .ok (.aload_n 0, 1) := by decide +kernel
theorem dX8_stage_1 : decode cX8_stage 1 = .ok (.iload_n 1, 1) := by decide +kernel
theorem dX8_stage_2 : decode cX8_stage 2 = .ok (.invokevirtual 78, 3) := by decide +kernel
theorem dX8_stage_5 : decode cX8_stage 5 = .ok (.aload_n 0, 1) := by decide +kernel
theorem dX8_stage_6 : decode cX8_stage 6 = .ok (.invokevirtual 72, 3) := by decide +kernel
theorem dX8_stage_9 : decode cX8_stage 9 = .ok (.getfield 60, 3) := by decide +kernel
theorem dX8_stage_12 : decode cX8_stage 12 = .ok (.getfield 145, 3) := by decide +kernel
theorem dX8_stage_15 : decode cX8_stage 15 = .ok (.iload_n 1, 1) := by decide +kernel
theorem dX8_stage_16 : decode cX8_stage 16 = .ok (.iaload, 1) := by decide +kernel
theorem dX8_stage_17 : decode cX8_stage 17 = .ok (.ireturn, 1) := by decide +kernel
theorem dX8_margin_0 : decode cX8_margin 0 = .ok (.aload_n 0, 1) := by decide +kernel
theorem dX8_margin_1 : decode cX8_margin 1 = .ok (.iload_n 1, 1) := by decide +kernel
theorem dX8_margin_2 : decode cX8_margin 2 = .ok (.invokevirtual 78, 3) := by decide +kernel
theorem dX8_margin_5 : decode cX8_margin 5 = .ok (.aload_n 0, 1) := by decide +kernel
theorem dX8_margin_6 : decode cX8_margin 6 = .ok (.invokevirtual 72, 3) := by decide +kernel
theorem dX8_margin_9 : decode cX8_margin 9 = .ok (.iload_n 1, 1) := by decide +kernel
theorem dX8_margin_10 : decode cX8_margin 10 = .ok (.invokevirtual 148, 3) := by decide +kernel
theorem dX8_margin_13 : decode cX8_margin 13 = .ok (.lreturn, 1) := by decide +kernel
theorem dX8_account_0 : decode cX8_account 0 = .ok (.iload_n 1, 1) := by decide +kernel
theorem dX8_account_1 : decode cX8_account 1 = .ok (.aload_n 0, 1) := by decide +kernel
theorem dX8_account_2 : decode cX8_account 2 = .ok (.invokevirtual 72, 3) := by decide +kernel
theorem dX8_account_5 : decode cX8_account 5 = .ok (.getfield 60, 3) := by decide +kernel
theorem dX8_account_8 : decode cX8_account 8 = .ok (.getfield 64, 3) := by decide +kernel
theorem dX8_account_11 : decode cX8_account 11 = .ok (.iconst 1, 1) := by decide +kernel
theorem dX8_account_12 : decode cX8_account 12 = .ok (.iadd, 1) := by decide +kernel
theorem dX8_account_13 : decode cX8_account 13 = .ok (.invokestatic 151, 3) := by decide +kernel
theorem dX8_account_16 : decode cX8_account 16 = .ok (.aload_n 0, 1) := by decide +kernel
theorem dX8_account_17 : decode cX8_account 17 = .ok (.invokevirtual 72, 3) := by decide +kernel
theorem dX8_account_20 : decode cX8_account 20 = .ok (.getfield 154, 3) := by decide +kernel
theorem dX8_account_23 : decode cX8_account 23 = .ok (.iload_n 1, 1) := by decide +kernel
theorem dX8_account_24 : decode cX8_account 24 = .ok (.laload, 1) := by decide +kernel
theorem dX8_account_25 : decode cX8_account 25 = .ok (.lreturn, 1) := by decide +kernel
theorem dX8_certificateCount_0 : decode cX8_certificateCount 0 = .ok (.aload_n 0, 1) := by decide +kernel
theorem dX8_certificateCount_1 : decode cX8_certificateCount 1 = .ok (.invokevirtual 72, 3) := by decide +kernel
theorem dX8_certificateCount_4 : decode cX8_certificateCount 4 = .ok (.getfield 130, 3) := by decide +kernel
theorem dX8_certificateCount_7 : decode cX8_certificateCount 7 = .ok (.getfield 158, 3) := by decide +kernel
theorem dX8_certificateCount_10 : decode cX8_certificateCount 10 = .ok (.ireturn, 1) := by decide +kernel
theorem dX8_certificateContract_0 : decode cX8_certificateContract 0 = .ok (.aload_n 0, 1) := by decide +kernel
theorem dX8_certificateContract_1 : decode cX8_certificateContract 1 = .ok (.iload_n 1, 1) := by decide +kernel
theorem dX8_certificateContract_2 : decode cX8_certificateContract 2 = .ok (.invokevirtual 159, 3) := by decide +kernel
theorem dX8_certificateContract_5 : decode cX8_certificateContract 5 = .ok (.aload_n 0, 1) := by decide +kernel
theorem dX8_certificateContract_6 : decode cX8_certificateContract 6 = .ok (.invokevirtual 72, 3) := by decide +kernel
theorem dX8_certificateContract_9 : decode cX8_certificateContract 9 = .ok (.getfield 130, 3) := by decide +kernel
theorem dX8_certificateContract_12 : decode cX8_certificateContract 12 = .ok (.getfield 162, 3) := by decide +kernel
theorem dX8_certificateContract_15 : decode cX8_certificateContract 15 = .ok (.iload_n 1, 1) := by decide +kernel
theorem dX8_certificateContract_16 : decode cX8_certificateContract 16 = .ok (.iaload, 1) := by decide +kernel
theorem dX8_certificateContract_17 : decode cX8_certificateContract 17 = .ok (.ireturn, 1) := by decide +kernel
theorem dX8_amount_0 : decode cX8_amount 0 = .ok (.aload_n 0, 1) := by decide +kernel
theorem dX8_amount_1 : decode cX8_amount 1 = .ok (.iload_n 1, 1) := by decide +kernel
theorem dX8_amount_2 : decode cX8_amount 2 = .ok (.invokevirtual 159, 3) := by decide +kernel
theorem dX8_amount_5 : decode cX8_amount 5 = .ok (.aload_n 0, 1) := by decide +kernel
theorem dX8_amount_6 : decode cX8_amount 6 = .ok (.invokevirtual 72, 3) := by decide +kernel
theorem dX8_amount_9 : decode cX8_amount 9 = .ok (.getfield 130, 3) := by decide +kernel
theorem dX8_amount_12 : decode cX8_amount 12 = .ok (.getfield 165, 3) := by decide +kernel
theorem dX8_amount_15 : decode cX8_amount 15 = .ok (.iload_n 1, 1) := by decide +kernel
theorem dX8_amount_16 : decode cX8_amount 16 = .ok (.laload, 1) := by decide +kernel
theorem dX8_amount_17 : decode cX8_amount 17 = .ok (.lreturn, 1) := by decide +kernel
theorem dX8_openAmount_0 : decode cX8_openAmount 0 = .ok (.aload_n 0, 1) := by decide +kernel
theorem dX8_openAmount_1 : decode cX8_openAmount 1 = .ok (.iload_n 1, 1) := by decide +kernel
theorem dX8_openAmount_2 : decode cX8_openAmount 2 = .ok (.invokevirtual 159, 3) := by decide +kernel
theorem dX8_openAmount_5 : decode cX8_openAmount 5 = .ok (.aload_n 0, 1) := by decide +kernel
theorem dX8_openAmount_6 : decode cX8_openAmount 6 = .ok (.invokevirtual 72, 3) := by decide +kernel
theorem dX8_openAmount_9 : decode cX8_openAmount 9 = .ok (.getfield 130, 3) := by decide +kernel
theorem dX8_openAmount_12 : decode cX8_openAmount 12 = .ok (.getfield 168, 3) := by decide +kernel
theorem dX8_openAmount_15 : decode cX8_openAmount 15 = .ok (.iload_n 1, 1) := by decide +kernel
theorem dX8_openAmount_16 : decode cX8_openAmount 16 = .ok (.laload, 1) := by decide +kernel
theorem dX8_openAmount_17 : decode cX8_openAmount 17 = .ok (.lreturn, 1) := by decide +kernel
theorem dX8_dueDay_0 : decode cX8_dueDay 0 = .ok (.aload_n 0, 1) := by decide +kernel
theorem dX8_dueDay_1 : decode cX8_dueDay 1 = .ok (.iload_n 1, 1) := by decide +kernel
theorem dX8_dueDay_2 : decode cX8_dueDay 2 = .ok (.invokevirtual 159, 3) := by decide +kernel
theorem dX8_dueDay_5 : decode cX8_dueDay 5 = .ok (.aload_n 0, 1) := by decide +kernel
theorem dX8_dueDay_6 : decode cX8_dueDay 6 = .ok (.invokevirtual 72, 3) := by decide +kernel
theorem dX8_dueDay_9 : decode cX8_dueDay 9 = .ok (.getfield 130, 3) := by decide +kernel
theorem dX8_dueDay_12 : decode cX8_dueDay 12 = .ok (.getfield 171, 3) := by decide +kernel
theorem dX8_dueDay_15 : decode cX8_dueDay 15 = .ok (.iload_n 1, 1) := by decide +kernel
theorem dX8_dueDay_16 : decode cX8_dueDay 16 = .ok (.iaload, 1) := by decide +kernel
theorem dX8_dueDay_17 : decode cX8_dueDay 17 = .ok (.ireturn, 1) := by decide +kernel
theorem dX8_isBlocked_0 : decode cX8_isBlocked 0 = .ok (.aload_n 0, 1) := by decide +kernel
theorem dX8_isBlocked_1 : decode cX8_isBlocked 1 = .ok (.iload_n 1, 1) := by decide +kernel
theorem dX8_isBlocked_2 : decode cX8_isBlocked 2 = .ok (.invokevirtual 159, 3) := by decide +kernel
theorem dX8_isBlocked_5 : decode cX8_isBlocked 5 = .ok (.aload_n 0, 1) := by decide +kernel
theorem dX8_isBlocked_6 : decode cX8_isBlocked 6 = .ok (.invokevirtual 72, 3) := by decide +kernel
theorem dX8_isBlocked_9 : decode cX8_isBlocked 9 = .ok (.iload_n 1, 1) := by decide +kernel
theorem dX8_isBlocked_10 : decode cX8_isBlocked 10 = .ok (.invokevirtual 174, 3) := by decide +kernel
theorem dX8_isBlocked_13 : decode cX8_isBlocked 13 = .ok (.ireturn, 1) := by decide +kernel
theorem dX8_dueBetween_0 : decode cX8_dueBetween 0 = .ok (.aload_n 0, 1) := by decide +kernel
theorem dX8_dueBetween_1 : decode cX8_dueBetween 1 = .ok (.invokevirtual 72, 3) := by decide +kernel
theorem dX8_dueBetween_4 : decode cX8_dueBetween 4 = .ok (.getfield 130, 3) := by decide +kernel
theorem dX8_dueBetween_7 : decode cX8_dueBetween 7 = .ok (.iload_n 1, 1) := by decide +kernel
theorem dX8_dueBetween_8 : decode cX8_dueBetween 8 = .ok (.iload_n 2, 1) := by decide +kernel
theorem dX8_dueBetween_9 : decode cX8_dueBetween 9 = .ok (.invokevirtual 178, 3) := by decide +kernel
theorem dX8_dueBetween_12 : decode cX8_dueBetween 12 = .ok (.lreturn, 1) := by decide +kernel
theorem dX8_settleDays_0 : decode cX8_settleDays 0 = .ok (.aload_n 0, 1) := by decide +kernel
theorem dX8_settleDays_1 : decode cX8_settleDays 1 = .ok (.iload_n 1, 1) := by decide +kernel
theorem dX8_settleDays_2 : decode cX8_settleDays 2 = .ok (.invokevirtual 159, 3) := by decide +kernel
theorem dX8_settleDays_5 : decode cX8_settleDays 5 = .ok (.iload_n 2, 1) := by decide +kernel
theorem dX8_settleDays_6 : decode cX8_settleDays 6 = .ok (.iconst 0, 1) := by decide +kernel
theorem dX8_settleDays_7 : decode cX8_settleDays 7 = .ok (.sipush 200, 3) := by decide +kernel
theorem dX8_settleDays_10 : decode cX8_settleDays 10 = .ok (.invokestatic 41, 3) := by decide +kernel
theorem dX8_settleDays_13 : decode cX8_settleDays 13 = .ok (.aload_n 0, 1) := by decide +kernel
theorem dX8_settleDays_14 : decode cX8_settleDays 14 = .ok (.getfield 30, 3) := by decide +kernel
theorem dX8_settleDays_17 : decode cX8_settleDays 17 = .ok (.aload_n 0, 1) := by decide +kernel
theorem dX8_settleDays_18 : decode cX8_settleDays 18 = .ok (.invokevirtual 72, 3) := by decide +kernel
theorem dX8_settleDays_21 : decode cX8_settleDays 21 = .ok (.invokevirtual 56, 3) := by decide +kernel
theorem dX8_settleDays_24 : decode cX8_settleDays 24 = .ok (.aload_n 0, 1) := by decide +kernel
theorem dX8_settleDays_25 : decode cX8_settleDays 25 = .ok (.getfield 30, 3) := by decide +kernel
theorem dX8_settleDays_28 : decode cX8_settleDays 28 = .ok (.iload_n 2, 1) := by decide +kernel
theorem dX8_settleDays_29 : decode cX8_settleDays 29 = .ok (.iload_n 1, 1) := by decide +kernel
theorem dX8_settleDays_30 : decode cX8_settleDays 30 = .ok (.invokevirtual 182, 3) := by decide +kernel
theorem dX8_settleDays_33 : decode cX8_settleDays 33 = .ok (.pop2, 1) := by decide +kernel
