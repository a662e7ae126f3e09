theorem dX0_init_0 : decode cX0_init 0 = .ok (.aload_n 0, 1) := by decide +kernel
theorem dX0_init_1 : decode cX0_init 1 = .ok (.invokespecial 3, 3) := by decide +kernel
theorem dX0_init_4 : decode cX0_init 4 = .ok (.aload_n 0, 1) := by decide +kernel
theorem dX0_init_5 : decode cX0_init 5 = .ok (.bipush 8, 2) := by decide +kernel
theorem dX0_init_7 : decode cX0_init 7 = .ok (.newarray .int, 2) := by decide +kernel
theorem dX0_init_9 : decode cX0_init 9 = .ok (.putfield 9, 3) := by decide +kernel
theorem dX0_init_12 : decode cX0_init 12 = .ok (.aload_n 0, 1) := by decide +kernel
theorem dX0_init_13 : decode cX0_init 13 = .ok (.bipush 8, 2) := by decide +kernel
theorem dX0_init_15 : decode cX0_init 15 = .ok (.newarray .int, 2) := by decide +kernel
theorem dX0_init_17 : decode cX0_init 17 = .ok (.putfield 15, 3) := by decide +kernel
theorem dX0_init_20 : decode cX0_init 20 = .ok (.aload_n 0, 1) := by decide +kernel
theorem dX0_init_21 : decode cX0_init 21 = .ok (.bipush 8, 2) := by decide +kernel
theorem dX0_init_23 : decode cX0_init 23 = .ok (.newarray .int, 2) := by decide +kernel
theorem dX0_init_25 : decode cX0_init 25 = .ok (.putfield 18, 3) := by decide +kernel
theorem dX0_init_28 : decode cX0_init 28 = .ok (.aload_n 0, 1) := by decide +kernel
theorem dX0_init_29 : decode cX0_init 29 = .ok (.bipush 8, 2) := by decide +kernel
theorem dX0_init_31 : decode cX0_init 31 = .ok (.newarray .boolean, 2) := by decide +kernel
theorem dX0_init_33 : decode cX0_init 33 = .ok (.putfield 21, 3) := by decide +kernel
theorem dX0_init_36 : decode cX0_init 36 = .ok (.return_, 1) := by decide +kernel
theorem dX0_copyFrom_0 : decode cX0_copyFrom 0 = .ok (.aload_n 0, 1) := by decide +kernel
theorem dX0_copyFrom_1 : decode cX0_copyFrom 1 = .ok (.aload_n 1, 1) := by decide +kernel
theorem dX0_copyFrom_2 : decode cX0_copyFrom 2 = .ok (.getfield 25, 3) := by decide +kernel
theorem dX0_copyFrom_5 : decode cX0_copyFrom 5 = .ok (.putfield 25, 3) := by decide +kernel
theorem dX0_copyFrom_8 : decode cX0_copyFrom 8 = .ok (.iconst 0, 1) := by decide +kernel
theorem dX0_copyFrom_9 : decode cX0_copyFrom 9 = .ok (.istore_n 2, 1) := by decide +kernel
theorem dX0_copyFrom_10 : decode cX0_copyFrom 10 = .ok (.iload_n 2, 1) := by decide +kernel
theorem dX0_copyFrom_11 : decode cX0_copyFrom 11 = .ok (.aload_n 0, 1) := by decide +kernel
theorem dX0_copyFrom_12 : decode cX0_copyFrom 12 = .ok (.getfield 25, 3) := by decide +kernel
theorem dX0_copyFrom_15 : decode cX0_copyFrom 15 = .ok (.if_icmp .ge 16, 3) := by decide +kernel
theorem dX0_copyFrom_18 : decode cX0_copyFrom 18 = .ok (.aload_n 0, 1) := by decide +kernel
theorem dX0_copyFrom_19 : decode cX0_copyFrom 19 = .ok (.aload_n 1, 1) := by decide +kernel
theorem dX0_copyFrom_20 : decode cX0_copyFrom 20 = .ok (.iload_n 2, 1) := by decide +kernel
theorem dX0_copyFrom_21 : decode cX0_copyFrom 21 = .ok (.iload_n 2, 1) := by decide +kernel
theorem dX0_copyFrom_22 : decode cX0_copyFrom 22 = .ok (.invokevirtual 29, 3) := by decide +kernel
theorem dX0_copyFrom_25 : decode cX0_copyFrom 25 = .ok (.iinc 2 1, 3) := by decide +kernel
theorem dX0_copyFrom_28 : decode cX0_copyFrom 28 = .ok (.goto (-18), 3) := by decide +kernel
theorem dX0_copyFrom_31 : decode cX0_copyFrom 31 = .ok (.return_, 1) := by decide +kernel
theorem dX0_copyArc_0 : decode cX0_copyArc 0 = .ok (.aload_n 0, 1) := by decide +kernel
theorem dX0_copyArc_1 : decode cX0_copyArc 1 = .ok (.getfield 9, 3) := by decide +kernel
theorem dX0_copyArc_4 : decode cX0_copyArc 4 = .ok (.iload_n 3, 1) := by decide +kernel
theorem dX0_copyArc_5 : decode cX0_copyArc 5 = .ok (.aload_n 1, 1) := by decide +kernel
theorem dX0_copyArc_6 : decode cX0_copyArc 6 = .ok (.getfield 9, 3) := by decide +kernel
theorem dX0_copyArc_9 : decode cX0_copyArc 9 = .ok (.iload_n 2, 1) := by decide +kernel
theorem dX0_copyArc_10 : decode cX0_copyArc 10 = .ok (.iaload, 1) := by decide +kernel
theorem dX0_copyArc_11 : decode cX0_copyArc 11 = .ok (.iastore, 1) := by decide +kernel
theorem dX0_copyArc_12 : decode cX0_copyArc 12 = .ok (.aload_n 0, 1) := by decide +kernel
theorem dX0_copyArc_13 : decode cX0_copyArc 13 = .ok (.getfield 15, 3) := by decide +kernel
theorem dX0_copyArc_16 : decode cX0_copyArc 16 = .ok (.iload_n 3, 1) := by decide +kernel
theorem dX0_copyArc_17 : decode cX0_copyArc 17 = .ok (.aload_n 1, 1) := by decide +kernel
theorem dX0_copyArc_18 : decode cX0_copyArc 18 = .ok (.getfield 15, 3) := by decide +kernel
theorem dX0_copyArc_21 : decode cX0_copyArc 21 = .ok (.iload_n 2, 1) := by decide +kernel
theorem dX0_copyArc_22 : decode cX0_copyArc 22 = .ok (.iaload, 1) := by decide +kernel
theorem dX0_copyArc_23 : decode cX0_copyArc 23 = .ok (.iastore, 1) := by decide +kernel
theorem dX0_copyArc_24 : decode cX0_copyArc 24 = .ok (.aload_n 0, 1) := by decide +kernel
theorem dX0_copyArc_25 : decode cX0_copyArc 25 = .ok (.getfield 18, 3) := by decide +kernel
theorem dX0_copyArc_28 : decode cX0_copyArc 28 = .ok (.iload_n 3, 1) := by decide +kernel
theorem dX0_copyArc_29 : decode cX0_copyArc 29 = .ok (.aload_n 1, 1) := by decide +kernel
theorem dX0_copyArc_30 : decode cX0_copyArc 30 = .ok (.getfield 18, 3) := by decide +kernel
theorem dX0_copyArc_33 : decode cX0_copyArc 33 = .ok (.iload_n 2, 1) := by decide +kernel
theorem dX0_copyArc_34 : decode cX0_copyArc 34 = .ok (.iaload, 1) := by decide +kernel
theorem dX0_copyArc_35 : decode cX0_copyArc 35 = .ok (.iastore, 1) := by decide +kernel
theorem dX0_copyArc_36 : decode cX0_copyArc 36 = .ok (.aload_n 0, 1) := by decide +kernel
theorem dX0_copyArc_37 : decode cX0_copyArc 37 = .ok (.getfield 21, 3) := by decide +kernel
theorem dX0_copyArc_40 : decode cX0_copyArc 40 = .ok (.iload_n 3, 1) := by decide +kernel
theorem dX0_copyArc_41 : decode cX0_copyArc 41 = .ok (.aload_n 1, 1) := by decide +kernel
theorem dX0_copyArc_42 : decode cX0_copyArc 42 = .ok (.getfield 21, 3) := by decide +kernel
theorem dX0_copyArc_45 : decode cX0_copyArc 45 = .ok (.iload_n 2, 1) := by decide +kernel
theorem dX0_copyArc_46 : decode cX0_copyArc 46 = .ok (.baload, 1) := by decide +kernel
theorem dX0_copyArc_47 : decode cX0_copyArc 47 = .ok (.bastore, 1) := by decide +kernel
theorem dX0_copyArc_48 : decode cX0_copyArc 48 = .ok (.return_, 1) := by decide +kernel
theorem dX0_addArc_0 : decode cX0_addArc 0 = .ok (.aload_n 0, 1) := by decide +kernel
theorem dX0_addArc_1 : decode cX0_addArc 1 = .ok (.getfield 25, 3) := by decide +kernel
theorem dX0_addArc_4 : decode cX0_addArc 4 = .ok (.bipush 8, 2) := by decide +kernel
theorem dX0_addArc_6 : decode cX0_addArc 6 = .ok (.if_icmp .ge 54, 3) := by decide +kernel
theorem dX0_addArc_9 : decode cX0_addArc 9 = .ok (.aload_n 0, 1) := by decide +kernel
theorem dX0_addArc_10 : decode cX0_addArc 10 = .ok (.getfield 9, 3) := by decide +kernel
theorem dX0_addArc_13 : decode cX0_addArc 13 = .ok (.aload_n 0, 1) := by decide +kernel
theorem dX0_addArc_14 : decode cX0_addArc 14 = .ok (.getfield 25, 3) := by decide +kernel
theorem dX0_addArc_17 : decode cX0_addArc 17 = .ok (.iload_n 1, 1) := by decide +kernel
theorem dX0_addArc_18 : decode cX0_addArc 18 = .ok (.iastore, 1) := by decide +kernel
theorem dX0_addArc_19 : decode cX0_addArc 19 = .ok (.aload_n 0, 1) := by decide +kernel
theorem dX0_addArc_20 : decode cX0_addArc 20 = .ok (.getfield 15, 3) := by decide +kernel
theorem dX0_addArc_23 : decode cX0_addArc 23 = .ok (.aload_n 0, 1) := by decide +kernel
theorem dX0_addArc_24 : decode cX0_addArc 24 = .ok (.getfield 25, 3) := by decide +kernel
theorem dX0_addArc_27 : decode cX0_addArc 27 = .ok (.iload_n 2, 1) := by decide +kernel
theorem dX0_addArc_28 : decode cX0_addArc 28 = .ok (.iastore, 1) := by decide +kernel
theorem dX0_addArc_29 : decode cX0_addArc 29 = .ok (.aload_n 0, 1) := by decide +kernel
theorem dX0_addArc_30 : decode cX0_addArc 30 = .ok (.getfield 21, 3) := by decide +kernel
theorem dX0_addArc_33 : decode cX0_addArc 33 = .ok (.aload_n 0, 1) := by decide +kernel
theorem dX0_addArc_34 : decode cX0_addArc 34 = .ok (.getfield 25, 3) := by decide +kernel
theorem dX0_addArc_37 : decode cX0_addArc 37 = .ok (.iload_n 3, 1) := by decide +kernel
theorem dX0_addArc_38 : decode cX0_addArc 38 = .ok (.bastore, 1) := by decide +kernel
theorem dX0_addArc_39 : decode cX0_addArc 39 = .ok (.aload_n 0, 1) := by decide +kernel
theorem dX0_addArc_40 : decode cX0_addArc 40 = .ok (.getfield 18, 3) := by decide +kernel
theorem dX0_addArc_43 : decode cX0_addArc 43 = .ok (.aload_n 0, 1) := by decide +kernel
theorem dX0_addArc_44 : decode cX0_addArc 44 = .ok (.getfield 25, 3) := by decide +kernel
theorem dX0_addArc_47 : decode cX0_addArc 47 = .ok (.iload 4, 2) := by decide +kernel
theorem dX0_addArc_49 : decode cX0_addArc 49 = .ok (.iastore, 1) := by decide +kernel
theorem dX0_addArc_50 : decode cX0_addArc 50 = .ok (.aload_n 0, 1) := by decide +kernel
theorem dX0_addArc_51 : decode cX0_addArc 51 = .ok (.dup, 1) := by decide +kernel
theorem dX0_addArc_52 : decode cX0_addArc 52 = .ok (.getfield 25, 3) := by decide +kernel
theorem dX0_addArc_55 : decode cX0_addArc 55 = .ok (.iconst 1, 1) := by decide +kernel
theorem dX0_addArc_56 : decode cX0_addArc 56 = .ok (.iadd, 1) := by decide +kernel
theorem dX0_addArc_57 : decode cX0_addArc 57 = .ok (.putfield 25, 3) := by decide +kernel
theorem dX0_addArc_60 : decode cX0_addArc 60 = .ok (.return_, 1) := by decide +kernel
theorem dX0_tenths_0 : decode cX0_tenths 0 = .ok (.bipush 10, 2) := by decide +kernel
theorem dX0_tenths_2 : decode cX0_tenths 2 = .ok (.aload_n 0, 1) := by decide +kernel
theorem dX0_tenths_3 : decode cX0_tenths 3 = .ok (.getfield 15, 3) := by decide +kernel
theorem dX0_tenths_6 : decode cX0_tenths 6 = .ok (.iload_n 1, 1) := by decide +kernel
theorem dX0_tenths_7 : decode cX0_tenths 7 = .ok (.iaload, 1) := by decide +kernel
theorem dX0_tenths_8 : decode cX0_tenths 8 = .ok (.imul, 1) := by decide +kernel
theorem dX0_tenths_9 : decode cX0_tenths 9 = .ok (.ireturn, 1) := by decide +kernel
theorem dX0_turnAhead_0 : decode cX0_turnAhead 0 = .ok (.iconst 0, 1) := by decide +kernel
theorem dX0_turnAhead_1 : decode cX0_turnAhead 1 = .ok (.istore_n 2, 1) := by decide +kernel
theorem dX0_turnAhead_2 : decode cX0_turnAhead 2 = .ok (.iconst 0, 1) := by decide +kernel
theorem dX0_turnAhead_3 : decode cX0_turnAhead 3 = .ok (.istore_n 3, 1) := by decide +kernel
theorem dX0_turnAhead_4 : decode cX0_turnAhead 4 = .ok (.iload_n 3, 1) := by decide +kernel
theorem dX0_turnAhead_5 : decode cX0_turnAhead 5 = .ok (.iload_n 1, 1) := by decide +kernel
theorem dX0_turnAhead_6 : decode cX0_turnAhead 6 = .ok (.if_icmp .ge 21, 3) := by decide +kernel
theorem dX0_turnAhead_9 : decode cX0_turnAhead 9 = .ok (.iload_n 2, 1) := by decide +kernel
theorem dX0_turnAhead_10 : decode cX0_turnAhead 10 = .ok (.bipush 10, 2) := by decide +kernel
theorem dX0_turnAhead_12 : decode cX0_turnAhead 12 = .ok (.aload_n 0, 1) := by decide +kernel
theorem dX0_turnAhead_13 : decode cX0_turnAhead 13 = .ok (.getfield 15, 3) := by decide +kernel
theorem dX0_turnAhead_16 : decode cX0_turnAhead 16 = .ok (.iload_n 3, 1) := by decide +kernel
theorem dX0_turnAhead_17 : decode cX0_turnAhead 17 = .ok (.iaload, 1) := by decide +kernel
theorem dX0_turnAhead_18 : decode cX0_turnAhead 18 = .ok (.imul, 1) := by decide +kernel
theorem dX0_turnAhead_19 : decode cX0_turnAhead 19 = .ok (.iadd, 1) := by decide +kernel
theorem dX0_turnAhead_20 : decode cX0_turnAhead 20 = .ok (.istore_n 2, 1) := by decide +kernel
theorem dX0_turnAhead_21 : decode cX0_turnAhead 21 = .ok (.iinc 3 1, 3) := by decide +kernel
theorem dX0_turnAhead_24 : decode cX0_turnAhead 24 = .ok (.goto (-20), 3) := by decide +kernel
theorem dX0_turnAhead_27 : decode cX0_turnAhead 27 = .ok (.iload_n 2, 1) := by decide +kernel
theorem dX0_turnAhead_28 : decode cX0_turnAhead 28 = .ok (.ireturn, 1) := by decide +kernel
theorem dX0_partsAhead_0 : decode cX0_partsAhead 0 = .ok (.iconst 0, 1) := by decide +kernel
theorem dX0_partsAhead_1 : decode cX0_partsAhead 1 = .ok (.istore_n 2, 1) := by decide +kernel
theorem dX0_partsAhead_2 : decode cX0_partsAhead 2 = .ok (.iconst 0, 1) := by decide +kernel
theorem dX0_partsAhead_3 : decode cX0_partsAhead 3 = .ok (.istore_n 3, 1) := by decide +kernel
theorem dX0_partsAhead_4 : decode cX0_partsAhead 4 = .ok (.iload_n 3, 1) := by decide +kernel
theorem dX0_partsAhead_5 : decode cX0_partsAhead 5 = .ok (.iload_n 1, 1) := by decide +kernel
theorem dX0_partsAhead_6 : decode cX0_partsAhead 6 = .ok (.if_icmp .ge 28, 3) := by decide +kernel
theorem dX0_partsAhead_9 : decode cX0_partsAhead 9 = .ok (.iload_n 2, 1) := by decide +kernel
theorem dX0_partsAhead_10 : decode cX0_partsAhead 10 = .ok (.aload_n 0, 1) := by decide +kernel
theorem dX0_partsAhead_11 : decode cX0_partsAhead 11 = .ok (.getfield 9, 3) := by decide +kernel
theorem dX0_partsAhead_14 : decode cX0_partsAhead 14 = .ok (.iload_n 3, 1) := by decide +kernel
theorem dX0_partsAhead_15 : decode cX0_partsAhead 15 = .ok (.iaload, 1) := by decide +kernel
theorem dX0_partsAhead_16 : decode cX0_partsAhead 16 = .ok (.bipush 10, 2) := by decide +kernel
theorem dX0_partsAhead_18 : decode cX0_partsAhead 18 = .ok (.imul, 1) := by decide +kernel
theorem dX0_partsAhead_19 : decode cX0_partsAhead 19 = .ok (.aload_n 0, 1) := by decide +kernel
theorem dX0_partsAhead_20 : decode cX0_partsAhead 20 = .ok (.getfield 15, 3) := by decide +kernel
theorem dX0_partsAhead_23 : decode cX0_partsAhead 23 = .ok (.iload_n 3, 1) := by decide +kernel
theorem dX0_partsAhead_24 : decode cX0_partsAhead 24 = .ok (.iaload, 1) := by decide +kernel
theorem dX0_partsAhead_25 : decode cX0_partsAhead 25 = .ok (.imul, 1) := by decide +kernel
theorem dX0_partsAhead_26 : decode cX0_partsAhead 26 = .ok (.iadd, 1) := by decide +kernel
theorem dX0_partsAhead_27 : decode cX0_partsAhead 27 = .ok (.istore_n 2, 1) := by decide +kernel
theorem dX0_partsAhead_28 : decode cX0_partsAhead 28 = .ok (.iinc 3 1, 3) := by decide +kernel
theorem dX0_partsAhead_31 : decode cX0_partsAhead 31 = .ok (.goto (-27), 3) := by decide +kernel
theorem dX0_partsAhead_34 : decode cX0_partsAhead 34 = .ok (.iload_n 2, 1) := by decide +kernel
theorem dX0_partsAhead_35 : decode cX0_partsAhead 35 = .ok (.ireturn, 1) := by decide +kernel
theorem dX0_wholeTurn_0 : decode cX0_wholeTurn 0 = .ok (.aload_n 0, 1) := by decide +kernel
theorem dX0_wholeTurn_1 : decode cX0_wholeTurn 1 = .ok (.aload_n 0, 1) := by decide +kernel
theorem dX0_wholeTurn_2 : decode cX0_wholeTurn 2 = .ok (.getfield 25, 3) := by decide +kernel
theorem dX0_wholeTurn_5 : decode cX0_wholeTurn 5 = .ok (.invokevirtual 33, 3) := by decide +kernel
theorem dX0_wholeTurn_8 : decode cX0_wholeTurn 8 = .ok (.ireturn, 1) := by decide +kernel
theorem dX0_wholeParts_0 : decode cX0_wholeParts 0 = .ok (.aload_n 0, 1) := by decide +kernel
theorem dX0_wholeParts_1 : decode cX0_wholeParts 1 = .ok (.aload_n 0, 1) := by decide +kernel
theorem dX0_wholeParts_2 : decode cX0_wholeParts 2 = .ok (.getfield 25, 3) := by decide +kernel
theorem dX0_wholeParts_5 : decode cX0_wholeParts 5 = .ok (.invokevirtual 37, 3) := by decide +kernel
theorem dX0_wholeParts_8 : decode cX0_wholeParts 8 = .ok (.ireturn, 1) := by decide +kernel
theorem dX0_arcAround_0 : decode cX0_arcAround 0 = .ok (.iconst 0, 1) := by decide +kernel
theorem dX0_arcAround_1 : decode cX0_arcAround 1 = .ok (.istore_n 2, 1) := by decide +kernel
theorem dX0_arcAround_2 : decode cX0_arcAround 2 = .ok (.iconst 0, 1) := by decide +kernel
theorem dX0_arcAround_3 : decode cX0_arcAround 3 = .ok (.istore_n 3, 1) := by decide +kernel
theorem dX0_arcAround_4 : decode cX0_arcAround 4 = .ok (.iload_n 3, 1) := by decide +kernel
theorem dX0_arcAround_5 : decode cX0_arcAround 5 = .ok (.aload_n 0, 1) := by decide +kernel
theorem dX0_arcAround_6 : decode cX0_arcAround 6 = .ok (.getfield 25, 3) := by decide +kernel
theorem dX0_arcAround_9 : decode cX0_arcAround 9 = .ok (.if_icmp .ge 28, 3) := by decide +kernel
theorem dX0_arcAround_12 : decode cX0_arcAround 12 = .ok (.iload_n 2, 1) := by decide +kernel
theorem dX0_arcAround_13 : decode cX0_arcAround 13 = .ok (.bipush 10, 2) := by decide +kernel
theorem dX0_arcAround_15 : decode cX0_arcAround 15 = .ok (.aload_n 0, 1) := by decide +kernel
theorem dX0_arcAround_16 : decode cX0_arcAround 16 = .ok (.getfield 15, 3) := by decide +kernel
theorem dX0_arcAround_19 : decode cX0_arcAround 19 = .ok (.iload_n 3, 1) := by decide +kernel
theorem dX0_arcAround_20 : decode cX0_arcAround 20 = .ok (.iaload, 1) := by decide +kernel
theorem dX0_arcAround_21 : decode cX0_arcAround 21 = .ok (.imul, 1) := by decide +kernel
theorem dX0_arcAround_22 : decode cX0_arcAround 22 = .ok (.iadd, 1) := by decide +kernel
theorem dX0_arcAround_23 : decode cX0_arcAround 23 = .ok (.istore_n 2, 1) := by decide +kernel
theorem dX0_arcAround_24 : decode cX0_arcAround 24 = .ok (.iload_n 2, 1) := by decide +kernel
theorem dX0_arcAround_25 : decode cX0_arcAround 25 = .ok (.iload_n 1, 1) := by decide +kernel
theorem dX0_arcAround_26 : decode cX0_arcAround 26 = .ok (.if_icmp .le 5, 3) := by decide +kernel
theorem dX0_arcAround_29 : decode cX0_arcAround 29 = .ok (.iload_n 3, 1) := by decide +kernel
theorem dX0_arcAround_30 : decode cX0_arcAround 30 = .ok (.ireturn, 1) := by decide +kernel
theorem dX0_arcAround_31 : decode cX0_arcAround 31 = .ok (.iinc 3 1, 3) := by decide +kernel
theorem dX0_arcAround_34 : decode cX0_arcAround 34 = .ok (.goto (-30), 3) := by decide +kernel
theorem dX0_arcAround_37 : decode cX0_arcAround 37 = .ok (.aload_n 0, 1) := by decide +kernel
theorem dX0_arcAround_38 : decode cX0_arcAround 38 = .ok (.getfield 25, 3) := by decide +kernel
theorem dX0_arcAround_41 : decode cX0_arcAround 41 = .ok (.ifCond .le 12, 3) := by decide +kernel
theorem dX0_arcAround_44 : decode cX0_arcAround 44 = .ok (.aload_n 0, 1) := by decide +kernel
theorem dX0_arcAround_45 : decode cX0_arcAround 45 = .ok (.getfield 25, 3) := by decide +kernel
theorem dX0_arcAround_48 : decode cX0_arcAround 48 = .ok (.iconst 1, 1) := by decide +kernel
theorem dX0_arcAround_49 : decode cX0_arcAround 49 = .ok (.isub, 1) := by decide +kernel
theorem dX0_arcAround_50 : decode cX0_arcAround 50 = .ok (.goto 4, 3) := by decide +kernel
theorem dX0_arcAround_53 : decode cX0_arcAround 53 = .ok (.iconst (-1), 1) := by decide +kernel
theorem dX0_arcAround_54 : decode cX0_arcAround 54 = .ok (.ireturn, 1) := by decide +kernel
theorem dX0_hardnessAt_0 : decode cX0_hardnessAt 0 = .ok (.aload_n 0, 1) := by decide +kernel
theorem dX0_hardnessAt_1 : decode cX0_hardnessAt 1 = .ok (.iload_n 1, 1) := by decide +kernel
theorem dX0_hardnessAt_2 : decode cX0_hardnessAt 2 = .ok (.invokevirtual 40, 3) := by decide +kernel
theorem dX0_hardnessAt_5 : decode cX0_hardnessAt 5 = .ok (.istore_n 2, 1) := by decide +kernel
theorem dX0_hardnessAt_6 : decode cX0_hardnessAt 6 = .ok (.iload_n 2, 1) := by decide +kernel
theorem dX0_hardnessAt_7 : decode cX0_hardnessAt 7 = .ok (.iconst 0, 1) := by decide +kernel
theorem dX0_hardnessAt_8 : decode cX0_hardnessAt 8 = .ok (.aload_n 0, 1) := by decide +kernel
theorem dX0_hardnessAt_9 : decode cX0_hardnessAt 9 = .ok (.getfield 25, 3) := by decide +kernel
theorem dX0_hardnessAt_12 : decode cX0_hardnessAt 12 = .ok (.iconst 1, 1) := by decide +kernel
theorem dX0_hardnessAt_13 : decode cX0_hardnessAt 13 = .ok (.isub, 1) := by decide +kernel
theorem dX0_hardnessAt_14 : decode cX0_hardnessAt 14 = .ok (.invokestatic 43, 3) := by decide +kernel
theorem dX0_hardnessAt_17 : decode cX0_hardnessAt 17 = .ok (.ifCond .eq 12, 3) := by decide +kernel
theorem dX0_hardnessAt_20 : decode cX0_hardnessAt 20 = .ok (.aload_n 0, 1) := by decide +kernel
theorem dX0_hardnessAt_21 : decode cX0_hardnessAt 21 = .ok (.getfield 18, 3) := by decide +kernel
theorem dX0_hardnessAt_24 : decode cX0_hardnessAt 24 = .ok (.iload_n 2, 1) := by decide +kernel
theorem dX0_hardnessAt_25 : decode cX0_hardnessAt 25 = .ok (.iaload, 1) := by decide +kernel
theorem dX0_hardnessAt_26 : decode cX0_hardnessAt 26 = .ok (.goto 4, 3) := by decide +kernel
theorem dX0_hardnessAt_29 : decode cX0_hardnessAt 29 = .ok (.iconst 0, 1) := by decide +kernel
theorem dX0_hardnessAt_30 : decode cX0_hardnessAt 30 = .ok (.ireturn, 1) := by decide +kernel
theorem dX0_partsTo_0 : decode cX0_partsTo 0 = .ok (.iconst 0, 1) := by decide +kernel
theorem dX0_partsTo_1 : decode cX0_partsTo 1 = .ok (.istore_n 2, 1) := by decide +kernel
theorem dX0_partsTo_2 : decode cX0_partsTo 2 = .ok (.iload_n 1, 1) := by decide +kernel
theorem dX0_partsTo_3 : decode cX0_partsTo 3 = .ok (.istore_n 3, 1) := by decide +kernel
theorem dX0_partsTo_4 : decode cX0_partsTo 4 = .ok (.iconst 0, 1) := by decide +kernel
theorem dX0_partsTo_5 : decode cX0_partsTo 5 = .ok (.istore 4, 2) := by decide +kernel
theorem dX0_partsTo_7 : decode cX0_partsTo 7 = .ok (.iload 4, 2) := by decide +kernel
theorem dX0_partsTo_9 : decode cX0_partsTo 9 = .ok (.aload_n 0, 1) := by decide +kernel
theorem dX0_partsTo_10 : decode cX0_partsTo 10 = .ok (.getfield 25, 3) := by decide +kernel
theorem dX0_partsTo_13 : decode cX0_partsTo 13 = .ok (.if_icmp .ge 39, 3) := by decide +kernel
theorem dX0_partsTo_16 : decode cX0_partsTo 16 = .ok (.iload_n 3, 1) := by decide +kernel
theorem dX0_partsTo_17 : decode cX0_partsTo 17 = .ok (.aload_n 0, 1) := by decide +kernel
theorem dX0_partsTo_18 : decode cX0_partsTo 18 = .ok (.iload 4, 2) := by decide +kernel
theorem dX0_partsTo_20 : decode cX0_partsTo 20 = .ok (.invokevirtual 47, 3) := by decide +kernel
theorem dX0_partsTo_23 : decode cX0_partsTo 23 = .ok (.invokestatic 50, 3) := by decide +kernel
theorem dX0_partsTo_26 : decode cX0_partsTo 26 = .ok (.istore 5, 2) := by decide +kernel
theorem dX0_partsTo_28 : decode cX0_partsTo 28 = .ok (.iload_n 2, 1) := by decide +kernel
theorem dX0_partsTo_29 : decode cX0_partsTo 29 = .ok (.aload_n 0, 1) := by decide +kernel
theorem dX0_partsTo_30 : decode cX0_partsTo 30 = .ok (.getfield 9, 3) := by decide +kernel
theorem dX0_partsTo_33 : decode cX0_partsTo 33 = .ok (.iload 4, 2) := by decide +kernel
theorem dX0_partsTo_35 : decode cX0_partsTo 35 = .ok (.iaload, 1) := by decide +kernel
theorem dX0_partsTo_36 : decode cX0_partsTo 36 = .ok (.iload 5, 2) := by decide +kernel
theorem dX0_partsTo_38 : decode cX0_partsTo 38 = .ok (.imul, 1) := by decide +kernel
theorem dX0_partsTo_39 : decode cX0_partsTo 39 = .ok (.iadd, 1) := by decide +kernel
theorem dX0_partsTo_40 : decode cX0_partsTo 40 = .ok (.istore_n 2, 1) := by decide +kernel
theorem dX0_partsTo_41 : decode cX0_partsTo 41 = .ok (.iload_n 3, 1) := by decide +kernel
theorem dX0_partsTo_42 : decode cX0_partsTo 42 = .ok (.iload 5, 2) := by decide +kernel
theorem dX0_partsTo_44 : decode cX0_partsTo 44 = .ok (.isub, 1) := by decide +kernel
theorem dX0_partsTo_45 : decode cX0_partsTo 45 = .ok (.istore_n 3, 1) := by decide +kernel
theorem dX0_partsTo_46 : decode cX0_partsTo 46 = .ok (.iinc 4 1, 3) := by decide +kernel
theorem dX0_partsTo_49 : decode cX0_partsTo 49 = .ok (.goto (-42), 3) := by decide +kernel
theorem dX0_partsTo_52 : decode cX0_partsTo 52 = .ok (.iload_n 2, 1) := by decide +kernel
theorem dX0_partsTo_53 : decode cX0_partsTo 53 = .ok (.ireturn, 1) := by decide +kernel
theorem dX0_headingTo_0 : decode cX0_headingTo 0 = .ok (.iconst 0, 1) := by decide +kernel
theorem dX0_headingTo_1 : decode cX0_headingTo 1 = .ok (.istore_n 2, 1) := by decide +kernel
theorem dX0_headingTo_2 : decode cX0_headingTo 2 = .ok (.iload_n 1, 1) := by decide +kernel
theorem dX0_headingTo_3 : decode cX0_headingTo 3 = .ok (.istore_n 3, 1) := by decide +kernel
theorem dX0_headingTo_4 : decode cX0_headingTo 4 = .ok (.iconst 0, 1) := by decide +kernel
theorem dX0_headingTo_5 : decode cX0_headingTo 5 = .ok (.istore 4, 2) := by decide +kernel
theorem dX0_headingTo_7 : decode cX0_headingTo 7 = .ok (.iload 4, 2) := by decide +kernel
theorem dX0_headingTo_9 : decode cX0_headingTo 9 = .ok (.aload_n 0, 1) := by decide +kernel
theorem dX0_headingTo_10 : decode cX0_headingTo 10 = .ok (.getfield 25, 3) := by decide +kernel
theorem dX0_headingTo_13 : decode cX0_headingTo 13 = .ok (.if_icmp .ge 47, 3) := by decide +kernel
theorem dX0_headingTo_16 : decode cX0_headingTo 16 = .ok (.iload_n 3, 1) := by decide +kernel
theorem dX0_headingTo_17 : decode cX0_headingTo 17 = .ok (.aload_n 0, 1) := by decide +kernel
theorem dX0_headingTo_18 : decode cX0_headingTo 18 = .ok (.iload 4, 2) := by decide +kernel
theorem dX0_headingTo_20 : decode cX0_headingTo 20 = .ok (.invokevirtual 47, 3) := by decide +kernel
theorem dX0_headingTo_23 : decode cX0_headingTo 23 = .ok (.invokestatic 50, 3) := by decide +kernel
theorem dX0_headingTo_26 : decode cX0_headingTo 26 = .ok (.istore 5, 2) := by decide +kernel
theorem dX0_headingTo_28 : decode cX0_headingTo 28 = .ok (.iload_n 2, 1) := by decide +kernel
theorem dX0_headingTo_29 : decode cX0_headingTo 29 = .ok (.aload_n 0, 1) := by decide +kernel
theorem dX0_headingTo_30 : decode cX0_headingTo 30 = .ok (.getfield 21, 3) := by decide +kernel
theorem dX0_headingTo_33 : decode cX0_headingTo 33 = .ok (.iload 4, 2) := by decide +kernel
theorem dX0_headingTo_35 : decode cX0_headingTo 35 = .ok (.baload, 1) := by decide +kernel
theorem dX0_headingTo_36 : decode cX0_headingTo 36 = .ok (.ifCond .eq 9, 3) := by decide +kernel
theorem dX0_headingTo_39 : decode cX0_headingTo 39 = .ok (.iload 5, 2) := by decide +kernel
theorem dX0_headingTo_41 : decode cX0_headingTo 41 = .ok (.ineg, 1) := by decide +kernel
theorem dX0_headingTo_42 : decode cX0_headingTo 42 = .ok (.goto 5, 3) := by decide +kernel
theorem dX0_headingTo_45 : decode cX0_headingTo 45 = .ok (.iload 5, 2) := by decide +kernel
theorem dX0_headingTo_47 : decode cX0_headingTo 47 = .ok (.iadd, 1) := by decide +kernel
theorem dX0_headingTo_48 : decode cX0_headingTo 48 = .ok (.istore_n 2, 1) := by decide +kernel
theorem dX0_headingTo_49 : decode cX0_headingTo 49 = .ok (.iload_n 3, 1) := by decide +kernel
theorem dX0_headingTo_50 : decode cX0_headingTo 50 = .ok (.iload 5, 2) := by decide +kernel
theorem dX0_headingTo_52 : decode cX0_headingTo 52 = .ok (.isub, 1) := by decide +kernel
theorem dX0_headingTo_53 : decode cX0_headingTo 53 = .ok (.istore_n 3, 1) := by decide +kernel
theorem dX0_headingTo_54 : decode cX0_headingTo 54 = .ok (.iinc 4 1, 3) := by decide +kernel
theorem dX0_headingTo_57 : decode cX0_headingTo 57 = .ok (.goto (-50), 3) := by decide +kernel
theorem dX0_headingTo_60 : decode cX0_headingTo 60 = .ok (.iload_n 2, 1) := by decide +kernel
theorem dX0_headingTo_61 : decode cX0_headingTo 61 = .ok (.sipush 3600, 3) := by decide +kernel
theorem dX0_headingTo_64 : decode cX0_headingTo 64 = .ok (.invokestatic 56, 3) := by decide +kernel
theorem dX0_headingTo_67 : decode cX0_headingTo 67 = .ok (.ireturn, 1) := by decide +kernel
theorem dX1_init_0 : decode cX1_init 0 = .ok (.aload_n 0, 1) := by decide +kernel
theorem dX1_init_1 : decode cX1_init 1 = .ok (.invokespecial 3, 3) := by decide +kernel
theorem dX1_init_4 : decode cX1_init 4 = .ok (.aload_n 0, 1) := by decide +kernel
theorem dX1_init_5 : decode cX1_init 5 = .ok (.bipush 50, 2) := by decide +kernel
theorem dX1_init_7 : decode cX1_init 7 = .ok (.putfield 11, 3) := by decide +kernel
theorem dX1_init_10 : decode cX1_init 10 = .ok (.aload_n 0, 1) := by decide +kernel
theorem dX1_init_11 : decode cX1_init 11 = .ok (.iconst 1, 1) := by decide +kernel
theorem dX1_init_12 : decode cX1_init 12 = .ok (.putfield 15, 3) := by decide +kernel
theorem dX1_init_15 : decode cX1_init 15 = .ok (.return_, 1) := by decide +kernel
theorem dX1_clear_0 : decode cX1_clear 0 = .ok (.aload_n 0, 1) := by decide +kernel
theorem dX1_clear_1 : decode cX1_clear 1 = .ok (.bipush 50, 2) := by decide +kernel
theorem dX1_clear_3 : decode cX1_clear 3 = .ok (.putfield 11, 3) := by decide +kernel
theorem dX1_clear_6 : decode cX1_clear 6 = .ok (.aload_n 0, 1) := by decide +kernel
theorem dX1_clear_7 : decode cX1_clear 7 = .ok (.iconst 1, 1) := by decide +kernel
theorem dX1_clear_8 : decode cX1_clear 8 = .ok (.putfield 15, 3) := by decide +kernel
theorem dX1_clear_11 : decode cX1_clear 11 = .ok (.aload_n 0, 1) := by decide +kernel
theorem dX1_clear_12 : decode cX1_clear 12 = .ok (.iconst 0, 1) := by decide +kernel
theorem dX1_clear_13 : decode cX1_clear 13 = .ok (.putfield 18, 3) := by decide +kernel
theorem dX1_clear_16 : decode cX1_clear 16 = .ok (.aload_n 0, 1) := by decide +kernel
theorem dX1_clear_17 : decode cX1_clear 17 = .ok (.iconst 0, 1) := by decide +kernel
theorem dX1_clear_18 : decode cX1_clear 18 = .ok (.putfield 21, 3) := by decide +kernel
theorem dX1_clear_21 : decode cX1_clear 21 = .ok (.return_, 1) := by decide +kernel
theorem dX1_copyFrom_0 : decode cX1_copyFrom 0 = .ok (.aload_n 0, 1) := by decide +kernel
theorem dX1_copyFrom_1 : decode cX1_copyFrom 1 = .ok (.aload_n 1, 1) := by decide +kernel
theorem dX1_copyFrom_2 : decode cX1_copyFrom 2 = .ok (.getfield 11, 3) := by decide +kernel
theorem dX1_copyFrom_5 : decode cX1_copyFrom 5 = .ok (.putfield 11, 3) := by decide +kernel
theorem dX1_copyFrom_8 : decode cX1_copyFrom 8 = .ok (.aload_n 0, 1) := by decide +kernel
theorem dX1_copyFrom_9 : decode cX1_copyFrom 9 = .ok (.aload_n 1, 1) := by decide +kernel
theorem dX1_copyFrom_10 : decode cX1_copyFrom 10 = .ok (.getfield 15, 3) := by decide +kernel
theorem dX1_copyFrom_13 : decode cX1_copyFrom 13 = .ok (.putfield 15, 3) := by decide +kernel
theorem dX1_copyFrom_16 : decode cX1_copyFrom 16 = .ok (.aload_n 0, 1) := by decide +kernel
theorem dX1_copyFrom_17 : decode cX1_copyFrom 17 = .ok (.aload_n 1, 1) := by decide +kernel
theorem dX1_copyFrom_18 : decode cX1_copyFrom 18 = .ok (.getfield 18, 3) := by decide +kernel
theorem dX1_copyFrom_21 : decode cX1_copyFrom 21 = .ok (.putfield 18, 3) := by decide +kernel
theorem dX1_copyFrom_24 : decode cX1_copyFrom 24 = .ok (.aload_n 0, 1) := by decide +kernel
theorem dX1_copyFrom_25 : decode cX1_copyFrom 25 = .ok (.aload_n 1, 1) := by decide +kernel
theorem dX1_copyFrom_26 : decode cX1_copyFrom 26 = .ok (.getfield 21, 3) := by decide +kernel
theorem dX1_copyFrom_29 : decode cX1_copyFrom 29 = .ok (.putfield 21, 3) := by decide +kernel
theorem dX1_copyFrom_32 : decode cX1_copyFrom 32 = .ok (.return_, 1) := by decide +kernel
theorem dX1_canSharpenBy_0 : decode cX1_canSharpenBy 0 = .ok (.iload_n 0, 1) := by decide +kernel
theorem dX1_canSharpenBy_1 : decode cX1_canSharpenBy 1 = .ok (.iconst 1, 1) := by decide +kernel
theorem dX1_canSharpenBy_2 : decode cX1_canSharpenBy 2 = .ok (.bipush 99, 2) := by decide +kernel
theorem dX1_canSharpenBy_4 : decode cX1_canSharpenBy 4 = .ok (.invokestatic 24, 3) := by decide +kernel
theorem dX1_canSharpenBy_7 : decode cX1_canSharpenBy 7 = .ok (.ireturn, 1) := by decide +kernel
theorem dX1_sharpenBy_0 : decode cX1_sharpenBy 0 = .ok (.aload_n 0, 1) := by decide +kernel
theorem dX1_sharpenBy_1 : decode cX1_sharpenBy 1 = .ok (.bipush 99, 2) := by decide +kernel
theorem dX1_sharpenBy_3 : decode cX1_sharpenBy 3 = .ok (.aload_n 0, 1) := by decide +kernel
theorem dX1_sharpenBy_4 : decode cX1_sharpenBy 4 = .ok (.getfield 11, 3) := by decide +kernel
theorem dX1_sharpenBy_7 : decode cX1_sharpenBy 7 = .ok (.iload_n 1, 1) := by decide +kernel
theorem dX1_sharpenBy_8 : decode cX1_sharpenBy 8 = .ok (.iadd, 1) := by decide +kernel
theorem dX1_sharpenBy_9 : decode cX1_sharpenBy 9 = .ok (.invokestatic 28, 3) := by decide +kernel
theorem dX1_sharpenBy_12 : decode cX1_sharpenBy 12 = .ok (.putfield 11, 3) := by decide +kernel
theorem dX1_sharpenBy_15 : decode cX1_sharpenBy 15 = .ok (.aload_n 0, 1) := by decide +kernel
theorem dX1_sharpenBy_16 : decode cX1_sharpenBy 16 = .ok (.getfield 11, 3) := by decide +kernel
theorem dX1_sharpenBy_19 : decode cX1_sharpenBy 19 = .ok (.ireturn, 1) := by decide +kernel
theorem dX1_reachOfStroke_0 : decode cX1_reachOfStroke 0 = .ok (.iconst 0, 1) := by decide +kernel
theorem dX1_reachOfStroke_1 : decode cX1_reachOfStroke 1 = .ok (.istore_n 2, 1) := by decide +kernel
theorem dX1_reachOfStroke_2 : decode cX1_reachOfStroke 2 = .ok (.aload_n 0, 1) := by decide +kernel
theorem dX1_reachOfStroke_3 : decode cX1_reachOfStroke 3 = .ok (.getfield 11, 3) := by decide +kernel
theorem dX1_reachOfStroke_6 : decode cX1_reachOfStroke 6 = .ok (.iload_n 1, 1) := by decide +kernel
theorem dX1_reachOfStroke_7 : decode cX1_reachOfStroke 7 = .ok (.if_icmp .ge 44, 3) := by decide +kernel
theorem dX1_reachOfStroke_10 : decode cX1_reachOfStroke 10 = .ok (.aload_n 0, 1) := by decide +kernel
theorem dX1_reachOfStroke_11 : decode cX1_reachOfStroke 11 = .ok (.invokevirtual 34, 3) := by decide +kernel
theorem dX1_reachOfStroke_14 : decode cX1_reachOfStroke 14 = .ok (.bipush 100, 2) := by decide +kernel
theorem dX1_reachOfStroke_16 : decode cX1_reachOfStroke 16 = .ok (.irem, 1) := by decide +kernel
theorem dX1_reachOfStroke_17 : decode cX1_reachOfStroke 17 = .ok (.iconst 2, 1) := by decide +kernel
theorem dX1_reachOfStroke_18 : decode cX1_reachOfStroke 18 = .ok (.iload_n 1, 1) := by decide +kernel
theorem dX1_reachOfStroke_19 : decode cX1_reachOfStroke 19 = .ok (.aload_n 0, 1) := by decide +kernel
theorem dX1_reachOfStroke_20 : decode cX1_reachOfStroke 20 = .ok (.getfield 11, 3) := by decide +kernel
theorem dX1_reachOfStroke_23 : decode cX1_reachOfStroke 23 = .ok (.isub, 1) := by decide +kernel
theorem dX1_reachOfStroke_24 : decode cX1_reachOfStroke 24 = .ok (.imul, 1) := by decide +kernel
theorem dX1_reachOfStroke_25 : decode cX1_reachOfStroke 25 = .ok (.if_icmp .ge 26, 3) := by decide +kernel
theorem dX1_reachOfStroke_28 : decode cX1_reachOfStroke 28 = .ok (.bipush 100, 2) := by decide +kernel
theorem dX1_reachOfStroke_30 : decode cX1_reachOfStroke 30 = .ok (.iconst 1, 1) := by decide +kernel
theorem dX1_reachOfStroke_31 : decode cX1_reachOfStroke 31 = .ok (.aload_n 0, 1) := by decide +kernel
theorem dX1_reachOfStroke_32 : decode cX1_reachOfStroke 32 = .ok (.invokevirtual 34, 3) := by decide +kernel
theorem dX1_reachOfStroke_35 : decode cX1_reachOfStroke 35 = .ok (.bipush 20, 2) := by decide +kernel
theorem dX1_reachOfStroke_37 : decode cX1_reachOfStroke 37 = .ok (.irem, 1) := by decide +kernel
theorem dX1_reachOfStroke_38 : decode cX1_reachOfStroke 38 = .ok (.iadd, 1) := by decide +kernel
theorem dX1_reachOfStroke_39 : decode cX1_reachOfStroke 39 = .ok (.imul, 1) := by decide +kernel
theorem dX1_reachOfStroke_40 : decode cX1_reachOfStroke 40 = .ok (.istore_n 2, 1) := by decide +kernel
theorem dX1_reachOfStroke_41 : decode cX1_reachOfStroke 41 = .ok (.aload_n 0, 1) := by decide +kernel
theorem dX1_reachOfStroke_42 : decode cX1_reachOfStroke 42 = .ok (.dup, 1) := by decide +kernel
theorem dX1_reachOfStroke_43 : decode cX1_reachOfStroke 43 = .ok (.getfield 18, 3) := by decide +kernel
theorem dX1_reachOfStroke_46 : decode cX1_reachOfStroke 46 = .ok (.iconst 1, 1) := by decide +kernel
theorem dX1_reachOfStroke_47 : decode cX1_reachOfStroke 47 = .ok (.iadd, 1) := by decide +kernel
theorem dX1_reachOfStroke_48 : decode cX1_reachOfStroke 48 = .ok (.putfield 18, 3) := by decide +kernel
theorem dX1_reachOfStroke_51 : decode cX1_reachOfStroke 51 = .ok (.aload_n 0, 1) := by decide +kernel
theorem dX1_reachOfStroke_52 : decode cX1_reachOfStroke 52 = .ok (.iconst 0, 1) := by decide +kernel
theorem dX1_reachOfStroke_53 : decode cX1_reachOfStroke 53 = .ok (.aload_n 0, 1) := by decide +kernel
theorem dX1_reachOfStroke_54 : decode cX1_reachOfStroke 54 = .ok (.getfield 11, 3) := by decide +kernel
theorem dX1_reachOfStroke_57 : decode cX1_reachOfStroke 57 = .ok (.iconst 1, 1) := by decide +kernel
theorem dX1_reachOfStroke_58 : decode cX1_reachOfStroke 58 = .ok (.isub, 1) := by decide +kernel
theorem dX1_reachOfStroke_59 : decode cX1_reachOfStroke 59 = .ok (.invokestatic 38, 3) := by decide +kernel
theorem dX1_reachOfStroke_62 : decode cX1_reachOfStroke 62 = .ok (.putfield 11, 3) := by decide +kernel
theorem dX1_reachOfStroke_65 : decode cX1_reachOfStroke 65 = .ok (.aload_n 0, 1) := by decide +kernel
theorem dX1_reachOfStroke_66 : decode cX1_reachOfStroke 66 = .ok (.dup, 1) := by decide +kernel
theorem dX1_reachOfStroke_67 : decode cX1_reachOfStroke 67 = .ok (.getfield 21, 3) := by decide +kernel
theorem dX1_reachOfStroke_70 : decode cX1_reachOfStroke 70 = .ok (.iconst 1, 1) := by decide +kernel
theorem dX1_reachOfStroke_71 : decode cX1_reachOfStroke 71 = .ok (.iadd, 1) := by decide +kernel
theorem dX1_reachOfStroke_72 : decode cX1_reachOfStroke 72 = .ok (.putfield 21, 3) := by decide +kernel
theorem dX1_reachOfStroke_75 : decode cX1_reachOfStroke 75 = .ok (.iload_n 2, 1) := by decide +kernel
theorem dX1_reachOfStroke_76 : decode cX1_reachOfStroke 76 = .ok (.ireturn, 1) := by decide +kernel
theorem dX1_nextBits_0 : decode cX1_nextBits 0 = .ok (.aload_n 0, 1) := by decide +kernel
theorem dX1_nextBits_1 : decode cX1_nextBits 1 = .ok (.aload_n 0, 1) := by decide +kernel
theorem dX1_nextBits_2 : decode cX1_nextBits 2 = .ok (.getfield 15, 3) := by decide +kernel
theorem dX1_nextBits_5 : decode cX1_nextBits 5 = .ok (.ldc 41, 2) := by decide +kernel
theorem dX1_nextBits_7 : decode cX1_nextBits 7 = .ok (.imul, 1) := by decide +kernel
theorem dX1_nextBits_8 : decode cX1_nextBits 8 = .ok (.sipush 12345, 3) := by decide +kernel
theorem dX1_nextBits_11 : decode cX1_nextBits 11 = .ok (.iadd, 1) := by decide +kernel
theorem dX1_nextBits_12 : decode cX1_nextBits 12 = .ok (.putfield 15, 3) := by decide +kernel
theorem dX1_nextBits_15 : decode cX1_nextBits 15 = .ok (.aload_n 0, 1) := by decide +kernel
theorem dX1_nextBits_16 : decode cX1_nextBits 16 = .ok (.getfield 15, 3) := by decide +kernel
theorem dX1_nextBits_19 : decode cX1_nextBits 19 = .ok (.bipush 16, 2) := by decide +kernel
theorem dX1_nextBits_21 : decode cX1_nextBits 21 = .ok (.iushr, 1) := by decide +kernel
theorem dX1_nextBits_22 : decode cX1_nextBits 22 = .ok (.ireturn, 1) := by decide +kernel
theorem dX2_init_0 : decode cX2_init 0 = .ok (.aload_n 0, 1) := by decide +kernel
theorem dX2_init_1 : decode cX2_init 1 = .ok (.invokespecial 3, 3) := by decide +kernel
theorem dX2_init_4 : decode cX2_init 4 = .ok (.aload_n 0, 1) := by decide +kernel
theorem dX2_init_5 : decode cX2_init 5 = .ok (.bipush 48, 2) := by decide +kernel
theorem dX2_init_7 : decode cX2_init 7 = .ok (.newarray .int, 2) := by decide +kernel
theorem dX2_init_9 : decode cX2_init 9 = .ok (.putfield 9, 3) := by decide +kernel
theorem dX2_init_12 : decode cX2_init 12 = .ok (.aload_n 0, 1) := by decide +kernel
theorem dX2_init_13 : decode cX2_init 13 = .ok (.bipush 6, 2) := by decide +kernel
theorem dX2_init_15 : decode cX2_init 15 = .ok (.newarray .int, 2) := by decide +kernel
theorem dX2_init_17 : decode cX2_init 17 = .ok (.putfield 15, 3) := by decide +kernel
theorem dX2_init_20 : decode cX2_init 20 = .ok (.aload_n 0, 1) := by decide +kernel
theorem dX2_init_21 : decode cX2_init 21 = .ok (.bipush 6, 2) := by decide +kernel
theorem dX2_init_23 : decode cX2_init 23 = .ok (.newarray .int, 2) := by decide +kernel
theorem dX2_init_25 : decode cX2_init 25 = .ok (.putfield 18, 3) := by decide +kernel
theorem dX2_init_28 : decode cX2_init 28 = .ok (.aload_n 0, 1) := by decide +kernel
theorem dX2_init_29 : decode cX2_init 29 = .ok (.bipush 6, 2) := by decide +kernel
theorem dX2_init_31 : decode cX2_init 31 = .ok (.newarray .int, 2) := by decide +kernel
theorem dX2_init_33 : decode cX2_init 33 = .ok (.putfield 21, 3) := by decide +kernel
theorem dX2_init_36 : decode cX2_init 36 = .ok (.return_, 1) := by decide +kernel
theorem dX2_copyFrom_0 : decode cX2_copyFrom 0 = .ok (.aload_n 0, 1) := by decide +kernel
theorem dX2_copyFrom_1 : decode cX2_copyFrom 1 = .ok (.aload_n 1, 1) := by decide +kernel
theorem dX2_copyFrom_2 : decode cX2_copyFrom 2 = .ok (.getfield 24, 3) := by decide +kernel
theorem dX2_copyFrom_5 : decode cX2_copyFrom 5 = .ok (.putfield 24, 3) := by decide +kernel
theorem dX2_copyFrom_8 : decode cX2_copyFrom 8 = .ok (.iconst 0, 1) := by decide +kernel
theorem dX2_copyFrom_9 : decode cX2_copyFrom 9 = .ok (.istore_n 2, 1) := by decide +kernel
theorem dX2_copyFrom_10 : decode cX2_copyFrom 10 = .ok (.iload_n 2, 1) := by decide +kernel
theorem dX2_copyFrom_11 : decode cX2_copyFrom 11 = .ok (.aload_n 0, 1) := by decide +kernel
theorem dX2_copyFrom_12 : decode cX2_copyFrom 12 = .ok (.getfield 24, 3) := by decide +kernel
theorem dX2_copyFrom_15 : decode cX2_copyFrom 15 = .ok (.if_icmp .ge 45, 3) := by decide +kernel
theorem dX2_copyFrom_18 : decode cX2_copyFrom 18 = .ok (.aload_n 0, 1) := by decide +kernel
theorem dX2_copyFrom_19 : decode cX2_copyFrom 19 = .ok (.getfield 15, 3) := by decide +kernel
theorem dX2_copyFrom_22 : decode cX2_copyFrom 22 = .ok (.iload_n 2, 1) := by decide +kernel
theorem dX2_copyFrom_23 : decode cX2_copyFrom 23 = .ok (.aload_n 1, 1) := by decide +kernel
theorem dX2_copyFrom_24 : decode cX2_copyFrom 24 = .ok (.getfield 15, 3) := by decide +kernel
theorem dX2_copyFrom_27 : decode cX2_copyFrom 27 = .ok (.iload_n 2, 1) := by decide +kernel
theorem dX2_copyFrom_28 : decode cX2_copyFrom 28 = .ok (.iaload, 1) := by decide +kernel
theorem dX2_copyFrom_29 : decode cX2_copyFrom 29 = .ok (.iastore, 1) := by decide +kernel
theorem dX2_copyFrom_30 : decode cX2_copyFrom 30 = .ok (.aload_n 0, 1) := by decide +kernel
theorem dX2_copyFrom_31 : decode cX2_copyFrom 31 = .ok (.getfield 18, 3) := by decide +kernel
theorem dX2_copyFrom_34 : decode cX2_copyFrom 34 = .ok (.iload_n 2, 1) := by decide +kernel
theorem dX2_copyFrom_35 : decode cX2_copyFrom 35 = .ok (.aload_n 1, 1) := by decide +kernel
theorem dX2_copyFrom_36 : decode cX2_copyFrom 36 = .ok (.getfield 18, 3) := by decide +kernel
theorem dX2_copyFrom_39 : decode cX2_copyFrom 39 = .ok (.iload_n 2, 1) := by decide +kernel
theorem dX2_copyFrom_40 : decode cX2_copyFrom 40 = .ok (.iaload, 1) := by decide +kernel
theorem dX2_copyFrom_41 : decode cX2_copyFrom 41 = .ok (.iastore, 1) := by decide +kernel
theorem dX2_copyFrom_42 : decode cX2_copyFrom 42 = .ok (.aload_n 0, 1) := by decide +kernel
theorem dX2_copyFrom_43 : decode cX2_copyFrom 43 = .ok (.getfield 21, 3) := by decide +kernel
theorem dX2_copyFrom_46 : decode cX2_copyFrom 46 = .ok (.iload_n 2, 1) := by decide +kernel
theorem dX2_copyFrom_47 : decode cX2_copyFrom 47 = .ok (.aload_n 1, 1) := by decide +kernel
theorem dX2_copyFrom_48 : decode cX2_copyFrom 48 = .ok (.getfield 21, 3) := by decide +kernel
theorem dX2_copyFrom_51 : decode cX2_copyFrom 51 = .ok (.iload_n 2, 1) := by decide +kernel
theorem dX2_copyFrom_52 : decode cX2_copyFrom 52 = .ok (.iaload, 1) := by decide +kernel
theorem dX2_copyFrom_53 : decode cX2_copyFrom 53 = .ok (.iastore, 1) := by decide +kernel
theorem dX2_copyFrom_54 : decode cX2_copyFrom 54 = .ok (.iinc 2 1, 3) := by decide +kernel
theorem dX2_copyFrom_57 : decode cX2_copyFrom 57 = .ok (.goto (-47), 3) := by decide +kernel
theorem dX2_copyFrom_60 : decode cX2_copyFrom 60 = .ok (.iconst 0, 1) := by decide +kernel
theorem dX2_copyFrom_61 : decode cX2_copyFrom 61 = .ok (.istore_n 2, 1) := by decide +kernel
theorem dX2_copyFrom_62 : decode cX2_copyFrom 62 = .ok (.iload_n 2, 1) := by decide +kernel
theorem dX2_copyFrom_63 : decode cX2_copyFrom 63 = .ok (.aload_n 0, 1) := by decide +kernel
theorem dX2_copyFrom_64 : decode cX2_copyFrom 64 = .ok (.getfield 24, 3) := by decide +kernel
theorem dX2_copyFrom_67 : decode cX2_copyFrom 67 = .ok (.bipush 8, 2) := by decide +kernel
theorem dX2_copyFrom_69 : decode cX2_copyFrom 69 = .ok (.imul, 1) := by decide +kernel
theorem dX2_copyFrom_70 : decode cX2_copyFrom 70 = .ok (.if_icmp .ge 21, 3) := by decide +kernel
theorem dX2_copyFrom_73 : decode cX2_copyFrom 73 = .ok (.aload_n 0, 1) := by decide +kernel
theorem dX2_copyFrom_74 : decode cX2_copyFrom 74 = .ok (.getfield 9, 3) := by decide +kernel
theorem dX2_copyFrom_77 : decode cX2_copyFrom 77 = .ok (.iload_n 2, 1) := by decide +kernel
theorem dX2_copyFrom_78 : decode cX2_copyFrom 78 = .ok (.aload_n 1, 1) := by decide +kernel
theorem dX2_copyFrom_79 : decode cX2_copyFrom 79 = .ok (.getfield 9, 3) := by decide +kernel
theorem dX2_copyFrom_82 : decode cX2_copyFrom 82 = .ok (.iload_n 2, 1) := by decide +kernel
theorem dX2_copyFrom_83 : decode cX2_copyFrom 83 = .ok (.iaload, 1) := by decide +kernel
theorem dX2_copyFrom_84 : decode cX2_copyFrom 84 = .ok (.iastore, 1) := by decide +kernel
theorem dX2_copyFrom_85 : decode cX2_copyFrom 85 = .ok (.iinc 2 1, 3) := by decide +kernel
theorem dX2_copyFrom_88 : decode cX2_copyFrom 88 = .ok (.goto (-26), 3) := by decide +kernel
theorem dX2_copyFrom_91 : decode cX2_copyFrom 91 = .ok (.return_, 1) := by decide +kernel
theorem dX2_nameByte_0 : decode cX2_nameByte 0 = .ok (.iload_n 2, 1) := by decide +kernel
theorem dX2_nameByte_1 : decode cX2_nameByte 1 = .ok (.iconst 0, 1) := by decide +kernel
theorem dX2_nameByte_2 : decode cX2_nameByte 2 = .ok (.bipush 7, 2) := by decide +kernel
theorem dX2_nameByte_4 : decode cX2_nameByte 4 = .ok (.invokestatic 28, 3) := by decide +kernel
theorem dX2_nameByte_7 : decode cX2_nameByte 7 = .ok (.ifCond .eq 17, 3) := by decide +kernel
theorem dX2_nameByte_10 : decode cX2_nameByte 10 = .ok (.aload_n 0, 1) := by decide +kernel
theorem dX2_nameByte_11 : decode cX2_nameByte 11 = .ok (.getfield 9, 3) := by decide +kernel
theorem dX2_nameByte_14 : decode cX2_nameByte 14 = .ok (.iload_n 1, 1) := by decide +kernel
theorem dX2_nameByte_15 : decode cX2_nameByte 15 = .ok (.bipush 8, 2) := by decide +kernel
theorem dX2_nameByte_17 : decode cX2_nameByte 17 = .ok (.imul, 1) := by decide +kernel
theorem dX2_nameByte_18 : decode cX2_nameByte 18 = .ok (.iload_n 2, 1) := by decide +kernel
theorem dX2_nameByte_19 : decode cX2_nameByte 19 = .ok (.iadd, 1) := by decide +kernel
theorem dX2_nameByte_20 : decode cX2_nameByte 20 = .ok (.iaload, 1) := by decide +kernel
theorem dX2_nameByte_21 : decode cX2_nameByte 21 = .ok (.goto 4, 3) := by decide +kernel
theorem dX2_nameByte_24 : decode cX2_nameByte 24 = .ok (.iconst 0, 1) := by decide +kernel
theorem dX2_nameByte_25 : decode cX2_nameByte 25 = .ok (.ireturn, 1) := by decide +kernel
theorem dX2_beginKind_0 : decode cX2_beginKind 0 = .ok (.iconst 0, 1) := by decide +kernel
theorem dX2_beginKind_1 : decode cX2_beginKind 1 = .ok (.istore_n 2, 1) := by decide +kernel
theorem dX2_beginKind_2 : decode cX2_beginKind 2 = .ok (.iload_n 2, 1) := by decide +kernel
theorem dX2_beginKind_3 : decode cX2_beginKind 3 = .ok (.bipush 8, 2) := by decide +kernel
theorem dX2_beginKind_5 : decode cX2_beginKind 5 = .ok (.if_icmp .ge 56, 3) := by decide +kernel
theorem dX2_beginKind_8 : decode cX2_beginKind 8 = .ok (.aload_n 0, 1) := by decide +kernel
theorem dX2_beginKind_9 : decode cX2_beginKind 9 = .ok (.getfield 24, 3) := by decide +kernel
theorem dX2_beginKind_12 : decode cX2_beginKind 12 = .ok (.bipush 6, 2) := by decide +kernel
theorem dX2_beginKind_14 : decode cX2_beginKind 14 = .ok (.if_icmp .ge 47, 3) := by decide +kernel
theorem dX2_beginKind_17 : decode cX2_beginKind 17 = .ok (.aload_n 1, 1) := by decide +kernel
theorem dX2_beginKind_18 : decode cX2_beginKind 18 = .ok (.getfield 32, 3) := by decide +kernel
theorem dX2_beginKind_21 : decode cX2_beginKind 21 = .ok (.iload_n 2, 1) := by decide +kernel
theorem dX2_beginKind_22 : decode cX2_beginKind 22 = .ok (.iadd, 1) := by decide +kernel
theorem dX2_beginKind_23 : decode cX2_beginKind 23 = .ok (.istore_n 3, 1) := by decide +kernel
theorem dX2_beginKind_24 : decode cX2_beginKind 24 = .ok (.aload_n 0, 1) := by decide +kernel
theorem dX2_beginKind_25 : decode cX2_beginKind 25 = .ok (.getfield 9, 3) := by decide +kernel
theorem dX2_beginKind_28 : decode cX2_beginKind 28 = .ok (.aload_n 0, 1) := by decide +kernel
theorem dX2_beginKind_29 : decode cX2_beginKind 29 = .ok (.getfield 24, 3) := by decide +kernel
theorem dX2_beginKind_32 : decode cX2_beginKind 32 = .ok (.bipush 8, 2) := by decide +kernel
theorem dX2_beginKind_34 : decode cX2_beginKind 34 = .ok (.imul, 1) := by decide +kernel
theorem dX2_beginKind_35 : decode cX2_beginKind 35 = .ok (.iload_n 2, 1) := by decide +kernel
theorem dX2_beginKind_36 : decode cX2_beginKind 36 = .ok (.iadd, 1) := by decide +kernel
theorem dX2_beginKind_37 : decode cX2_beginKind 37 = .ok (.iload_n 3, 1) := by decide +kernel
theorem dX2_beginKind_38 : decode cX2_beginKind 38 = .ok (.aload_n 1, 1) := by decide +kernel
theorem dX2_beginKind_39 : decode cX2_beginKind 39 = .ok (.getfield 37, 3) := by decide +kernel
theorem dX2_beginKind_42 : decode cX2_beginKind 42 = .ok (.if_icmp .ge 11, 3) := by decide +kernel
theorem dX2_beginKind_45 : decode cX2_beginKind 45 = .ok (.aload_n 1, 1) := by decide +kernel
theorem dX2_beginKind_46 : decode cX2_beginKind 46 = .ok (.iload_n 3, 1) := by decide +kernel
theorem dX2_beginKind_47 : decode cX2_beginKind 47 = .ok (.invokevirtual 40, 3) := by decide +kernel
theorem dX2_beginKind_50 : decode cX2_beginKind 50 = .ok (.goto 4, 3) := by decide +kernel
theorem dX2_beginKind_53 : decode cX2_beginKind 53 = .ok (.iconst 0, 1) := by decide +kernel
theorem dX2_beginKind_54 : decode cX2_beginKind 54 = .ok (.iastore, 1) := by decide +kernel
theorem dX2_beginKind_55 : decode cX2_beginKind 55 = .ok (.iinc 2 1, 3) := by decide +kernel
theorem dX2_beginKind_58 : decode cX2_beginKind 58 = .ok (.goto (-56), 3) := by decide +kernel
theorem dX2_beginKind_61 : decode cX2_beginKind 61 = .ok (.return_, 1) := by decide +kernel
theorem dX2_isBegunNameTaken_0 : decode cX2_isBegunNameTaken 0 = .ok (.iconst 0, 1) := by decide +kernel
theorem dX2_isBegunNameTaken_1 : decode cX2_isBegunNameTaken 1 = .ok (.istore_n 1, 1) := by decide +kernel
theorem dX2_isBegunNameTaken_2 : decode cX2_isBegunNameTaken 2 = .ok (.iload_n 1, 1) := by decide +kernel
theorem dX2_isBegunNameTaken_3 : decode cX2_isBegunNameTaken 3 = .ok (.aload_n 0, 1) := by decide +kernel
theorem dX2_isBegunNameTaken_4 : decode cX2_isBegunNameTaken 4 = .ok (.getfield 24, 3) := by decide +kernel
theorem dX2_isBegunNameTaken_7 : decode cX2_isBegunNameTaken 7 = .ok (.if_icmp .ge 32, 3) := by decide +kernel
theorem dX2_isBegunNameTaken_10 : decode cX2_isBegunNameTaken 10 = .ok (.aload_n 0, 1) := by decide +kernel
theorem dX2_isBegunNameTaken_11 : decode cX2_isBegunNameTaken 11 = .ok (.getfield 24, 3) := by decide +kernel
theorem dX2_isBegunNameTaken_14 : decode cX2_isBegunNameTaken 14 = .ok (.bipush 6, 2) := by decide +kernel
theorem dX2_isBegunNameTaken_16 : decode cX2_isBegunNameTaken 16 = .ok (.if_icmp .ge 23, 3) := by decide +kernel
theorem dX2_isBegunNameTaken_19 : decode cX2_isBegunNameTaken 19 = .ok (.aload_n 0, 1) := by decide +kernel
theorem dX2_isBegunNameTaken_20 : decode cX2_isBegunNameTaken 20 = .ok (.iload_n 1, 1) := by decide +kernel
theorem dX2_isBegunNameTaken_21 : decode cX2_isBegunNameTaken 21 = .ok (.aload_n 0, 1) := by decide +kernel
theorem dX2_isBegunNameTaken_22 : decode cX2_isBegunNameTaken 22 = .ok (.getfield 24, 3) := by decide +kernel
theorem dX2_isBegunNameTaken_25 : decode cX2_isBegunNameTaken 25 = .ok (.invokevirtual 44, 3) := by decide +kernel
theorem dX2_isBegunNameTaken_28 : decode cX2_isBegunNameTaken 28 = .ok (.ifCond .eq 5, 3) := by decide +kernel
theorem dX2_isBegunNameTaken_31 : decode cX2_isBegunNameTaken 31 = .ok (.iconst 1, 1) := by decide +kernel
theorem dX2_isBegunNameTaken_32 : decode cX2_isBegunNameTaken 32 = .ok (.ireturn, 1) := by decide +kernel
theorem dX2_isBegunNameTaken_33 : decode cX2_isBegunNameTaken 33 = .ok (.iinc 1 1, 3) := by decide +kernel
theorem dX2_isBegunNameTaken_36 : decode cX2_isBegunNameTaken 36 = .ok (.goto (-34), 3) := by decide +kernel
theorem dX2_isBegunNameTaken_39 : decode cX2_isBegunNameTaken 39 = .ok (.iconst 0, 1) := by decide +kernel
theorem dX2_isBegunNameTaken_40 : decode cX2_isBegunNameTaken 40 = .ok (.ireturn, 1) := by decide +kernel
theorem dX2_isSameName_0 : decode cX2_isSameName 0 = .ok (.iconst 0, 1) := by decide +kernel
theorem dX2_isSameName_1 : decode cX2_isSameName 1 = .ok (.istore_n 3, 1) := by decide +kernel
theorem dX2_isSameName_2 : decode cX2_isSameName 2 = .ok (.iload_n 3, 1) := by decide +kernel
theorem dX2_isSameName_3 : decode cX2_isSameName 3 = .ok (.bipush 8, 2) := by decide +kernel
theorem dX2_isSameName_5 : decode cX2_isSameName 5 = .ok (.if_icmp .ge 26, 3) := by decide +kernel
theorem dX2_isSameName_8 : decode cX2_isSameName 8 = .ok (.aload_n 0, 1) := by decide +kernel
theorem dX2_isSameName_9 : decode cX2_isSameName 9 = .ok (.iload_n 1, 1) := by decide +kernel
theorem dX2_isSameName_10 : decode cX2_isSameName 10 = .ok (.iload_n 3, 1) := by decide +kernel
theorem dX2_isSameName_11 : decode cX2_isSameName 11 = .ok (.invokevirtual 48, 3) := by decide +kernel
theorem dX2_isSameName_14 : decode cX2_isSameName 14 = .ok (.aload_n 0, 1) := by decide +kernel
theorem dX2_isSameName_15 : decode cX2_isSameName 15 = .ok (.iload_n 2, 1) := by decide +kernel
theorem dX2_isSameName_16 : decode cX2_isSameName 16 = .ok (.iload_n 3, 1) := by decide +kernel
theorem dX2_isSameName_17 : decode cX2_isSameName 17 = .ok (.invokevirtual 48, 3) := by decide +kernel
theorem dX2_isSameName_20 : decode cX2_isSameName 20 = .ok (.if_icmp .eq 5, 3) := by decide +kernel
theorem dX2_isSameName_23 : decode cX2_isSameName 23 = .ok (.iconst 0, 1) := by decide +kernel
theorem dX2_isSameName_24 : decode cX2_isSameName 24 = .ok (.ireturn, 1) := by decide +kernel
theorem dX2_isSameName_25 : decode cX2_isSameName 25 = .ok (.iinc 3 1, 3) := by decide +kernel
theorem dX2_isSameName_28 : decode cX2_isSameName 28 = .ok (.goto (-26), 3) := by decide +kernel
theorem dX2_isSameName_31 : decode cX2_isSameName 31 = .ok (.iconst 1, 1) := by decide +kernel
theorem dX2_isSameName_32 : decode cX2_isSameName 32 = .ok (.ireturn, 1) := by decide +kernel
theorem dX2_endKind_0 : decode cX2_endKind 0 = .ok (.aload_n 0, 1) := by decide +kernel
theorem dX2_endKind_1 : decode cX2_endKind 1 = .ok (.getfield 24, 3) := by decide +kernel
theorem dX2_endKind_4 : decode cX2_endKind 4 = .ok (.bipush 6, 2) := by decide +kernel
theorem dX2_endKind_6 : decode cX2_endKind 6 = .ok (.if_icmp .ge 43, 3) := by decide +kernel
theorem dX2_endKind_9 : decode cX2_endKind 9 = .ok (.aload_n 0, 1) := by decide +kernel
theorem dX2_endKind_10 : decode cX2_endKind 10 = .ok (.getfield 15, 3) := by decide +kernel
theorem dX2_endKind_13 : decode cX2_endKind 13 = .ok (.aload_n 0, 1) := by decide +kernel
theorem dX2_endKind_14 : decode cX2_endKind 14 = .ok (.getfield 24, 3) := by decide +kernel
theorem dX2_endKind_17 : decode cX2_endKind 17 = .ok (.iload_n 1, 1) := by decide +kernel
theorem dX2_endKind_18 : decode cX2_endKind 18 = .ok (.iastore, 1) := by decide +kernel
theorem dX2_endKind_19 : decode cX2_endKind 19 = .ok (.aload_n 0, 1) := by decide +kernel
theorem dX2_endKind_20 : decode cX2_endKind 20 = .ok (.getfield 18, 3) := by decide +kernel
theorem dX2_endKind_23 : decode cX2_endKind 23 = .ok (.aload_n 0, 1) := by decide +kernel
theorem dX2_endKind_24 : decode cX2_endKind 24 = .ok (.getfield 24, 3) := by decide +kernel
theorem dX2_endKind_27 : decode cX2_endKind 27 = .ok (.iload_n 2, 1) := by decide +kernel
theorem dX2_endKind_28 : decode cX2_endKind 28 = .ok (.iastore, 1) := by decide +kernel
theorem dX2_endKind_29 : decode cX2_endKind 29 = .ok (.aload_n 0, 1) := by decide +kernel
theorem dX2_endKind_30 : decode cX2_endKind 30 = .ok (.getfield 21, 3) := by decide +kernel
theorem dX2_endKind_33 : decode cX2_endKind 33 = .ok (.aload_n 0, 1) := by decide +kernel
theorem dX2_endKind_34 : decode cX2_endKind 34 = .ok (.getfield 24, 3) := by decide +kernel
theorem dX2_endKind_37 : decode cX2_endKind 37 = .ok (.iload_n 3, 1) := by decide +kernel
theorem dX2_endKind_38 : decode cX2_endKind 38 = .ok (.iastore, 1) := by decide +kernel
theorem dX2_endKind_39 : decode cX2_endKind 39 = .ok (.aload_n 0, 1) := by decide +kernel
theorem dX2_endKind_40 : decode cX2_endKind 40 = .ok (.dup, 1) := by decide +kernel
theorem dX2_endKind_41 : decode cX2_endKind 41 = .ok (.getfield 24, 3) := by decide +kernel
theorem dX2_endKind_44 : decode cX2_endKind 44 = .ok (.iconst 1, 1) := by decide +kernel
theorem dX2_endKind_45 : decode cX2_endKind 45 = .ok (.iadd, 1) := by decide +kernel
theorem dX2_endKind_46 : decode cX2_endKind 46 = .ok (.putfield 24, 3) := by decide +kernel
theorem dX2_endKind_49 : decode cX2_endKind 49 = .ok (.return_, 1) := by decide +kernel
theorem dX3_init_0 : decode cX3_init 0 = .ok (.aload_n 0, 1) := by decide +kernel
theorem dX3_init_1 : decode cX3_init 1 = .ok (.invokespecial 3, 3) := by decide +kernel
theorem dX3_init_4 : decode cX3_init 4 = .ok (.aload_n 0, 1) := by decide +kernel
theorem dX3_init_5 : decode cX3_init 5 = .ok (.bipush 21, 2) := by decide +kernel
theorem dX3_init_7 : decode cX3_init 7 = .ok (.newarray .int, 2) := by decide +kernel
theorem dX3_init_9 : decode cX3_init 9 = .ok (.putfield 9, 3) := by decide +kernel
theorem dX3_init_12 : decode cX3_init 12 = .ok (.aload_n 0, 1) := by decide +kernel
theorem dX3_init_13 : decode cX3_init 13 = .ok (.bipush 21, 2) := by decide +kernel
theorem dX3_init_15 : decode cX3_init 15 = .ok (.newarray .int, 2) := by decide +kernel
theorem dX3_init_17 : decode cX3_init 17 = .ok (.putfield 15, 3) := by decide +kernel
theorem dX3_init_20 : decode cX3_init 20 = .ok (.aload_n 0, 1) := by decide +kernel
theorem dX3_init_21 : decode cX3_init 21 = .ok (.bipush 21, 2) := by decide +kernel
theorem dX3_init_23 : decode cX3_init 23 = .ok (.newarray .boolean, 2) := by decide +kernel
theorem dX3_init_25 : decode cX3_init 25 = .ok (.putfield 18, 3) := by decide +kernel
theorem dX3_init_28 : decode cX3_init 28 = .ok (.aload_n 0, 1) := by decide +kernel
theorem dX3_init_29 : decode cX3_init 29 = .ok (.bipush 6, 2) := by decide +kernel
theorem dX3_init_31 : decode cX3_init 31 = .ok (.newarray .int, 2) := by decide +kernel
theorem dX3_init_33 : decode cX3_init 33 = .ok (.putfield 22, 3) := by decide +kernel
theorem dX3_init_36 : decode cX3_init 36 = .ok (.aload_n 0, 1) := by decide +kernel
theorem dX3_init_37 : decode cX3_init 37 = .ok (.iconst 1, 1) := by decide +kernel
theorem dX3_init_38 : decode cX3_init 38 = .ok (.putfield 25, 3) := by decide +kernel
theorem dX3_init_41 : decode cX3_init 41 = .ok (.return_, 1) := by decide +kernel
theorem dX3_measure_0 : decode cX3_measure 0 = .ok (.aload_n 1, 1) := by decide +kernel
theorem dX3_measure_1 : decode cX3_measure 1 = .ok (.getfield 29, 3) := by decide +kernel
theorem dX3_measure_4 : decode cX3_measure 4 = .ok (.getfield 35, 3) := by decide +kernel
theorem dX3_measure_7 : decode cX3_measure 7 = .ok (.istore_n 2, 1) := by decide +kernel
theorem dX3_measure_8 : decode cX3_measure 8 = .ok (.iconst 0, 1) := by decide +kernel
theorem dX3_measure_9 : decode cX3_measure 9 = .ok (.istore_n 3, 1) := by decide +kernel
theorem dX3_measure_10 : decode cX3_measure 10 = .ok (.iconst 0, 1) := by decide +kernel
theorem dX3_measure_11 : decode cX3_measure 11 = .ok (.istore 4, 2) := by decide +kernel
theorem dX3_measure_13 : decode cX3_measure 13 = .ok (.iload 4, 2) := by decide +kernel
theorem dX3_measure_15 : decode cX3_measure 15 = .ok (.iload_n 2, 1) := by decide +kernel
theorem dX3_measure_16 : decode cX3_measure 16 = .ok (.if_icmp .ge 50, 3) := by decide +kernel
theorem dX3_measure_19 : decode cX3_measure 19 = .ok (.aload_n 1, 1) := by decide +kernel
theorem dX3_measure_20 : decode cX3_measure 20 = .ok (.iload 4, 2) := by decide +kernel
theorem dX3_measure_22 : decode cX3_measure 22 = .ok (.invokevirtual 40, 3) := by decide +kernel
theorem dX3_measure_25 : decode cX3_measure 25 = .ok (.istore 5, 2) := by decide +kernel
theorem dX3_measure_27 : decode cX3_measure 27 = .ok (.aload_n 1, 1) := by decide +kernel
theorem dX3_measure_28 : decode cX3_measure 28 = .ok (.getfield 29, 3) := by decide +kernel
theorem dX3_measure_31 : decode cX3_measure 31 = .ok (.iload 4, 2) := by decide +kernel
theorem dX3_measure_33 : decode cX3_measure 33 = .ok (.invokevirtual 44, 3) := by decide +kernel
theorem dX3_measure_36 : decode cX3_measure 36 = .ok (.iconst 2, 1) := by decide +kernel
theorem dX3_measure_37 : decode cX3_measure 37 = .ok (.idiv, 1) := by decide +kernel
theorem dX3_measure_38 : decode cX3_measure 38 = .ok (.istore 6, 2) := by decide +kernel
theorem dX3_measure_40 : decode cX3_measure 40 = .ok (.aload_n 0, 1) := by decide +kernel
theorem dX3_measure_41 : decode cX3_measure 41 = .ok (.getfield 9, 3) := by decide +kernel
theorem dX3_measure_44 : decode cX3_measure 44 = .ok (.iload 4, 2) := by decide +kernel
theorem dX3_measure_46 : decode cX3_measure 46 = .ok (.iload 5, 2) := by decide +kernel
theorem dX3_measure_48 : decode cX3_measure 48 = .ok (.iload 6, 2) := by decide +kernel
theorem dX3_measure_50 : decode cX3_measure 50 = .ok (.isub, 1) := by decide +kernel
theorem dX3_measure_51 : decode cX3_measure 51 = .ok (.iload_n 3, 1) := by decide +kernel
theorem dX3_measure_52 : decode cX3_measure 52 = .ok (.isub, 1) := by decide +kernel
theorem dX3_measure_53 : decode cX3_measure 53 = .ok (.iastore, 1) := by decide +kernel
theorem dX3_measure_54 : decode cX3_measure 54 = .ok (.iload 5, 2) := by decide +kernel
theorem dX3_measure_56 : decode cX3_measure 56 = .ok (.iload 6, 2) := by decide +kernel
theorem dX3_measure_58 : decode cX3_measure 58 = .ok (.iadd, 1) := by decide +kernel
theorem dX3_measure_59 : decode cX3_measure 59 = .ok (.istore_n 3, 1) := by decide +kernel
theorem dX3_measure_60 : decode cX3_measure 60 = .ok (.iinc 4 1, 3) := by decide +kernel
theorem dX3_measure_63 : decode cX3_measure 63 = .ok (.goto (-50), 3) := by decide +kernel
theorem dX3_measure_66 : decode cX3_measure 66 = .ok (.aload_n 0, 1) := by decide +kernel
theorem dX3_measure_67 : decode cX3_measure 67 = .ok (.getfield 9, 3) := by decide +kernel
theorem dX3_measure_70 : decode cX3_measure 70 = .ok (.iload_n 2, 1) := by decide +kernel
theorem dX3_measure_71 : decode cX3_measure 71 = .ok (.aload_n 1, 1) := by decide +kernel
theorem dX3_measure_72 : decode cX3_measure 72 = .ok (.getfield 47, 3) := by decide +kernel
theorem dX3_measure_75 : decode cX3_measure 75 = .ok (.invokevirtual 51, 3) := by decide +kernel
theorem dX3_measure_78 : decode cX3_measure 78 = .ok (.iload_n 3, 1) := by decide +kernel
theorem dX3_measure_79 : decode cX3_measure 79 = .ok (.isub, 1) := by decide +kernel
theorem dX3_measure_80 : decode cX3_measure 80 = .ok (.iastore, 1) := by decide +kernel
theorem dX3_measure_81 : decode cX3_measure 81 = .ok (.aload_n 0, 1) := by decide +kernel
theorem dX3_measure_82 : decode cX3_measure 82 = .ok (.iload_n 2, 1) := by decide +kernel
theorem dX3_measure_83 : decode cX3_measure 83 = .ok (.iconst 1, 1) := by decide +kernel
theorem dX3_measure_84 : decode cX3_measure 84 = .ok (.iadd, 1) := by decide +kernel
theorem dX3_measure_85 : decode cX3_measure 85 = .ok (.putfield 25, 3) := by decide +kernel
theorem dX3_measure_88 : decode cX3_measure 88 = .ok (.return_, 1) := by decide +kernel
theorem dX3_crowdedRooms_0 : decode cX3_crowdedRooms 0 = .ok (.iconst 0, 1) := by decide +kernel
theorem dX3_crowdedRooms_1 : decode cX3_crowdedRooms 1 = .ok (.istore_n 2, 1) := by decide +kernel
theorem dX3_crowdedRooms_2 : decode cX3_crowdedRooms 2 = .ok (.iconst 0, 1) := by decide +kernel
theorem dX3_crowdedRooms_3 : decode cX3_crowdedRooms 3 = .ok (.istore_n 3, 1) := by decide +kernel
theorem dX3_crowdedRooms_4 : decode cX3_crowdedRooms 4 = .ok (.iload_n 3, 1) := by decide +kernel
theorem dX3_crowdedRooms_5 : decode cX3_crowdedRooms 5 = .ok (.aload_n 0, 1) := by decide +kernel
theorem dX3_crowdedRooms_6 : decode cX3_crowdedRooms 6 = .ok (.getfield 25, 3) := by decide +kernel
theorem dX3_crowdedRooms_9 : decode cX3_crowdedRooms 9 = .ok (.if_icmp .ge 28, 3) := by decide +kernel
theorem dX3_crowdedRooms_12 : decode cX3_crowdedRooms 12 = .ok (.aload_n 0, 1) := by decide +kernel
theorem dX3_crowdedRooms_13 : decode cX3_crowdedRooms 13 = .ok (.getfield 9, 3) := by decide +kernel
theorem dX3_crowdedRooms_16 : decode cX3_crowdedRooms 16 = .ok (.iload_n 3, 1) := by decide +kernel
theorem dX3_crowdedRooms_17 : decode cX3_crowdedRooms 17 = .ok (.iaload, 1) := by decide +kernel
theorem dX3_crowdedRooms_18 : decode cX3_crowdedRooms 18 = .ok (.bipush 100, 2) := by decide +kernel
theorem dX3_crowdedRooms_20 : decode cX3_crowdedRooms 20 = .ok (.iload_n 1, 1) := by decide +kernel
theorem dX3_crowdedRooms_21 : decode cX3_crowdedRooms 21 = .ok (.imul, 1) := by decide +kernel
theorem dX3_crowdedRooms_22 : decode cX3_crowdedRooms 22 = .ok (.if_icmp .ge 9, 3) := by decide +kernel
theorem dX3_crowdedRooms_25 : decode cX3_crowdedRooms 25 = .ok (.iload_n 2, 1) := by decide +kernel
theorem dX3_crowdedRooms_26 : decode cX3_crowdedRooms 26 = .ok (.iconst 1, 1) := by decide +kernel
theorem dX3_crowdedRooms_27 : decode cX3_crowdedRooms 27 = .ok (.iload_n 3, 1) := by decide +kernel
theorem dX3_crowdedRooms_28 : decode cX3_crowdedRooms 28 = .ok (.ishl, 1) := by decide +kernel
theorem dX3_crowdedRooms_29 : decode cX3_crowdedRooms 29 = .ok (.ior, 1) := by decide +kernel
theorem dX3_crowdedRooms_30 : decode cX3_crowdedRooms 30 = .ok (.istore_n 2, 1) := by decide +kernel
theorem dX3_crowdedRooms_31 : decode cX3_crowdedRooms 31 = .ok (.iinc 3 1, 3) := by decide +kernel
theorem dX3_crowdedRooms_34 : decode cX3_crowdedRooms 34 = .ok (.goto (-30), 3) := by decide +kernel
theorem dX3_crowdedRooms_37 : decode cX3_crowdedRooms 37 = .ok (.iload_n 2, 1) := by decide +kernel
theorem dX3_crowdedRooms_38 : decode cX3_crowdedRooms 38 = .ok (.ireturn, 1) := by decide +kernel
theorem dX3_tightestRoom_0 : decode cX3_tightestRoom 0 = .ok (.iconst 0, 1) := by decide +kernel
theorem dX3_tightestRoom_1 : decode cX3_tightestRoom 1 = .ok (.istore_n 1, 1) := by decide +kernel
theorem dX3_tightestRoom_2 : decode cX3_tightestRoom 2 = .ok (.iconst 1, 1) := by decide +kernel
theorem dX3_tightestRoom_3 : decode cX3_tightestRoom 3 = .ok (.istore_n 2, 1) := by decide +kernel
theorem dX3_tightestRoom_4 : decode cX3_tightestRoom 4 = .ok (.iload_n 2, 1) := by decide +kernel
theorem dX3_tightestRoom_5 : decode cX3_tightestRoom 5 = .ok (.aload_n 0, 1) := by decide +kernel
theorem dX3_tightestRoom_6 : decode cX3_tightestRoom 6 = .ok (.getfield 25, 3) := by decide +kernel
theorem dX3_tightestRoom_9 : decode cX3_tightestRoom 9 = .ok (.if_icmp .ge 26, 3) := by decide +kernel
theorem dX3_tightestRoom_12 : decode cX3_tightestRoom 12 = .ok (.aload_n 0, 1) := by decide +kernel
theorem dX3_tightestRoom_13 : decode cX3_tightestRoom 13 = .ok (.getfield 9, 3) := by decide +kernel
theorem dX3_tightestRoom_16 : decode cX3_tightestRoom 16 = .ok (.iload_n 2, 1) := by decide +kernel
theorem dX3_tightestRoom_17 : decode cX3_tightestRoom 17 = .ok (.iaload, 1) := by decide +kernel
theorem dX3_tightestRoom_18 : decode cX3_tightestRoom 18 = .ok (.aload_n 0, 1) := by decide +kernel
theorem dX3_tightestRoom_19 : decode cX3_tightestRoom 19 = .ok (.getfield 9, 3) := by decide +kernel
theorem dX3_tightestRoom_22 : decode cX3_tightestRoom 22 = .ok (.iload_n 1, 1) := by decide +kernel
theorem dX3_tightestRoom_23 : decode cX3_tightestRoom 23 = .ok (.iaload, 1) := by decide +kernel
theorem dX3_tightestRoom_24 : decode cX3_tightestRoom 24 = .ok (.if_icmp .ge 5, 3) := by decide +kernel
theorem dX3_tightestRoom_27 : decode cX3_tightestRoom 27 = .ok (.iload_n 2, 1) := by decide +kernel
theorem dX3_tightestRoom_28 : decode cX3_tightestRoom 28 = .ok (.istore_n 1, 1) := by decide +kernel
theorem dX3_tightestRoom_29 : decode cX3_tightestRoom 29 = .ok (.iinc 2 1, 3) := by decide +kernel
theorem dX3_tightestRoom_32 : decode cX3_tightestRoom 32 = .ok (.goto (-28), 3) := by decide +kernel
theorem dX3_tightestRoom_35 : decode cX3_tightestRoom 35 = .ok (.iload_n 1, 1) := by decide +kernel
theorem dX3_tightestRoom_36 : decode cX3_tightestRoom 36 = .ok (.ireturn, 1) := by decide +kernel
theorem dX3_letterSpoiledBy_0 : decode cX3_letterSpoiledBy 0 = .ok (.aload_n 1, 1) := by decide +kernel
theorem dX3_letterSpoiledBy_1 : decode cX3_letterSpoiledBy 1 = .ok (.getfield 57, 3) := by decide +kernel
theorem dX3_letterSpoiledBy_4 : decode cX3_letterSpoiledBy 4 = .ok (.getfield 61, 3) := by decide +kernel
theorem dX3_letterSpoiledBy_7 : decode cX3_letterSpoiledBy 7 = .ok (.iload_n 2, 1) := by decide +kernel
theorem dX3_letterSpoiledBy_8 : decode cX3_letterSpoiledBy 8 = .ok (.iaload, 1) := by decide +kernel
theorem dX3_letterSpoiledBy_9 : decode cX3_letterSpoiledBy 9 = .ok (.iconst 1, 1) := by decide +kernel
theorem dX3_letterSpoiledBy_10 : decode cX3_letterSpoiledBy 10 = .ok (.iadd, 1) := by decide +kernel
theorem dX3_letterSpoiledBy_11 : decode cX3_letterSpoiledBy 11 = .ok (.istore_n 3, 1) := by decide +kernel
theorem dX3_letterSpoiledBy_12 : decode cX3_letterSpoiledBy 12 = .ok (.aload_n 1, 1) := by decide +kernel
theorem dX3_letterSpoiledBy_13 : decode cX3_letterSpoiledBy 13 = .ok (.iload_n 3, 1) := by decide +kernel
theorem dX3_letterSpoiledBy_14 : decode cX3_letterSpoiledBy 14 = .ok (.invokevirtual 65, 3) := by decide +kernel
theorem dX3_letterSpoiledBy_17 : decode cX3_letterSpoiledBy 17 = .ok (.ifCond .eq 25, 3) := by decide +kernel
theorem dX3_letterSpoiledBy_20 : decode cX3_letterSpoiledBy 20 = .ok (.aload_n 1, 1) := by decide +kernel
theorem dX3_letterSpoiledBy_21 : decode cX3_letterSpoiledBy 21 = .ok (.getfield 57, 3) := by decide +kernel
theorem dX3_letterSpoiledBy_24 : decode cX3_letterSpoiledBy 24 = .ok (.getfield 69, 3) := by decide +kernel
theorem dX3_letterSpoiledBy_27 : decode cX3_letterSpoiledBy 27 = .ok (.iload_n 2, 1) := by decide +kernel
theorem dX3_letterSpoiledBy_28 : decode cX3_letterSpoiledBy 28 = .ok (.iaload, 1) := by decide +kernel
theorem dX3_letterSpoiledBy_29 : decode cX3_letterSpoiledBy 29 = .ok (.aload_n 0, 1) := by decide +kernel
theorem dX3_letterSpoiledBy_30 : decode cX3_letterSpoiledBy 30 = .ok (.getfield 9, 3) := by decide +kernel
theorem dX3_letterSpoiledBy_33 : decode cX3_letterSpoiledBy 33 = .ok (.iload_n 3, 1) := by decide +kernel
theorem dX3_letterSpoiledBy_34 : decode cX3_letterSpoiledBy 34 = .ok (.iaload, 1) := by decide +kernel
theorem dX3_letterSpoiledBy_35 : decode cX3_letterSpoiledBy 35 = .ok (.if_icmp .le 7, 3) := by decide +kernel
theorem dX3_letterSpoiledBy_38 : decode cX3_letterSpoiledBy 38 = .ok (.iconst 1, 1) := by decide +kernel
theorem dX3_letterSpoiledBy_39 : decode cX3_letterSpoiledBy 39 = .ok (.goto 4, 3) := by decide +kernel
theorem dX3_letterSpoiledBy_42 : decode cX3_letterSpoiledBy 42 = .ok (.iconst 0, 1) := by decide +kernel
theorem dX3_letterSpoiledBy_43 : decode cX3_letterSpoiledBy 43 = .ok (.istore 4, 2) := by decide +kernel
theorem dX3_letterSpoiledBy_45 : decode cX3_letterSpoiledBy 45 = .ok (.iload 4, 2) := by decide +kernel
theorem dX3_letterSpoiledBy_47 : decode cX3_letterSpoiledBy 47 = .ok (.ifCond .eq 7, 3) := by decide +kernel
theorem dX3_letterSpoiledBy_50 : decode cX3_letterSpoiledBy 50 = .ok (.iload_n 3, 1) := by decide +kernel
theorem dX3_letterSpoiledBy_51 : decode cX3_letterSpoiledBy 51 = .ok (.goto 4, 3) := by decide +kernel
theorem dX3_letterSpoiledBy_54 : decode cX3_letterSpoiledBy 54 = .ok (.iconst (-1), 1) := by decide +kernel
theorem dX3_letterSpoiledBy_55 : decode cX3_letterSpoiledBy 55 = .ok (.ireturn, 1) := by decide +kernel
theorem dX3_isSpoiled_0 : decode cX3_isSpoiled 0 = .ok (.iconst 0, 1) := by decide +kernel
theorem dX3_isSpoiled_1 : decode cX3_isSpoiled 1 = .ok (.istore_n 3, 1) := by decide +kernel
theorem dX3_isSpoiled_2 : decode cX3_isSpoiled 2 = .ok (.iload_n 3, 1) := by decide +kernel
theorem dX3_isSpoiled_3 : decode cX3_isSpoiled 3 = .ok (.aload_n 1, 1) := by decide +kernel
theorem dX3_isSpoiled_4 : decode cX3_isSpoiled 4 = .ok (.getfield 57, 3) := by decide +kernel
theorem dX3_isSpoiled_7 : decode cX3_isSpoiled 7 = .ok (.getfield 72, 3) := by decide +kernel
theorem dX3_isSpoiled_10 : decode cX3_isSpoiled 10 = .ok (.if_icmp .ge 21, 3) := by decide +kernel
theorem dX3_isSpoiled_13 : decode cX3_isSpoiled 13 = .ok (.aload_n 0, 1) := by decide +kernel
theorem dX3_isSpoiled_14 : decode cX3_isSpoiled 14 = .ok (.aload_n 1, 1) := by decide +kernel
theorem dX3_isSpoiled_15 : decode cX3_isSpoiled 15 = .ok (.iload_n 3, 1) := by decide +kernel
theorem dX3_isSpoiled_16 : decode cX3_isSpoiled 16 = .ok (.invokevirtual 73, 3) := by decide +kernel
theorem dX3_isSpoiled_19 : decode cX3_isSpoiled 19 = .ok (.iload_n 2, 1) := by decide +kernel
theorem dX3_isSpoiled_20 : decode cX3_isSpoiled 20 = .ok (.if_icmp .ne 5, 3) := by decide +kernel
theorem dX3_isSpoiled_23 : decode cX3_isSpoiled 23 = .ok (.iconst 1, 1) := by decide +kernel
theorem dX3_isSpoiled_24 : decode cX3_isSpoiled 24 = .ok (.ireturn, 1) := by decide +kernel
theorem dX3_isSpoiled_25 : decode cX3_isSpoiled 25 = .ok (.iinc 3 1, 3) := by decide +kernel
theorem dX3_isSpoiled_28 : decode cX3_isSpoiled 28 = .ok (.goto (-26), 3) := by decide +kernel
theorem dX3_isSpoiled_31 : decode cX3_isSpoiled 31 = .ok (.iconst 0, 1) := by decide +kernel
theorem dX3_isSpoiled_32 : decode cX3_isSpoiled 32 = .ok (.ireturn, 1) := by decide +kernel
theorem dX3_fill_0 : decode cX3_fill 0 = .ok (.aload_n 0, 1) := by decide +kernel
theorem dX3_fill_1 : decode cX3_fill 1 = .ok (.aload_n 1, 1) := by decide +kernel
theorem dX3_fill_2 : decode cX3_fill 2 = .ok (.invokevirtual 77, 3) := by decide +kernel
theorem dX3_fill_5 : decode cX3_fill 5 = .ok (.iconst 0, 1) := by decide +kernel
theorem dX3_fill_6 : decode cX3_fill 6 = .ok (.istore_n 2, 1) := by decide +kernel
theorem dX3_fill_7 : decode cX3_fill 7 = .ok (.iload_n 2, 1) := by decide +kernel
theorem dX3_fill_8 : decode cX3_fill 8 = .ok (.aload_n 1, 1) := by decide +kernel
theorem dX3_fill_9 : decode cX3_fill 9 = .ok (.getfield 81, 3) := by decide +kernel
theorem dX3_fill_12 : decode cX3_fill 12 = .ok (.getfield 85, 3) := by decide +kernel
theorem dX3_fill_15 : decode cX3_fill 15 = .ok (.if_icmp .ge 24, 3) := by decide +kernel
theorem dX3_fill_18 : decode cX3_fill 18 = .ok (.aload_n 0, 1) := by decide +kernel
theorem dX3_fill_19 : decode cX3_fill 19 = .ok (.getfield 22, 3) := by decide +kernel
theorem dX3_fill_22 : decode cX3_fill 22 = .ok (.iload_n 2, 1) := by decide +kernel
theorem dX3_fill_23 : decode cX3_fill 23 = .ok (.aload_n 1, 1) := by decide +kernel
theorem dX3_fill_24 : decode cX3_fill 24 = .ok (.getfield 81, 3) := by decide +kernel
theorem dX3_fill_27 : decode cX3_fill 27 = .ok (.getfield 88, 3) := by decide +kernel
theorem dX3_fill_30 : decode cX3_fill 30 = .ok (.iload_n 2, 1) := by decide +kernel
theorem dX3_fill_31 : decode cX3_fill 31 = .ok (.iaload, 1) := by decide +kernel
theorem dX3_fill_32 : decode cX3_fill 32 = .ok (.iastore, 1) := by decide +kernel
theorem dX3_fill_33 : decode cX3_fill 33 = .ok (.iinc 2 1, 3) := by decide +kernel
theorem dX3_fill_36 : decode cX3_fill 36 = .ok (.goto (-29), 3) := by decide +kernel
theorem dX3_fill_39 : decode cX3_fill 39 = .ok (.iconst 0, 1) := by decide +kernel
theorem dX3_fill_40 : decode cX3_fill 40 = .ok (.istore_n 2, 1) := by decide +kernel
theorem dX3_fill_41 : decode cX3_fill 41 = .ok (.iload_n 2, 1) := by decide +kernel
theorem dX3_fill_42 : decode cX3_fill 42 = .ok (.aload_n 0, 1) := by decide +kernel
theorem dX3_fill_43 : decode cX3_fill 43 = .ok (.getfield 25, 3) := by decide +kernel
theorem dX3_fill_46 : decode cX3_fill 46 = .ok (.if_icmp .ge 23, 3) := by decide +kernel
theorem dX3_fill_49 : decode cX3_fill 49 = .ok (.aload_n 0, 1) := by decide +kernel
theorem dX3_fill_50 : decode cX3_fill 50 = .ok (.getfield 15, 3) := by decide +kernel
theorem dX3_fill_53 : decode cX3_fill 53 = .ok (.iload_n 2, 1) := by decide +kernel
theorem dX3_fill_54 : decode cX3_fill 54 = .ok (.iconst (-1), 1) := by decide +kernel
theorem dX3_fill_55 : decode cX3_fill 55 = .ok (.iastore, 1) := by decide +kernel
theorem dX3_fill_56 : decode cX3_fill 56 = .ok (.aload_n 0, 1) := by decide +kernel
theorem dX3_fill_57 : decode cX3_fill 57 = .ok (.getfield 18, 3) := by decide +kernel
theorem dX3_fill_60 : decode cX3_fill 60 = .ok (.iload_n 2, 1) := by decide +kernel
theorem dX3_fill_61 : decode cX3_fill 61 = .ok (.iconst 0, 1) := by decide +kernel
theorem dX3_fill_62 : decode cX3_fill 62 = .ok (.bastore, 1) := by decide +kernel
theorem dX3_fill_63 : decode cX3_fill 63 = .ok (.iinc 2 1, 3) := by decide +kernel
theorem dX3_fill_66 : decode cX3_fill 66 = .ok (.goto (-25), 3) := by decide +kernel
theorem dX3_fill_69 : decode cX3_fill 69 = .ok (.iconst 0, 1) := by decide +kernel
theorem dX3_fill_70 : decode cX3_fill 70 = .ok (.istore_n 2, 1) := by decide +kernel
theorem dX3_fill_71 : decode cX3_fill 71 = .ok (.iload_n 2, 1) := by decide +kernel
theorem dX3_fill_72 : decode cX3_fill 72 = .ok (.aload_n 0, 1) := by decide +kernel
theorem dX3_fill_73 : decode cX3_fill 73 = .ok (.getfield 25, 3) := by decide +kernel
theorem dX3_fill_76 : decode cX3_fill 76 = .ok (.if_icmp .ge 14, 3) := by decide +kernel
theorem dX3_fill_79 : decode cX3_fill 79 = .ok (.aload_n 0, 1) := by decide +kernel
theorem dX3_fill_80 : decode cX3_fill 80 = .ok (.aload_n 1, 1) := by decide +kernel
theorem dX3_fill_81 : decode cX3_fill 81 = .ok (.invokevirtual 91, 3) := by decide +kernel
theorem dX3_fill_84 : decode cX3_fill 84 = .ok (.iinc 2 1, 3) := by decide +kernel
theorem dX3_fill_87 : decode cX3_fill 87 = .ok (.goto (-16), 3) := by decide +kernel
theorem dX3_fill_90 : decode cX3_fill 90 = .ok (.return_, 1) := by decide +kernel
theorem dX3_fillLargest_0 : decode cX3_fillLargest 0 = .ok (.aload_n 0, 1) := by decide +kernel
theorem dX3_fillLargest_1 : decode cX3_fillLargest 1 = .ok (.invokevirtual 94, 3) := by decide +kernel
theorem dX3_fillLargest_4 : decode cX3_fillLargest 4 = .ok (.istore_n 2, 1) := by decide +kernel
theorem dX3_fillLargest_5 : decode cX3_fillLargest 5 = .ok (.iload_n 2, 1) := by decide +kernel
theorem dX3_fillLargest_6 : decode cX3_fillLargest 6 = .ok (.iconst (-1), 1) := by decide +kernel
theorem dX3_fillLargest_7 : decode cX3_fillLargest 7 = .ok (.if_icmp .eq 56, 3) := by decide +kernel
theorem dX3_fillLargest_10 : decode cX3_fillLargest 10 = .ok (.aload_n 0, 1) := by decide +kernel
theorem dX3_fillLargest_11 : decode cX3_fillLargest 11 = .ok (.getfield 18, 3) := by decide +kernel
theorem dX3_fillLargest_14 : decode cX3_fillLargest 14 = .ok (.iload_n 2, 1) := by decide +kernel
theorem dX3_fillLargest_15 : decode cX3_fillLargest 15 = .ok (.iconst 1, 1) := by decide +kernel
theorem dX3_fillLargest_16 : decode cX3_fillLargest 16 = .ok (.bastore, 1) := by decide +kernel
theorem dX3_fillLargest_17 : decode cX3_fillLargest 17 = .ok (.aload_n 0, 1) := by decide +kernel
theorem dX3_fillLargest_18 : decode cX3_fillLargest 18 = .ok (.aload_n 1, 1) := by decide +kernel
theorem dX3_fillLargest_19 : decode cX3_fillLargest 19 = .ok (.getfield 81, 3) := by decide +kernel
theorem dX3_fillLargest_22 : decode cX3_fillLargest 22 = .ok (.aload_n 0, 1) := by decide +kernel
theorem dX3_fillLargest_23 : decode cX3_fillLargest 23 = .ok (.getfield 9, 3) := by decide +kernel
theorem dX3_fillLargest_26 : decode cX3_fillLargest 26 = .ok (.iload_n 2, 1) := by decide +kernel
theorem dX3_fillLargest_27 : decode cX3_fillLargest 27 = .ok (.iaload, 1) := by decide +kernel
theorem dX3_fillLargest_28 : decode cX3_fillLargest 28 = .ok (.sipush 200, 3) := by decide +kernel
theorem dX3_fillLargest_31 : decode cX3_fillLargest 31 = .ok (.aload_n 1, 1) := by decide +kernel
theorem dX3_fillLargest_32 : decode cX3_fillLargest 32 = .ok (.getfield 97, 3) := by decide +kernel
theorem dX3_fillLargest_35 : decode cX3_fillLargest 35 = .ok (.imul, 1) := by decide +kernel
theorem dX3_fillLargest_36 : decode cX3_fillLargest 36 = .ok (.isub, 1) := by decide +kernel
theorem dX3_fillLargest_37 : decode cX3_fillLargest 37 = .ok (.invokevirtual 100, 3) := by decide +kernel
theorem dX3_fillLargest_40 : decode cX3_fillLargest 40 = .ok (.istore_n 3, 1) := by decide +kernel
theorem dX3_fillLargest_41 : decode cX3_fillLargest 41 = .ok (.aload_n 0, 1) := by decide +kernel
theorem dX3_fillLargest_42 : decode cX3_fillLargest 42 = .ok (.getfield 15, 3) := by decide +kernel
theorem dX3_fillLargest_45 : decode cX3_fillLargest 45 = .ok (.iload_n 2, 1) := by decide +kernel
theorem dX3_fillLargest_46 : decode cX3_fillLargest 46 = .ok (.iload_n 3, 1) := by decide +kernel
theorem dX3_fillLargest_47 : decode cX3_fillLargest 47 = .ok (.iastore, 1) := by decide +kernel
theorem dX3_fillLargest_48 : decode cX3_fillLargest 48 = .ok (.iload_n 3, 1) := by decide +kernel
theorem dX3_fillLargest_49 : decode cX3_fillLargest 49 = .ok (.iconst (-1), 1) := by decide +kernel
theorem dX3_fillLargest_50 : decode cX3_fillLargest 50 = .ok (.if_icmp .eq 13, 3) := by decide +kernel
theorem dX3_fillLargest_53 : decode cX3_fillLargest 53 = .ok (.aload_n 0, 1) := by decide +kernel
theorem dX3_fillLargest_54 : decode cX3_fillLargest 54 = .ok (.getfield 22, 3) := by decide +kernel
theorem dX3_fillLargest_57 : decode cX3_fillLargest 57 = .ok (.iload_n 3, 1) := by decide +kernel
theorem dX3_fillLargest_58 : decode cX3_fillLargest 58 = .ok (.dup2, 1) := by decide +kernel
theorem dX3_fillLargest_59 : decode cX3_fillLargest 59 = .ok (.iaload, 1) := by decide +kernel
theorem dX3_fillLargest_60 : decode cX3_fillLargest 60 = .ok (.iconst 1, 1) := by decide +kernel
theorem dX3_fillLargest_61 : decode cX3_fillLargest 61 = .ok (.isub, 1) := by decide +kernel
theorem dX3_fillLargest_62 : decode cX3_fillLargest 62 = .ok (.iastore, 1) := by decide +kernel
theorem dX3_fillLargest_63 : decode cX3_fillLargest 63 = .ok (.return_, 1) := by decide +kernel
theorem dX3_largestUnserved_0 : decode cX3_largestUnserved 0 = .ok (.iconst (-1), 1) := by decide +kernel
theorem dX3_largestUnserved_1 : decode cX3_largestUnserved 1 = .ok (.istore_n 1, 1) := by decide +kernel
theorem dX3_largestUnserved_2 : decode cX3_largestUnserved 2 = .ok (.iconst 0, 1) := by decide +kernel
theorem dX3_largestUnserved_3 : decode cX3_largestUnserved 3 = .ok (.istore_n 2, 1) := by decide +kernel
theorem dX3_largestUnserved_4 : decode cX3_largestUnserved 4 = .ok (.iload_n 2, 1) := by decide +kernel
theorem dX3_largestUnserved_5 : decode cX3_largestUnserved 5 = .ok (.aload_n 0, 1) := by decide +kernel
theorem dX3_largestUnserved_6 : decode cX3_largestUnserved 6 = .ok (.getfield 25, 3) := by decide +kernel
theorem dX3_largestUnserved_9 : decode cX3_largestUnserved 9 = .ok (.if_icmp .ge 40, 3) := by decide +kernel
theorem dX3_largestUnserved_12 : decode cX3_largestUnserved 12 = .ok (.aload_n 0, 1) := by decide +kernel
theorem dX3_largestUnserved_13 : decode cX3_largestUnserved 13 = .ok (.getfield 18, 3) := by decide +kernel
theorem dX3_largestUnserved_16 : decode cX3_largestUnserved 16 = .ok (.iload_n 2, 1) := by decide +kernel
theorem dX3_largestUnserved_17 : decode cX3_largestUnserved 17 = .ok (.baload, 1) := by decide +kernel
theorem dX3_largestUnserved_18 : decode cX3_largestUnserved 18 = .ok (.ifCond .ne 25, 3) := by decide +kernel
theorem dX3_largestUnserved_21 : decode cX3_largestUnserved 21 = .ok (.iload_n 1, 1) := by decide +kernel
theorem dX3_largestUnserved_22 : decode cX3_largestUnserved 22 = .ok (.iconst (-1), 1) := by decide +kernel
theorem dX3_largestUnserved_23 : decode cX3_largestUnserved 23 = .ok (.if_icmp .eq 18, 3) := by decide +kernel
theorem dX3_largestUnserved_26 : decode cX3_largestUnserved 26 = .ok (.aload_n 0, 1) := by decide +kernel
theorem dX3_largestUnserved_27 : decode cX3_largestUnserved 27 = .ok (.getfield 9, 3) := by decide +kernel
theorem dX3_largestUnserved_30 : decode cX3_largestUnserved 30 = .ok (.iload_n 2, 1) := by decide +kernel
theorem dX3_largestUnserved_31 : decode cX3_largestUnserved 31 = .ok (.iaload, 1) := by decide +kernel
theorem dX3_largestUnserved_32 : decode cX3_largestUnserved 32 = .ok (.aload_n 0, 1) := by decide +kernel
theorem dX3_largestUnserved_33 : decode cX3_largestUnserved 33 = .ok (.getfield 9, 3) := by decide +kernel
theorem dX3_largestUnserved_36 : decode cX3_largestUnserved 36 = .ok (.iload_n 1, 1) := by decide +kernel
theorem dX3_largestUnserved_37 : decode cX3_largestUnserved 37 = .ok (.iaload, 1) := by decide +kernel
theorem dX3_largestUnserved_38 : decode cX3_largestUnserved 38 = .ok (.if_icmp .le 5, 3) := by decide +kernel
theorem dX3_largestUnserved_41 : decode cX3_largestUnserved 41 = .ok (.iload_n 2, 1) := by decide +kernel
theorem dX3_largestUnserved_42 : decode cX3_largestUnserved 42 = .ok (.istore_n 1, 1) := by decide +kernel
theorem dX3_largestUnserved_43 : decode cX3_largestUnserved 43 = .ok (.iinc 2 1, 3) := by decide +kernel
theorem dX3_largestUnserved_46 : decode cX3_largestUnserved 46 = .ok (.goto (-42), 3) := by decide +kernel
theorem dX3_largestUnserved_49 : decode cX3_largestUnserved 49 = .ok (.iload_n 1, 1) := by decide +kernel
theorem dX3_largestUnserved_50 : decode cX3_largestUnserved 50 = .ok (.ireturn, 1) := by decide +kernel
theorem dX3_bestKind_0 : decode cX3_bestKind 0 = .ok (.iconst (-1), 1) := by decide +kernel
theorem dX3_bestKind_1 : decode cX3_bestKind 1 = .ok (.istore_n 3, 1) := by decide +kernel
theorem dX3_bestKind_2 : decode cX3_bestKind 2 = .ok (.iconst 0, 1) := by decide +kernel
theorem dX3_bestKind_3 : decode cX3_bestKind 3 = .ok (.istore 4, 2) := by decide +kernel
theorem dX3_bestKind_5 : decode cX3_bestKind 5 = .ok (.iload 4, 2) := by decide +kernel
theorem dX3_bestKind_7 : decode cX3_bestKind 7 = .ok (.aload_n 1, 1) := by decide +kernel
theorem dX3_bestKind_8 : decode cX3_bestKind 8 = .ok (.getfield 85, 3) := by decide +kernel
theorem dX3_bestKind_11 : decode cX3_bestKind 11 = .ok (.if_icmp .ge 70, 3) := by decide +kernel
theorem dX3_bestKind_14 : decode cX3_bestKind 14 = .ok (.aload_n 0, 1) := by decide +kernel
theorem dX3_bestKind_15 : decode cX3_bestKind 15 = .ok (.getfield 22, 3) := by decide +kernel
theorem dX3_bestKind_18 : decode cX3_bestKind 18 = .ok (.iload 4, 2) := by decide +kernel
theorem dX3_bestKind_20 : decode cX3_bestKind 20 = .ok (.iaload, 1) := by decide +kernel
theorem dX3_bestKind_21 : decode cX3_bestKind 21 = .ok (.ifCond .le 22, 3) := by decide +kernel
theorem dX3_bestKind_24 : decode cX3_bestKind 24 = .ok (.sipush 1000, 3) := by decide +kernel
theorem dX3_bestKind_27 : decode cX3_bestKind 27 = .ok (.aload_n 1, 1) := by decide +kernel
theorem dX3_bestKind_28 : decode cX3_bestKind 28 = .ok (.getfield 104, 3) := by decide +kernel
theorem dX3_bestKind_31 : decode cX3_bestKind 31 = .ok (.iload 4, 2) := by decide +kernel
theorem dX3_bestKind_33 : decode cX3_bestKind 33 = .ok (.iaload, 1) := by decide +kernel
theorem dX3_bestKind_34 : decode cX3_bestKind 34 = .ok (.imul, 1) := by decide +kernel
theorem dX3_bestKind_35 : decode cX3_bestKind 35 = .ok (.iload_n 2, 1) := by decide +kernel
theorem dX3_bestKind_36 : decode cX3_bestKind 36 = .ok (.if_icmp .gt 7, 3) := by decide +kernel
theorem dX3_bestKind_39 : decode cX3_bestKind 39 = .ok (.iconst 1, 1) := by decide +kernel
theorem dX3_bestKind_40 : decode cX3_bestKind 40 = .ok (.goto 4, 3) := by decide +kernel
theorem dX3_bestKind_43 : decode cX3_bestKind 43 = .ok (.iconst 0, 1) := by decide +kernel
theorem dX3_bestKind_44 : decode cX3_bestKind 44 = .ok (.istore 5, 2) := by decide +kernel
theorem dX3_bestKind_46 : decode cX3_bestKind 46 = .ok (.iload 5, 2) := by decide +kernel
theorem dX3_bestKind_48 : decode cX3_bestKind 48 = .ok (.ifCond .eq 27, 3) := by decide +kernel
theorem dX3_bestKind_51 : decode cX3_bestKind 51 = .ok (.iload_n 3, 1) := by decide +kernel
theorem dX3_bestKind_52 : decode cX3_bestKind 52 = .ok (.iconst (-1), 1) := by decide +kernel
theorem dX3_bestKind_53 : decode cX3_bestKind 53 = .ok (.if_icmp .eq 19, 3) := by decide +kernel
theorem dX3_bestKind_56 : decode cX3_bestKind 56 = .ok (.aload_n 1, 1) := by decide +kernel
theorem dX3_bestKind_57 : decode cX3_bestKind 57 = .ok (.getfield 107, 3) := by decide +kernel
theorem dX3_bestKind_60 : decode cX3_bestKind 60 = .ok (.iload 4, 2) := by decide +kernel
theorem dX3_bestKind_62 : decode cX3_bestKind 62 = .ok (.iaload, 1) := by decide +kernel
theorem dX3_bestKind_63 : decode cX3_bestKind 63 = .ok (.aload_n 1, 1) := by decide +kernel
theorem dX3_bestKind_64 : decode cX3_bestKind 64 = .ok (.getfield 107, 3) := by decide +kernel
theorem dX3_bestKind_67 : decode cX3_bestKind 67 = .ok (.iload_n 3, 1) := by decide +kernel
theorem dX3_bestKind_68 : decode cX3_bestKind 68 = .ok (.iaload, 1) := by decide +kernel
theorem dX3_bestKind_69 : decode cX3_bestKind 69 = .ok (.if_icmp .le 6, 3) := by decide +kernel
theorem dX3_bestKind_72 : decode cX3_bestKind 72 = .ok (.iload 4, 2) := by decide +kernel
theorem dX3_bestKind_74 : decode cX3_bestKind 74 = .ok (.istore_n 3, 1) := by decide +kernel
theorem dX3_bestKind_75 : decode cX3_bestKind 75 = .ok (.iinc 4 1, 3) := by decide +kernel
theorem dX3_bestKind_78 : decode cX3_bestKind 78 = .ok (.goto (-73), 3) := by decide +kernel
theorem dX3_bestKind_81 : decode cX3_bestKind 81 = .ok (.iload_n 3, 1) := by decide +kernel
theorem dX3_bestKind_82 : decode cX3_bestKind 82 = .ok (.ireturn, 1) := by decide +kernel
theorem dX3_worthOfFillings_0 : decode cX3_worthOfFillings 0 = .ok (.iconst 0, 1) := by decide +kernel
theorem dX3_worthOfFillings_1 : decode cX3_worthOfFillings 1 = .ok (.istore_n 2, 1) := by decide +kernel
theorem dX3_worthOfFillings_2 : decode cX3_worthOfFillings 2 = .ok (.iconst 0, 1) := by decide +kernel
theorem dX3_worthOfFillings_3 : decode cX3_worthOfFillings 3 = .ok (.istore_n 3, 1) := by decide +kernel
theorem dX3_worthOfFillings_4 : decode cX3_worthOfFillings 4 = .ok (.iload_n 3, 1) := by decide +kernel
theorem dX3_worthOfFillings_5 : decode cX3_worthOfFillings 5 = .ok (.aload_n 0, 1) := by decide +kernel
theorem dX3_worthOfFillings_6 : decode cX3_worthOfFillings 6 = .ok (.getfield 25, 3) := by decide +kernel
theorem dX3_worthOfFillings_9 : decode cX3_worthOfFillings 9 = .ok (.if_icmp .ge 33, 3) := by decide +kernel
theorem dX3_worthOfFillings_12 : decode cX3_worthOfFillings 12 = .ok (.aload_n 0, 1) := by decide +kernel
theorem dX3_worthOfFillings_13 : decode cX3_worthOfFillings 13 = .ok (.getfield 15, 3) := by decide +kernel
theorem dX3_worthOfFillings_16 : decode cX3_worthOfFillings 16 = .ok (.iload_n 3, 1) := by decide +kernel
theorem dX3_worthOfFillings_17 : decode cX3_worthOfFillings 17 = .ok (.iaload, 1) := by decide +kernel
theorem dX3_worthOfFillings_18 : decode cX3_worthOfFillings 18 = .ok (.iconst (-1), 1) := by decide +kernel
theorem dX3_worthOfFillings_19 : decode cX3_worthOfFillings 19 = .ok (.if_icmp .eq 17, 3) := by decide +kernel
theorem dX3_worthOfFillings_22 : decode cX3_worthOfFillings 22 = .ok (.iload_n 2, 1) := by decide +kernel
theorem dX3_worthOfFillings_23 : decode cX3_worthOfFillings 23 = .ok (.aload_n 1, 1) := by decide +kernel
theorem dX3_worthOfFillings_24 : decode cX3_worthOfFillings 24 = .ok (.getfield 107, 3) := by decide +kernel
theorem dX3_worthOfFillings_27 : decode cX3_worthOfFillings 27 = .ok (.aload_n 0, 1) := by decide +kernel
theorem dX3_worthOfFillings_28 : decode cX3_worthOfFillings 28 = .ok (.getfield 15, 3) := by decide +kernel
theorem dX3_worthOfFillings_31 : decode cX3_worthOfFillings 31 = .ok (.iload_n 3, 1) := by decide +kernel
theorem dX3_worthOfFillings_32 : decode cX3_worthOfFillings 32 = .ok (.iaload, 1) := by decide +kernel
theorem dX3_worthOfFillings_33 : decode cX3_worthOfFillings 33 = .ok (.iaload, 1) := by decide +kernel
theorem dX3_worthOfFillings_34 : decode cX3_worthOfFillings 34 = .ok (.iadd, 1) := by decide +kernel
theorem dX3_worthOfFillings_35 : decode cX3_worthOfFillings 35 = .ok (.istore_n 2, 1) := by decide +kernel
theorem dX3_worthOfFillings_36 : decode cX3_worthOfFillings 36 = .ok (.iinc 3 1, 3) := by decide +kernel
theorem dX3_worthOfFillings_39 : decode cX3_worthOfFillings 39 = .ok (.goto (-35), 3) := by decide +kernel
theorem dX3_worthOfFillings_42 : decode cX3_worthOfFillings 42 = .ok (.iload_n 2, 1) := by decide +kernel
theorem dX3_worthOfFillings_43 : decode cX3_worthOfFillings 43 = .ok (.ireturn, 1) := by decide +kernel
theorem dX4_init_0 : decode cX4_init 0 = .ok (.aload_n 0, 1) := by decide +kernel
theorem dX4_init_1 : decode cX4_init 1 = .ok (.invokespecial 3, 3) := by decide +kernel
theorem dX4_init_4 : decode cX4_init 4 = .ok (.aload_n 0, 1) := by decide +kernel
theorem dX4_init_5 : decode cX4_init 5 = .ok (.bipush 20, 2) := by decide +kernel
theorem dX4_init_7 : decode cX4_init 7 = .ok (.newarray .int, 2) := by decide +kernel
theorem dX4_init_9 : decode cX4_init 9 = .ok (.putfield 9, 3) := by decide +kernel
theorem dX4_init_12 : decode cX4_init 12 = .ok (.aload_n 0, 1) := by decide +kernel
theorem dX4_init_13 : decode cX4_init 13 = .ok (.bipush 20, 2) := by decide +kernel
theorem dX4_init_15 : decode cX4_init 15 = .ok (.newarray .boolean, 2) := by decide +kernel
theorem dX4_init_17 : decode cX4_init 17 = .ok (.putfield 15, 3) := by decide +kernel
theorem dX4_init_20 : decode cX4_init 20 = .ok (.aload_n 0, 1) := by decide +kernel
theorem dX4_init_21 : decode cX4_init 21 = .ok (.bipush 20, 2) := by decide +kernel
theorem dX4_init_23 : decode cX4_init 23 = .ok (.newarray .int, 2) := by decide +kernel
theorem dX4_init_25 : decode cX4_init 25 = .ok (.putfield 19, 3) := by decide +kernel
theorem dX4_init_28 : decode cX4_init 28 = .ok (.aload_n 0, 1) := by decide +kernel
theorem dX4_init_29 : decode cX4_init 29 = .ok (.bipush 26, 2) := by decide +kernel
theorem dX4_init_31 : decode cX4_init 31 = .ok (.newarray .int, 2) := by decide +kernel
theorem dX4_init_33 : decode cX4_init 33 = .ok (.putfield 22, 3) := by decide +kernel
theorem dX4_init_36 : decode cX4_init 36 = .ok (.aload_n 0, 1) := by decide +kernel
theorem dX4_init_37 : decode cX4_init 37 = .ok (.invokevirtual 25, 3) := by decide +kernel
theorem dX4_init_40 : decode cX4_init 40 = .ok (.return_, 1) := by decide +kernel
theorem dX4_clear_0 : decode cX4_clear 0 = .ok (.aload_n 0, 1) := by decide +kernel
theorem dX4_clear_1 : decode cX4_clear 1 = .ok (.iconst 0, 1) := by decide +kernel
theorem dX4_clear_2 : decode cX4_clear 2 = .ok (.putfield 28, 3) := by decide +kernel
theorem dX4_clear_5 : decode cX4_clear 5 = .ok (.iconst 0, 1) := by decide +kernel
theorem dX4_clear_6 : decode cX4_clear 6 = .ok (.istore_n 1, 1) := by decide +kernel
theorem dX4_clear_7 : decode cX4_clear 7 = .ok (.iload_n 1, 1) := by decide +kernel
theorem dX4_clear_8 : decode cX4_clear 8 = .ok (.bipush 26, 2) := by decide +kernel
theorem dX4_clear_10 : decode cX4_clear 10 = .ok (.if_icmp .ge 16, 3) := by decide +kernel
theorem dX4_clear_13 : decode cX4_clear 13 = .ok (.aload_n 0, 1) := by decide +kernel
theorem dX4_clear_14 : decode cX4_clear 14 = .ok (.getfield 22, 3) := by decide +kernel
theorem dX4_clear_17 : decode cX4_clear 17 = .ok (.iload_n 1, 1) := by decide +kernel
theorem dX4_clear_18 : decode cX4_clear 18 = .ok (.iconst 4, 1) := by decide +kernel
theorem dX4_clear_19 : decode cX4_clear 19 = .ok (.iastore, 1) := by decide +kernel
theorem dX4_clear_20 : decode cX4_clear 20 = .ok (.iinc 1 1, 3) := by decide +kernel
theorem dX4_clear_23 : decode cX4_clear 23 = .ok (.goto (-16), 3) := by decide +kernel
theorem dX4_clear_26 : decode cX4_clear 26 = .ok (.return_, 1) := by decide +kernel
theorem dX4_copyFrom_0 : decode cX4_copyFrom 0 = .ok (.aload_n 0, 1) := by decide +kernel
theorem dX4_copyFrom_1 : decode cX4_copyFrom 1 = .ok (.aload_n 1, 1) := by decide +kernel
theorem dX4_copyFrom_2 : decode cX4_copyFrom 2 = .ok (.getfield 28, 3) := by decide +kernel
theorem dX4_copyFrom_5 : decode cX4_copyFrom 5 = .ok (.putfield 28, 3) := by decide +kernel
theorem dX4_copyFrom_8 : decode cX4_copyFrom 8 = .ok (.iconst 0, 1) := by decide +kernel
theorem dX4_copyFrom_9 : decode cX4_copyFrom 9 = .ok (.istore_n 2, 1) := by decide +kernel
theorem dX4_copyFrom_10 : decode cX4_copyFrom 10 = .ok (.iload_n 2, 1) := by decide +kernel
theorem dX4_copyFrom_11 : decode cX4_copyFrom 11 = .ok (.aload_n 0, 1) := by decide +kernel
theorem dX4_copyFrom_12 : decode cX4_copyFrom 12 = .ok (.getfield 28, 3) := by decide +kernel
theorem dX4_copyFrom_15 : decode cX4_copyFrom 15 = .ok (.if_icmp .ge 45, 3) := by decide +kernel
theorem dX4_copyFrom_18 : decode cX4_copyFrom 18 = .ok (.aload_n 0, 1) := by decide +kernel
theorem dX4_copyFrom_19 : decode cX4_copyFrom 19 = .ok (.getfield 9, 3) := by decide +kernel
theorem dX4_copyFrom_22 : decode cX4_copyFrom 22 = .ok (.iload_n 2, 1) := by decide +kernel
theorem dX4_copyFrom_23 : decode cX4_copyFrom 23 = .ok (.aload_n 1, 1) := by decide +kernel
theorem dX4_copyFrom_24 : decode cX4_copyFrom 24 = .ok (.getfield 9, 3) := by decide +kernel
theorem dX4_copyFrom_27 : decode cX4_copyFrom 27 = .ok (.iload_n 2, 1) := by decide +kernel
theorem dX4_copyFrom_28 : decode cX4_copyFrom 28 = .ok (.iaload, 1) := by decide +kernel
theorem dX4_copyFrom_29 : decode cX4_copyFrom 29 = .ok (.iastore, 1) := by decide +kernel
theorem dX4_copyFrom_30 : decode cX4_copyFrom 30 = .ok (.aload_n 0, 1) := by decide +kernel
theorem dX4_copyFrom_31 : decode cX4_copyFrom 31 = .ok (.getfield 15, 3) := by decide +kernel
theorem dX4_copyFrom_34 : decode cX4_copyFrom 34 = .ok (.iload_n 2, 1) := by decide +kernel
theorem dX4_copyFrom_35 : decode cX4_copyFrom 35 = .ok (.aload_n 1, 1) := by decide +kernel
theorem dX4_copyFrom_36 : decode cX4_copyFrom 36 = .ok (.getfield 15, 3) := by decide +kernel
theorem dX4_copyFrom_39 : decode cX4_copyFrom 39 = .ok (.iload_n 2, 1) := by decide +kernel
theorem dX4_copyFrom_40 : decode cX4_copyFrom 40 = .ok (.baload, 1) := by decide +kernel
theorem dX4_copyFrom_41 : decode cX4_copyFrom 41 = .ok (.bastore, 1) := by decide +kernel
theorem dX4_copyFrom_42 : decode cX4_copyFrom 42 = .ok (.aload_n 0, 1) := by decide +kernel
theorem dX4_copyFrom_43 : decode cX4_copyFrom 43 = .ok (.getfield 19, 3) := by decide +kernel
theorem dX4_copyFrom_46 : decode cX4_copyFrom 46 = .ok (.iload_n 2, 1) := by decide +kernel
theorem dX4_copyFrom_47 : decode cX4_copyFrom 47 = .ok (.aload_n 1, 1) := by decide +kernel
theorem dX4_copyFrom_48 : decode cX4_copyFrom 48 = .ok (.getfield 19, 3) := by decide +kernel
theorem dX4_copyFrom_51 : decode cX4_copyFrom 51 = .ok (.iload_n 2, 1) := by decide +kernel
theorem dX4_copyFrom_52 : decode cX4_copyFrom 52 = .ok (.iaload, 1) := by decide +kernel
theorem dX4_copyFrom_53 : decode cX4_copyFrom 53 = .ok (.iastore, 1) := by decide +kernel
theorem dX4_copyFrom_54 : decode cX4_copyFrom 54 = .ok (.iinc 2 1, 3) := by decide +kernel
theorem dX4_copyFrom_57 : decode cX4_copyFrom 57 = .ok (.goto (-47), 3) := by decide +kernel
theorem dX4_copyFrom_60 : decode cX4_copyFrom 60 = .ok (.iconst 0, 1) := by decide +kernel
theorem dX4_copyFrom_61 : decode cX4_copyFrom 61 = .ok (.istore_n 2, 1) := by decide +kernel
theorem dX4_copyFrom_62 : decode cX4_copyFrom 62 = .ok (.iload_n 2, 1) := by decide +kernel
theorem dX4_copyFrom_63 : decode cX4_copyFrom 63 = .ok (.bipush 26, 2) := by decide +kernel
theorem dX4_copyFrom_65 : decode cX4_copyFrom 65 = .ok (.if_icmp .ge 21, 3) := by decide +kernel
theorem dX4_copyFrom_68 : decode cX4_copyFrom 68 = .ok (.aload_n 0, 1) := by decide +kernel
theorem dX4_copyFrom_69 : decode cX4_copyFrom 69 = .ok (.getfield 22, 3) := by decide +kernel
theorem dX4_copyFrom_72 : decode cX4_copyFrom 72 = .ok (.iload_n 2, 1) := by decide +kernel
theorem dX4_copyFrom_73 : decode cX4_copyFrom 73 = .ok (.aload_n 1, 1) := by decide +kernel
theorem dX4_copyFrom_74 : decode cX4_copyFrom 74 = .ok (.getfield 22, 3) := by decide +kernel
theorem dX4_copyFrom_77 : decode cX4_copyFrom 77 = .ok (.iload_n 2, 1) := by decide +kernel
theorem dX4_copyFrom_78 : decode cX4_copyFrom 78 = .ok (.iaload, 1) := by decide +kernel
theorem dX4_copyFrom_79 : decode cX4_copyFrom 79 = .ok (.iastore, 1) := by decide +kernel
theorem dX4_copyFrom_80 : decode cX4_copyFrom 80 = .ok (.iinc 2 1, 3) := by decide +kernel
theorem dX4_copyFrom_83 : decode cX4_copyFrom 83 = .ok (.goto (-21), 3) := by decide +kernel
theorem dX4_copyFrom_86 : decode cX4_copyFrom 86 = .ok (.return_, 1) := by decide +kernel
theorem dX4_addWord_0 : decode cX4_addWord 0 = .ok (.iload_n 2, 1) := by decide +kernel
theorem dX4_addWord_1 : decode cX4_addWord 1 = .ok (.istore 4, 2) := by decide +kernel
theorem dX4_addWord_3 : decode cX4_addWord 3 = .ok (.iload 4, 2) := by decide +kernel
theorem dX4_addWord_5 : decode cX4_addWord 5 = .ok (.iload_n 3, 1) := by decide +kernel
theorem dX4_addWord_6 : decode cX4_addWord 6 = .ok (.if_icmp .ge 75, 3) := by decide +kernel
theorem dX4_addWord_9 : decode cX4_addWord 9 = .ok (.aload_n 1, 1) := by decide +kernel
theorem dX4_addWord_10 : decode cX4_addWord 10 = .ok (.iload 4, 2) := by decide +kernel
theorem dX4_addWord_12 : decode cX4_addWord 12 = .ok (.invokevirtual 32, 3) := by decide +kernel
theorem dX4_addWord_15 : decode cX4_addWord 15 = .ok (.istore 5, 2) := by decide +kernel
theorem dX4_addWord_17 : decode cX4_addWord 17 = .ok (.aload_n 0, 1) := by decide +kernel
theorem dX4_addWord_18 : decode cX4_addWord 18 = .ok (.getfield 28, 3) := by decide +kernel
theorem dX4_addWord_21 : decode cX4_addWord 21 = .ok (.bipush 20, 2) := by decide +kernel
theorem dX4_addWord_23 : decode cX4_addWord 23 = .ok (.if_icmp .ge 52, 3) := by decide +kernel
theorem dX4_addWord_26 : decode cX4_addWord 26 = .ok (.iload 5, 2) := by decide +kernel
theorem dX4_addWord_28 : decode cX4_addWord 28 = .ok (.invokestatic 38, 3) := by decide +kernel
theorem dX4_addWord_31 : decode cX4_addWord 31 = .ok (.ifCond .eq 44, 3) := by decide +kernel
theorem dX4_addWord_34 : decode cX4_addWord 34 = .ok (.aload_n 0, 1) := by decide +kernel
theorem dX4_addWord_35 : decode cX4_addWord 35 = .ok (.getfield 9, 3) := by decide +kernel
theorem dX4_addWord_38 : decode cX4_addWord 38 = .ok (.aload_n 0, 1) := by decide +kernel
theorem dX4_addWord_39 : decode cX4_addWord 39 = .ok (.getfield 28, 3) := by decide +kernel
theorem dX4_addWord_42 : decode cX4_addWord 42 = .ok (.iload 5, 2) := by decide +kernel
theorem dX4_addWord_44 : decode cX4_addWord 44 = .ok (.iastore, 1) := by decide +kernel
theorem dX4_addWord_45 : decode cX4_addWord 45 = .ok (.aload_n 0, 1) := by decide +kernel
theorem dX4_addWord_46 : decode cX4_addWord 46 = .ok (.getfield 15, 3) := by decide +kernel
theorem dX4_addWord_49 : decode cX4_addWord 49 = .ok (.aload_n 0, 1) := by decide +kernel
theorem dX4_addWord_50 : decode cX4_addWord 50 = .ok (.getfield 28, 3) := by decide +kernel
theorem dX4_addWord_53 : decode cX4_addWord 53 = .ok (.iconst 0, 1) := by decide +kernel
theorem dX4_addWord_54 : decode cX4_addWord 54 = .ok (.bastore, 1) := by decide +kernel
theorem dX4_addWord_55 : decode cX4_addWord 55 = .ok (.aload_n 0, 1) := by decide +kernel
theorem dX4_addWord_56 : decode cX4_addWord 56 = .ok (.getfield 19, 3) := by decide +kernel
theorem dX4_addWord_59 : decode cX4_addWord 59 = .ok (.aload_n 0, 1) := by decide +kernel
theorem dX4_addWord_60 : decode cX4_addWord 60 = .ok (.getfield 28, 3) := by decide +kernel
theorem dX4_addWord_63 : decode cX4_addWord 63 = .ok (.iconst 0, 1) := by decide +kernel
theorem dX4_addWord_64 : decode cX4_addWord 64 = .ok (.iastore, 1) := by decide +kernel
theorem dX4_addWord_65 : decode cX4_addWord 65 = .ok (.aload_n 0, 1) := by decide +kernel
theorem dX4_addWord_66 : decode cX4_addWord 66 = .ok (.dup, 1) := by decide +kernel
theorem dX4_addWord_67 : decode cX4_addWord 67 = .ok (.getfield 28, 3) := by decide +kernel
theorem dX4_addWord_70 : decode cX4_addWord 70 = .ok (.iconst 1, 1) := by decide +kernel
theorem dX4_addWord_71 : decode cX4_addWord 71 = .ok (.iadd, 1) := by decide +kernel
theorem dX4_addWord_72 : decode cX4_addWord 72 = .ok (.putfield 28, 3) := by decide +kernel
theorem dX4_addWord_75 : decode cX4_addWord 75 = .ok (.iinc 4 1, 3) := by decide +kernel
theorem dX4_addWord_78 : decode cX4_addWord 78 = .ok (.goto (-75), 3) := by decide +kernel
theorem dX4_addWord_81 : decode cX4_addWord 81 = .ok (.return_, 1) := by decide +kernel
theorem dX4_widenWord_0 : decode cX4_widenWord 0 = .ok (.iload_n 2, 1) := by decide +kernel
theorem dX4_widenWord_1 : decode cX4_widenWord 1 = .ok (.istore 5, 2) := by decide +kernel
theorem dX4_widenWord_3 : decode cX4_widenWord 3 = .ok (.iload 5, 2) := by decide +kernel
theorem dX4_widenWord_5 : decode cX4_widenWord 5 = .ok (.iload_n 3, 1) := by decide +kernel
theorem dX4_widenWord_6 : decode cX4_widenWord 6 = .ok (.if_icmp .ge 34, 3) := by decide +kernel
theorem dX4_widenWord_9 : decode cX4_widenWord 9 = .ok (.aload_n 1, 1) := by decide +kernel
theorem dX4_widenWord_10 : decode cX4_widenWord 10 = .ok (.iload 5, 2) := by decide +kernel
theorem dX4_widenWord_12 : decode cX4_widenWord 12 = .ok (.invokevirtual 32, 3) := by decide +kernel
theorem dX4_widenWord_15 : decode cX4_widenWord 15 = .ok (.istore 6, 2) := by decide +kernel
theorem dX4_widenWord_17 : decode cX4_widenWord 17 = .ok (.iload 6, 2) := by decide +kernel
theorem dX4_widenWord_19 : decode cX4_widenWord 19 = .ok (.invokestatic 38, 3) := by decide +kernel
theorem dX4_widenWord_22 : decode cX4_widenWord 22 = .ok (.ifCond .eq 12, 3) := by decide +kernel
theorem dX4_widenWord_25 : decode cX4_widenWord 25 = .ok (.aload_n 0, 1) := by decide +kernel
theorem dX4_widenWord_26 : decode cX4_widenWord 26 = .ok (.getfield 22, 3) := by decide +kernel
theorem dX4_widenWord_29 : decode cX4_widenWord 29 = .ok (.iload 6, 2) := by decide +kernel
theorem dX4_widenWord_31 : decode cX4_widenWord 31 = .ok (.iload 4, 2) := by decide +kernel
theorem dX4_widenWord_33 : decode cX4_widenWord 33 = .ok (.iastore, 1) := by decide +kernel
theorem dX4_widenWord_34 : decode cX4_widenWord 34 = .ok (.iinc 5 1, 3) := by decide +kernel
theorem dX4_widenWord_37 : decode cX4_widenWord 37 = .ok (.goto (-34), 3) := by decide +kernel
theorem dX4_widenWord_40 : decode cX4_widenWord 40 = .ok (.return_, 1) := by decide +kernel
theorem dX4_partsOf_0 : decode cX4_partsOf 0 = .ok (.sipush 1000, 3) := by decide +kernel
theorem dX4_partsOf_3 : decode cX4_partsOf 3 = .ok (.aload_n 0, 1) := by decide +kernel
theorem dX4_partsOf_4 : decode cX4_partsOf 4 = .ok (.getfield 22, 3) := by decide +kernel
theorem dX4_partsOf_7 : decode cX4_partsOf 7 = .ok (.aload_n 0, 1) := by decide +kernel
theorem dX4_partsOf_8 : decode cX4_partsOf 8 = .ok (.getfield 9, 3) := by decide +kernel
theorem dX4_partsOf_11 : decode cX4_partsOf 11 = .ok (.iload_n 1, 1) := by decide +kernel
theorem dX4_partsOf_12 : decode cX4_partsOf 12 = .ok (.iaload, 1) := by decide +kernel
theorem dX4_partsOf_13 : decode cX4_partsOf 13 = .ok (.iaload, 1) := by decide +kernel
theorem dX4_partsOf_14 : decode cX4_partsOf 14 = .ok (.imul, 1) := by decide +kernel
theorem dX4_partsOf_15 : decode cX4_partsOf 15 = .ok (.ireturn, 1) := by decide +kernel
theorem dX4_strokesOf_0 : decode cX4_strokesOf 0 = .ok (.iconst 1, 1) := by decide +kernel
theorem dX4_strokesOf_1 : decode cX4_strokesOf 1 = .ok (.aload_n 0, 1) := by decide +kernel
theorem dX4_strokesOf_2 : decode cX4_strokesOf 2 = .ok (.getfield 9, 3) := by decide +kernel
theorem dX4_strokesOf_5 : decode cX4_strokesOf 5 = .ok (.iload_n 1, 1) := by decide +kernel
theorem dX4_strokesOf_6 : decode cX4_strokesOf 6 = .ok (.iaload, 1) := by decide +kernel
theorem dX4_strokesOf_7 : decode cX4_strokesOf 7 = .ok (.iconst 4, 1) := by decide +kernel
theorem dX4_strokesOf_8 : decode cX4_strokesOf 8 = .ok (.irem, 1) := by decide +kernel
theorem dX4_strokesOf_9 : decode cX4_strokesOf 9 = .ok (.iadd, 1) := by decide +kernel
theorem dX4_strokesOf_10 : decode cX4_strokesOf 10 = .ok (.ireturn, 1) := by decide +kernel
theorem dX4_engravedLetters_0 : decode cX4_engravedLetters 0 = .ok (.iconst 0, 1) := by decide +kernel
theorem dX4_engravedLetters_1 : decode cX4_engravedLetters 1 = .ok (.istore_n 1, 1) := by decide +kernel
theorem dX4_engravedLetters_2 : decode cX4_engravedLetters 2 = .ok (.iconst 0, 1) := by decide +kernel
theorem dX4_engravedLetters_3 : decode cX4_engravedLetters 3 = .ok (.istore_n 2, 1) := by decide +kernel
theorem dX4_engravedLetters_4 : decode cX4_engravedLetters 4 = .ok (.iload_n 2, 1) := by decide +kernel
theorem dX4_engravedLetters_5 : decode cX4_engravedLetters 5 = .ok (.aload_n 0, 1) := by decide +kernel
theorem dX4_engravedLetters_6 : decode cX4_engravedLetters 6 = .ok (.getfield 28, 3) := by decide +kernel
theorem dX4_engravedLetters_9 : decode cX4_engravedLetters 9 = .ok (.if_icmp .ge 21, 3) := by decide +kernel
theorem dX4_engravedLetters_12 : decode cX4_engravedLetters 12 = .ok (.aload_n 0, 1) := by decide +kernel
theorem dX4_engravedLetters_13 : decode cX4_engravedLetters 13 = .ok (.getfield 15, 3) := by decide +kernel
theorem dX4_engravedLetters_16 : decode cX4_engravedLetters 16 = .ok (.iload_n 2, 1) := by decide +kernel
theorem dX4_engravedLetters_17 : decode cX4_engravedLetters 17 = .ok (.baload, 1) := by decide +kernel
theorem dX4_engravedLetters_18 : decode cX4_engravedLetters 18 = .ok (.ifCond .eq 6, 3) := by decide +kernel
theorem dX4_engravedLetters_21 : decode cX4_engravedLetters 21 = .ok (.iinc 1 1, 3) := by decide +kernel
theorem dX4_engravedLetters_24 : decode cX4_engravedLetters 24 = .ok (.iinc 2 1, 3) := by decide +kernel
theorem dX4_engravedLetters_27 : decode cX4_engravedLetters 27 = .ok (.goto (-23), 3) := by decide +kernel
theorem dX4_engravedLetters_30 : decode cX4_engravedLetters 30 = .ok (.iload_n 1, 1) := by decide +kernel
theorem dX4_engravedLetters_31 : decode cX4_engravedLetters 31 = .ok (.ireturn, 1) := by decide +kernel
theorem dX5_init_0 : decode cX5_init 0 = .ok (.aload_n 0, 1) := by decide +kernel
theorem dX5_init_1 : decode cX5_init 1 = .ok (.invokespecial 3, 3) := by decide +kernel
theorem dX5_init_4 : decode cX5_init 4 = .ok (.aload_n 0, 1) := by decide +kernel
theorem dX5_init_5 : decode cX5_init 5 = .ok (.new 9, 3) := by decide +kernel
theorem dX5_init_8 : decode cX5_init 8 = .ok (.dup, 1) := by decide +kernel
theorem dX5_init_9 : decode cX5_init 9 = .ok (.invokespecial 11, 3) := by decide +kernel
theorem dX5_init_12 : decode cX5_init 12 = .ok (.putfield 12, 3) := by decide +kernel
theorem dX5_init_15 : decode cX5_init 15 = .ok (.aload_n 0, 1) := by decide +kernel
theorem dX5_init_16 : decode cX5_init 16 = .ok (.new 18, 3) := by decide +kernel
theorem dX5_init_19 : decode cX5_init 19 = .ok (.dup, 1) := by decide +kernel
theorem dX5_init_20 : decode cX5_init 20 = .ok (.invokespecial 20, 3) := by decide +kernel
theorem dX5_init_23 : decode cX5_init 23 = .ok (.putfield 21, 3) := by decide +kernel
theorem dX5_init_26 : decode cX5_init 26 = .ok (.aload_n 0, 1) := by decide +kernel
theorem dX5_init_27 : decode cX5_init 27 = .ok (.new 25, 3) := by decide +kernel
theorem dX5_init_30 : decode cX5_init 30 = .ok (.dup, 1) := by decide +kernel
theorem dX5_init_31 : decode cX5_init 31 = .ok (.invokespecial 27, 3) := by decide +kernel
theorem dX5_init_34 : decode cX5_init 34 = .ok (.putfield 28, 3) := by decide +kernel
theorem dX5_init_37 : decode cX5_init 37 = .ok (.aload_n 0, 1) := by decide +kernel
theorem dX5_init_38 : decode cX5_init 38 = .ok (.new 32, 3) := by decide +kernel
theorem dX5_init_41 : decode cX5_init 41 = .ok (.dup, 1) := by decide +kernel
theorem dX5_init_42 : decode cX5_init 42 = .ok (.invokespecial 34, 3) := by decide +kernel
theorem dX5_init_45 : decode cX5_init 45 = .ok (.putfield 35, 3) := by decide +kernel
theorem dX5_init_48 : decode cX5_init 48 = .ok (.aload_n 0, 1) := by decide +kernel
theorem dX5_init_49 : decode cX5_init 49 = .ok (.new 39, 3) := by decide +kernel
theorem dX5_init_52 : decode cX5_init 52 = .ok (.dup, 1) := by decide +kernel
theorem dX5_init_53 : decode cX5_init 53 = .ok (.invokespecial 41, 3) := by decide +kernel
theorem dX5_init_56 : decode cX5_init 56 = .ok (.putfield 42, 3) := by decide +kernel
theorem dX5_init_59 : decode cX5_init 59 = .ok (.aload_n 0, 1) := by decide +kernel
theorem dX5_init_60 : decode cX5_init 60 = .ok (.iconst 1, 1) := by decide +kernel
theorem dX5_init_61 : decode cX5_init 61 = .ok (.putfield 46, 3) := by decide +kernel
theorem dX5_init_64 : decode cX5_init 64 = .ok (.return_, 1) := by decide +kernel
theorem dX5_clear_0 : decode cX5_clear 0 = .ok (.aload_n 0, 1) := by decide +kernel
theorem dX5_clear_1 : decode cX5_clear 1 = .ok (.getfield 12, 3) := by decide +kernel
theorem dX5_clear_4 : decode cX5_clear 4 = .ok (.iconst 0, 1) := by decide +kernel
theorem dX5_clear_5 : decode cX5_clear 5 = .ok (.putfield 50, 3) := by decide +kernel
theorem dX5_clear_8 : decode cX5_clear 8 = .ok (.aload_n 0, 1) := by decide +kernel
theorem dX5_clear_9 : decode cX5_clear 9 = .ok (.getfield 21, 3) := by decide +kernel
theorem dX5_clear_12 : decode cX5_clear 12 = .ok (.invokevirtual 53, 3) := by decide +kernel
theorem dX5_clear_15 : decode cX5_clear 15 = .ok (.aload_n 0, 1) := by decide +kernel
theorem dX5_clear_16 : decode cX5_clear 16 = .ok (.getfield 28, 3) := by decide +kernel
theorem dX5_clear_19 : decode cX5_clear 19 = .ok (.iconst 0, 1) := by decide +kernel
theorem dX5_clear_20 : decode cX5_clear 20 = .ok (.putfield 56, 3) := by decide +kernel
theorem dX5_clear_23 : decode cX5_clear 23 = .ok (.aload_n 0, 1) := by decide +kernel
theorem dX5_clear_24 : decode cX5_clear 24 = .ok (.getfield 35, 3) := by decide +kernel
theorem dX5_clear_27 : decode cX5_clear 27 = .ok (.invokevirtual 59, 3) := by decide +kernel
theorem dX5_clear_30 : decode cX5_clear 30 = .ok (.aload_n 0, 1) := by decide +kernel
theorem dX5_clear_31 : decode cX5_clear 31 = .ok (.getfield 42, 3) := by decide +kernel
theorem dX5_clear_34 : decode cX5_clear 34 = .ok (.iconst 0, 1) := by decide +kernel
theorem dX5_clear_35 : decode cX5_clear 35 = .ok (.putfield 60, 3) := by decide +kernel
theorem dX5_clear_38 : decode cX5_clear 38 = .ok (.aload_n 0, 1) := by decide +kernel
theorem dX5_clear_39 : decode cX5_clear 39 = .ok (.iconst 1, 1) := by decide +kernel
theorem dX5_clear_40 : decode cX5_clear 40 = .ok (.putfield 46, 3) := by decide +kernel
theorem dX5_clear_43 : decode cX5_clear 43 = .ok (.return_, 1) := by decide +kernel
theorem dX5_copyFrom_0 : decode cX5_copyFrom 0 = .ok (.aload_n 0, 1) := by decide +kernel
theorem dX5_copyFrom_1 : decode cX5_copyFrom 1 = .ok (.getfield 12, 3) := by decide +kernel
theorem dX5_copyFrom_4 : decode cX5_copyFrom 4 = .ok (.aload_n 1, 1) := by decide +kernel
theorem dX5_copyFrom_5 : decode cX5_copyFrom 5 = .ok (.getfield 12, 3) := by decide +kernel
theorem dX5_copyFrom_8 : decode cX5_copyFrom 8 = .ok (.invokevirtual 61, 3) := by decide +kernel
theorem dX5_copyFrom_11 : decode cX5_copyFrom 11 = .ok (.aload_n 0, 1) := by decide +kernel
theorem dX5_copyFrom_12 : decode cX5_copyFrom 12 = .ok (.getfield 21, 3) := by decide +kernel
theorem dX5_copyFrom_15 : decode cX5_copyFrom 15 = .ok (.aload_n 1, 1) := by decide +kernel
theorem dX5_copyFrom_16 : decode cX5_copyFrom 16 = .ok (.getfield 21, 3) := by decide +kernel
theorem dX5_copyFrom_19 : decode cX5_copyFrom 19 = .ok (.invokevirtual 65, 3) := by decide +kernel
theorem dX5_copyFrom_22 : decode cX5_copyFrom 22 = .ok (.aload_n 0, 1) := by decide +kernel
theorem dX5_copyFrom_23 : decode cX5_copyFrom 23 = .ok (.getfield 28, 3) := by decide +kernel
theorem dX5_copyFrom_26 : decode cX5_copyFrom 26 = .ok (.aload_n 1, 1) := by decide +kernel
theorem dX5_copyFrom_27 : decode cX5_copyFrom 27 = .ok (.getfield 28, 3) := by decide +kernel
theorem dX5_copyFrom_30 : decode cX5_copyFrom 30 = .ok (.invokevirtual 68, 3) := by decide +kernel
theorem dX5_copyFrom_33 : decode cX5_copyFrom 33 = .ok (.aload_n 0, 1) := by decide +kernel
theorem dX5_copyFrom_34 : decode cX5_copyFrom 34 = .ok (.getfield 35, 3) := by decide +kernel
theorem dX5_copyFrom_37 : decode cX5_copyFrom 37 = .ok (.aload_n 1, 1) := by decide +kernel
theorem dX5_copyFrom_38 : decode cX5_copyFrom 38 = .ok (.getfield 35, 3) := by decide +kernel
theorem dX5_copyFrom_41 : decode cX5_copyFrom 41 = .ok (.invokevirtual 71, 3) := by decide +kernel
theorem dX5_copyFrom_44 : decode cX5_copyFrom 44 = .ok (.aload_n 0, 1) := by decide +kernel
theorem dX5_copyFrom_45 : decode cX5_copyFrom 45 = .ok (.getfield 42, 3) := by decide +kernel
theorem dX5_copyFrom_48 : decode cX5_copyFrom 48 = .ok (.aload_n 1, 1) := by decide +kernel
theorem dX5_copyFrom_49 : decode cX5_copyFrom 49 = .ok (.getfield 42, 3) := by decide +kernel
theorem dX5_copyFrom_52 : decode cX5_copyFrom 52 = .ok (.invokevirtual 74, 3) := by decide +kernel
theorem dX5_copyFrom_55 : decode cX5_copyFrom 55 = .ok (.aload_n 0, 1) := by decide +kernel
theorem dX5_copyFrom_56 : decode cX5_copyFrom 56 = .ok (.aload_n 1, 1) := by decide +kernel
theorem dX5_copyFrom_57 : decode cX5_copyFrom 57 = .ok (.getfield 46, 3) := by decide +kernel
theorem dX5_copyFrom_60 : decode cX5_copyFrom 60 = .ok (.putfield 46, 3) := by decide +kernel
theorem dX5_copyFrom_63 : decode cX5_copyFrom 63 = .ok (.return_, 1) := by decide +kernel
theorem dX5_hasArc_0 : decode cX5_hasArc 0 = .ok (.iload_n 1, 1) := by decide +kernel
theorem dX5_hasArc_1 : decode cX5_hasArc 1 = .ok (.iconst 0, 1) := by decide +kernel
theorem dX5_hasArc_2 : decode cX5_hasArc 2 = .ok (.aload_n 0, 1) := by decide +kernel
theorem dX5_hasArc_3 : decode cX5_hasArc 3 = .ok (.getfield 12, 3) := by decide +kernel
theorem dX5_hasArc_6 : decode cX5_hasArc 6 = .ok (.getfield 50, 3) := by decide +kernel
theorem dX5_hasArc_9 : decode cX5_hasArc 9 = .ok (.iconst 1, 1) := by decide +kernel
theorem dX5_hasArc_10 : decode cX5_hasArc 10 = .ok (.isub, 1) := by decide +kernel
theorem dX5_hasArc_11 : decode cX5_hasArc 11 = .ok (.invokestatic 77, 3) := by decide +kernel
theorem dX5_hasArc_14 : decode cX5_hasArc 14 = .ok (.ireturn, 1) := by decide +kernel
theorem dX5_hasLetter_0 : decode cX5_hasLetter 0 = .ok (.iload_n 1, 1) := by decide +kernel
theorem dX5_hasLetter_1 : decode cX5_hasLetter 1 = .ok (.iconst 0, 1) := by decide +kernel
theorem dX5_hasLetter_2 : decode cX5_hasLetter 2 = .ok (.aload_n 0, 1) := by decide +kernel
theorem dX5_hasLetter_3 : decode cX5_hasLetter 3 = .ok (.getfield 21, 3) := by decide +kernel
theorem dX5_hasLetter_6 : decode cX5_hasLetter 6 = .ok (.getfield 81, 3) := by decide +kernel
theorem dX5_hasLetter_9 : decode cX5_hasLetter 9 = .ok (.iconst 1, 1) := by decide +kernel
theorem dX5_hasLetter_10 : decode cX5_hasLetter 10 = .ok (.isub, 1) := by decide +kernel
theorem dX5_hasLetter_11 : decode cX5_hasLetter 11 = .ok (.invokestatic 77, 3) := by decide +kernel
theorem dX5_hasLetter_14 : decode cX5_hasLetter 14 = .ok (.ireturn, 1) := by decide +kernel
theorem dX5_hasRoom_0 : decode cX5_hasRoom 0 = .ok (.iload_n 1, 1) := by decide +kernel
theorem dX5_hasRoom_1 : decode cX5_hasRoom 1 = .ok (.iconst 0, 1) := by decide +kernel
theorem dX5_hasRoom_2 : decode cX5_hasRoom 2 = .ok (.aload_n 0, 1) := by decide +kernel
theorem dX5_hasRoom_3 : decode cX5_hasRoom 3 = .ok (.getfield 21, 3) := by decide +kernel
theorem dX5_hasRoom_6 : decode cX5_hasRoom 6 = .ok (.getfield 81, 3) := by decide +kernel
theorem dX5_hasRoom_9 : decode cX5_hasRoom 9 = .ok (.invokestatic 77, 3) := by decide +kernel
theorem dX5_hasRoom_12 : decode cX5_hasRoom 12 = .ok (.ireturn, 1) := by decide +kernel
theorem dX5_hasKind_0 : decode cX5_hasKind 0 = .ok (.iload_n 1, 1) := by decide +kernel
theorem dX5_hasKind_1 : decode cX5_hasKind 1 = .ok (.iconst 0, 1) := by decide +kernel
theorem dX5_hasKind_2 : decode cX5_hasKind 2 = .ok (.aload_n 0, 1) := by decide +kernel
theorem dX5_hasKind_3 : decode cX5_hasKind 3 = .ok (.getfield 28, 3) := by decide +kernel
theorem dX5_hasKind_6 : decode cX5_hasKind 6 = .ok (.getfield 56, 3) := by decide +kernel
theorem dX5_hasKind_9 : decode cX5_hasKind 9 = .ok (.iconst 1, 1) := by decide +kernel
theorem dX5_hasKind_10 : decode cX5_hasKind 10 = .ok (.isub, 1) := by decide +kernel
theorem dX5_hasKind_11 : decode cX5_hasKind 11 = .ok (.invokestatic 77, 3) := by decide +kernel
theorem dX5_hasKind_14 : decode cX5_hasKind 14 = .ok (.ireturn, 1) := by decide +kernel
theorem dX5_hasScratch_0 : decode cX5_hasScratch 0 = .ok (.iload_n 1, 1) := by decide +kernel
theorem dX5_hasScratch_1 : decode cX5_hasScratch 1 = .ok (.iconst 0, 1) := by decide +kernel
theorem dX5_hasScratch_2 : decode cX5_hasScratch 2 = .ok (.aload_n 0, 1) := by decide +kernel
theorem dX5_hasScratch_3 : decode cX5_hasScratch 3 = .ok (.getfield 42, 3) := by decide +kernel
theorem dX5_hasScratch_6 : decode cX5_hasScratch 6 = .ok (.getfield 60, 3) := by decide +kernel
theorem dX5_hasScratch_9 : decode cX5_hasScratch 9 = .ok (.iconst 1, 1) := by decide +kernel
theorem dX5_hasScratch_10 : decode cX5_hasScratch 10 = .ok (.isub, 1) := by decide +kernel
theorem dX5_hasScratch_11 : decode cX5_hasScratch 11 = .ok (.invokestatic 77, 3) := by decide +kernel
theorem dX5_hasScratch_14 : decode cX5_hasScratch 14 = .ok (.ireturn, 1) := by decide +kernel
theorem dX5_canHaveMargin_0 : decode cX5_canHaveMargin 0 = .ok (.iload_n 0, 1) := by decide +kernel
theorem dX5_canHaveMargin_1 : decode cX5_canHaveMargin 1 = .ok (.iconst 0, 1) := by decide +kernel
theorem dX5_canHaveMargin_2 : decode cX5_canHaveMargin 2 = .ok (.bipush 99, 2) := by decide +kernel
theorem dX5_canHaveMargin_4 : decode cX5_canHaveMargin 4 = .ok (.invokestatic 77, 3) := by decide +kernel
theorem dX5_canHaveMargin_7 : decode cX5_canHaveMargin 7 = .ok (.ireturn, 1) := by decide +kernel
theorem dX5_centreTurn_0 : decode cX5_centreTurn 0 = .ok (.aload_n 0, 1) := by decide +kernel
theorem dX5_centreTurn_1 : decode cX5_centreTurn 1 = .ok (.getfield 21, 3) := by decide +kernel
theorem dX5_centreTurn_4 : decode cX5_centreTurn 4 = .ok (.getfield 81, 3) := by decide +kernel
theorem dX5_centreTurn_7 : decode cX5_centreTurn 7 = .ok (.istore_n 2, 1) := by decide +kernel
theorem dX5_centreTurn_8 : decode cX5_centreTurn 8 = .ok (.iload_n 2, 1) := by decide +kernel
theorem dX5_centreTurn_9 : decode cX5_centreTurn 9 = .ok (.ifCond .le 30, 3) := by decide +kernel
theorem dX5_centreTurn_12 : decode cX5_centreTurn 12 = .ok (.iconst 2, 1) := by decide +kernel
theorem dX5_centreTurn_13 : decode cX5_centreTurn 13 = .ok (.iload_n 1, 1) := by decide +kernel
theorem dX5_centreTurn_14 : decode cX5_centreTurn 14 = .ok (.imul, 1) := by decide +kernel
theorem dX5_centreTurn_15 : decode cX5_centreTurn 15 = .ok (.iconst 1, 1) := by decide +kernel
theorem dX5_centreTurn_16 : decode cX5_centreTurn 16 = .ok (.iadd, 1) := by decide +kernel
theorem dX5_centreTurn_17 : decode cX5_centreTurn 17 = .ok (.aload_n 0, 1) := by decide +kernel
theorem dX5_centreTurn_18 : decode cX5_centreTurn 18 = .ok (.getfield 12, 3) := by decide +kernel
theorem dX5_centreTurn_21 : decode cX5_centreTurn 21 = .ok (.aload_n 0, 1) := by decide +kernel
theorem dX5_centreTurn_22 : decode cX5_centreTurn 22 = .ok (.getfield 12, 3) := by decide +kernel
theorem dX5_centreTurn_25 : decode cX5_centreTurn 25 = .ok (.getfield 50, 3) := by decide +kernel
theorem dX5_centreTurn_28 : decode cX5_centreTurn 28 = .ok (.invokevirtual 84, 3) := by decide +kernel
theorem dX5_centreTurn_31 : decode cX5_centreTurn 31 = .ok (.imul, 1) := by decide +kernel
theorem dX5_centreTurn_32 : decode cX5_centreTurn 32 = .ok (.iconst 2, 1) := by decide +kernel
theorem dX5_centreTurn_33 : decode cX5_centreTurn 33 = .ok (.iload_n 2, 1) := by decide +kernel
theorem dX5_centreTurn_34 : decode cX5_centreTurn 34 = .ok (.imul, 1) := by decide +kernel
theorem dX5_centreTurn_35 : decode cX5_centreTurn 35 = .ok (.idiv, 1) := by decide +kernel
theorem dX5_centreTurn_36 : decode cX5_centreTurn 36 = .ok (.goto 4, 3) := by decide +kernel
theorem dX5_centreTurn_39 : decode cX5_centreTurn 39 = .ok (.iconst 0, 1) := by decide +kernel
theorem dX5_centreTurn_40 : decode cX5_centreTurn 40 = .ok (.ireturn, 1) := by decide +kernel
theorem dX5_centreParts_0 : decode cX5_centreParts 0 = .ok (.aload_n 0, 1) := by decide +kernel
theorem dX5_centreParts_1 : decode cX5_centreParts 1 = .ok (.getfield 12, 3) := by decide +kernel
theorem dX5_centreParts_4 : decode cX5_centreParts 4 = .ok (.aload_n 0, 1) := by decide +kernel
theorem dX5_centreParts_5 : decode cX5_centreParts 5 = .ok (.iload_n 1, 1) := by decide +kernel
theorem dX5_centreParts_6 : decode cX5_centreParts 6 = .ok (.invokevirtual 88, 3) := by decide +kernel
theorem dX5_centreParts_9 : decode cX5_centreParts 9 = .ok (.invokevirtual 91, 3) := by decide +kernel
theorem dX5_centreParts_12 : decode cX5_centreParts 12 = .ok (.ireturn, 1) := by decide +kernel
theorem dX5_leftEdge_0 : decode cX5_leftEdge 0 = .ok (.aload_n 0, 1) := by decide +kernel
theorem dX5_leftEdge_1 : decode cX5_leftEdge 1 = .ok (.iload_n 1, 1) := by decide +kernel
theorem dX5_leftEdge_2 : decode cX5_leftEdge 2 = .ok (.invokevirtual 94, 3) := by decide +kernel
theorem dX5_leftEdge_5 : decode cX5_leftEdge 5 = .ok (.aload_n 0, 1) := by decide +kernel
theorem dX5_leftEdge_6 : decode cX5_leftEdge 6 = .ok (.getfield 21, 3) := by decide +kernel
theorem dX5_leftEdge_9 : decode cX5_leftEdge 9 = .ok (.iload_n 1, 1) := by decide +kernel
theorem dX5_leftEdge_10 : decode cX5_leftEdge 10 = .ok (.invokevirtual 97, 3) := by decide +kernel
theorem dX5_leftEdge_13 : decode cX5_leftEdge 13 = .ok (.iconst 2, 1) := by decide +kernel
theorem dX5_leftEdge_14 : decode cX5_leftEdge 14 = .ok (.idiv, 1) := by decide +kernel
theorem dX5_leftEdge_15 : decode cX5_leftEdge 15 = .ok (.isub, 1) := by decide +kernel
theorem dX5_leftEdge_16 : decode cX5_leftEdge 16 = .ok (.ireturn, 1) := by decide +kernel
theorem dX5_rightEdge_0 : decode cX5_rightEdge 0 = .ok (.aload_n 0, 1) := by decide +kernel
theorem dX5_rightEdge_1 : decode cX5_rightEdge 1 = .ok (.iload_n 1, 1) := by decide +kernel
theorem dX5_rightEdge_2 : decode cX5_rightEdge 2 = .ok (.invokevirtual 94, 3) := by decide +kernel
theorem dX5_rightEdge_5 : decode cX5_rightEdge 5 = .ok (.aload_n 0, 1) := by decide +kernel
theorem dX5_rightEdge_6 : decode cX5_rightEdge 6 = .ok (.getfield 21, 3) := by decide +kernel
theorem dX5_rightEdge_9 : decode cX5_rightEdge 9 = .ok (.iload_n 1, 1) := by decide +kernel
theorem dX5_rightEdge_10 : decode cX5_rightEdge 10 = .ok (.invokevirtual 97, 3) := by decide +kernel
theorem dX5_rightEdge_13 : decode cX5_rightEdge 13 = .ok (.iconst 2, 1) := by decide +kernel
theorem dX5_rightEdge_14 : decode cX5_rightEdge 14 = .ok (.idiv, 1) := by decide +kernel
theorem dX5_rightEdge_15 : decode cX5_rightEdge 15 = .ok (.iadd, 1) := by decide +kernel
theorem dX5_rightEdge_16 : decode cX5_rightEdge 16 = .ok (.ireturn, 1) := by decide +kernel
theorem dX5_arcUnder_0 : decode cX5_arcUnder 0 = .ok (.aload_n 0, 1) := by decide +kernel
theorem dX5_arcUnder_1 : decode cX5_arcUnder 1 = .ok (.getfield 12, 3) := by decide +kernel
theorem dX5_arcUnder_4 : decode cX5_arcUnder 4 = .ok (.aload_n 0, 1) := by decide +kernel
theorem dX5_arcUnder_5 : decode cX5_arcUnder 5 = .ok (.iload_n 1, 1) := by decide +kernel
theorem dX5_arcUnder_6 : decode cX5_arcUnder 6 = .ok (.invokevirtual 88, 3) := by decide +kernel
theorem dX5_arcUnder_9 : decode cX5_arcUnder 9 = .ok (.invokevirtual 100, 3) := by decide +kernel
theorem dX5_arcUnder_12 : decode cX5_arcUnder 12 = .ok (.ireturn, 1) := by decide +kernel
theorem dX5_hardnessUnder_0 : decode cX5_hardnessUnder 0 = .ok (.aload_n 0, 1) := by decide +kernel
theorem dX5_hardnessUnder_1 : decode cX5_hardnessUnder 1 = .ok (.getfield 12, 3) := by decide +kernel
theorem dX5_hardnessUnder_4 : decode cX5_hardnessUnder 4 = .ok (.aload_n 0, 1) := by decide +kernel
theorem dX5_hardnessUnder_5 : decode cX5_hardnessUnder 5 = .ok (.iload_n 1, 1) := by decide +kernel
theorem dX5_hardnessUnder_6 : decode cX5_hardnessUnder 6 = .ok (.invokevirtual 88, 3) := by decide +kernel
theorem dX5_hardnessUnder_9 : decode cX5_hardnessUnder 9 = .ok (.invokevirtual 103, 3) := by decide +kernel
theorem dX5_hardnessUnder_12 : decode cX5_hardnessUnder 12 = .ok (.ireturn, 1) := by decide +kernel
theorem dX5_slipsBy_0 : decode cX5_slipsBy 0 = .ok (.aload_n 1, 1) := by decide +kernel
theorem dX5_slipsBy_1 : decode cX5_slipsBy 1 = .ok (.getfield 109, 3) := by decide +kernel
theorem dX5_slipsBy_4 : decode cX5_slipsBy 4 = .ok (.istore_n 2, 1) := by decide +kernel
theorem dX5_slipsBy_5 : decode cX5_slipsBy 5 = .ok (.iconst 0, 1) := by decide +kernel
theorem dX5_slipsBy_6 : decode cX5_slipsBy 6 = .ok (.istore_n 3, 1) := by decide +kernel
theorem dX5_slipsBy_7 : decode cX5_slipsBy 7 = .ok (.iload_n 3, 1) := by decide +kernel
theorem dX5_slipsBy_8 : decode cX5_slipsBy 8 = .ok (.aload_n 0, 1) := by decide +kernel
theorem dX5_slipsBy_9 : decode cX5_slipsBy 9 = .ok (.getfield 21, 3) := by decide +kernel
theorem dX5_slipsBy_12 : decode cX5_slipsBy 12 = .ok (.getfield 81, 3) := by decide +kernel
theorem dX5_slipsBy_15 : decode cX5_slipsBy 15 = .ok (.if_icmp .ge 65, 3) := by decide +kernel
theorem dX5_slipsBy_18 : decode cX5_slipsBy 18 = .ok (.aload_n 0, 1) := by decide +kernel
theorem dX5_slipsBy_19 : decode cX5_slipsBy 19 = .ok (.iload_n 3, 1) := by decide +kernel
theorem dX5_slipsBy_20 : decode cX5_slipsBy 20 = .ok (.invokevirtual 112, 3) := by decide +kernel
theorem dX5_slipsBy_23 : decode cX5_slipsBy 23 = .ok (.istore 4, 2) := by decide +kernel
theorem dX5_slipsBy_25 : decode cX5_slipsBy 25 = .ok (.aload_n 0, 1) := by decide +kernel
theorem dX5_slipsBy_26 : decode cX5_slipsBy 26 = .ok (.getfield 21, 3) := by decide +kernel
theorem dX5_slipsBy_29 : decode cX5_slipsBy 29 = .ok (.getfield 115, 3) := by decide +kernel
theorem dX5_slipsBy_32 : decode cX5_slipsBy 32 = .ok (.iload_n 3, 1) := by decide +kernel
theorem dX5_slipsBy_33 : decode cX5_slipsBy 33 = .ok (.baload, 1) := by decide +kernel
theorem dX5_slipsBy_34 : decode cX5_slipsBy 34 = .ok (.ifCond .eq 7, 3) := by decide +kernel
theorem dX5_slipsBy_37 : decode cX5_slipsBy 37 = .ok (.iconst 0, 1) := by decide +kernel
theorem dX5_slipsBy_38 : decode cX5_slipsBy 38 = .ok (.goto 11, 3) := by decide +kernel
theorem dX5_slipsBy_41 : decode cX5_slipsBy 41 = .ok (.aload_n 0, 1) := by decide +kernel
theorem dX5_slipsBy_42 : decode cX5_slipsBy 42 = .ok (.getfield 21, 3) := by decide +kernel
theorem dX5_slipsBy_45 : decode cX5_slipsBy 45 = .ok (.iload_n 3, 1) := by decide +kernel
theorem dX5_slipsBy_46 : decode cX5_slipsBy 46 = .ok (.invokevirtual 119, 3) := by decide +kernel
theorem dX5_slipsBy_49 : decode cX5_slipsBy 49 = .ok (.istore 5, 2) := by decide +kernel
theorem dX5_slipsBy_51 : decode cX5_slipsBy 51 = .ok (.iconst 0, 1) := by decide +kernel
theorem dX5_slipsBy_52 : decode cX5_slipsBy 52 = .ok (.istore 6, 2) := by decide +kernel
theorem dX5_slipsBy_54 : decode cX5_slipsBy 54 = .ok (.iload 6, 2) := by decide +kernel
theorem dX5_slipsBy_56 : decode cX5_slipsBy 56 = .ok (.iload 5, 2) := by decide +kernel
theorem dX5_slipsBy_58 : decode cX5_slipsBy 58 = .ok (.if_icmp .ge 16, 3) := by decide +kernel
theorem dX5_slipsBy_61 : decode cX5_slipsBy 61 = .ok (.aload_n 1, 1) := by decide +kernel
theorem dX5_slipsBy_62 : decode cX5_slipsBy 62 = .ok (.iload 4, 2) := by decide +kernel
theorem dX5_slipsBy_64 : decode cX5_slipsBy 64 = .ok (.invokevirtual 122, 3) := by decide +kernel
theorem dX5_slipsBy_67 : decode cX5_slipsBy 67 = .ok (.pop, 1) := by decide +kernel
theorem dX5_slipsBy_68 : decode cX5_slipsBy 68 = .ok (.iinc 6 1, 3) := by decide +kernel
theorem dX5_slipsBy_71 : decode cX5_slipsBy 71 = .ok (.goto (-17), 3) := by decide +kernel
theorem dX5_slipsBy_74 : decode cX5_slipsBy 74 = .ok (.iinc 3 1, 3) := by decide +kernel
theorem dX5_slipsBy_77 : decode cX5_slipsBy 77 = .ok (.goto (-70), 3) := by decide +kernel
theorem dX5_slipsBy_80 : decode cX5_slipsBy 80 = .ok (.aload_n 1, 1) := by decide +kernel
theorem dX5_slipsBy_81 : decode cX5_slipsBy 81 = .ok (.getfield 109, 3) := by decide +kernel
theorem dX5_slipsBy_84 : decode cX5_slipsBy 84 = .ok (.iload_n 2, 1) := by decide +kernel
theorem dX5_slipsBy_85 : decode cX5_slipsBy 85 = .ok (.isub, 1) := by decide +kernel
theorem dX5_slipsBy_86 : decode cX5_slipsBy 86 = .ok (.ireturn, 1) := by decide +kernel
theorem dX5_canEngraveAny_0 : decode cX5_canEngraveAny 0 = .ok (.aload_n 0, 1) := by decide +kernel
theorem dX5_canEngraveAny_1 : decode cX5_canEngraveAny 1 = .ok (.getfield 12, 3) := by decide +kernel
theorem dX5_canEngraveAny_4 : decode cX5_canEngraveAny 4 = .ok (.getfield 50, 3) := by decide +kernel
theorem dX5_canEngraveAny_7 : decode cX5_canEngraveAny 7 = .ok (.ifCond .le 19, 3) := by decide +kernel
theorem dX5_canEngraveAny_10 : decode cX5_canEngraveAny 10 = .ok (.aload_n 0, 1) := by decide +kernel
theorem dX5_canEngraveAny_11 : decode cX5_canEngraveAny 11 = .ok (.getfield 42, 3) := by decide +kernel
theorem dX5_canEngraveAny_14 : decode cX5_canEngraveAny 14 = .ok (.getfield 60, 3) := by decide +kernel
theorem dX5_canEngraveAny_17 : decode cX5_canEngraveAny 17 = .ok (.bipush 40, 2) := by decide +kernel
theorem dX5_canEngraveAny_19 : decode cX5_canEngraveAny 19 = .ok (.if_icmp .gt 7, 3) := by decide +kernel
theorem dX5_canEngraveAny_22 : decode cX5_canEngraveAny 22 = .ok (.iconst 1, 1) := by decide +kernel
theorem dX5_canEngraveAny_23 : decode cX5_canEngraveAny 23 = .ok (.goto 4, 3) := by decide +kernel
theorem dX5_canEngraveAny_26 : decode cX5_canEngraveAny 26 = .ok (.iconst 0, 1) := by decide +kernel
theorem dX5_canEngraveAny_27 : decode cX5_canEngraveAny 27 = .ok (.ireturn, 1) := by decide +kernel
theorem dX5_canEngrave_0 : decode cX5_canEngrave 0 = .ok (.aload_n 0, 1) := by decide +kernel
theorem dX5_canEngrave_1 : decode cX5_canEngrave 1 = .ok (.iload_n 1, 1) := by decide +kernel
theorem dX5_canEngrave_2 : decode cX5_canEngrave 2 = .ok (.invokevirtual 125, 3) := by decide +kernel
theorem dX5_canEngrave_5 : decode cX5_canEngrave 5 = .ok (.ifCond .eq 26, 3) := by decide +kernel
theorem dX5_canEngrave_8 : decode cX5_canEngrave 8 = .ok (.aload_n 0, 1) := by decide +kernel
theorem dX5_canEngrave_9 : decode cX5_canEngrave 9 = .ok (.getfield 21, 3) := by decide +kernel
theorem dX5_canEngrave_12 : decode cX5_canEngrave 12 = .ok (.getfield 115, 3) := by decide +kernel
theorem dX5_canEngrave_15 : decode cX5_canEngrave 15 = .ok (.iload_n 1, 1) := by decide +kernel
theorem dX5_canEngrave_16 : decode cX5_canEngrave 16 = .ok (.baload, 1) := by decide +kernel
theorem dX5_canEngrave_17 : decode cX5_canEngrave 17 = .ok (.ifCond .ne 14, 3) := by decide +kernel
theorem dX5_canEngrave_20 : decode cX5_canEngrave 20 = .ok (.aload_n 0, 1) := by decide +kernel
theorem dX5_canEngrave_21 : decode cX5_canEngrave 21 = .ok (.invokevirtual 129, 3) := by decide +kernel
theorem dX5_canEngrave_24 : decode cX5_canEngrave 24 = .ok (.ifCond .eq 7, 3) := by decide +kernel
theorem dX5_canEngrave_27 : decode cX5_canEngrave 27 = .ok (.iconst 1, 1) := by decide +kernel
theorem dX5_canEngrave_28 : decode cX5_canEngrave 28 = .ok (.goto 4, 3) := by decide +kernel
theorem dX5_canEngrave_31 : decode cX5_canEngrave 31 = .ok (.iconst 0, 1) := by decide +kernel
theorem dX5_canEngrave_32 : decode cX5_canEngrave 32 = .ok (.ireturn, 1) := by decide +kernel
theorem dX5_engraveLetter_0 : decode cX5_engraveLetter 0 = .ok (.aload_n 0, 1) := by decide +kernel
theorem dX5_engraveLetter_1 : decode cX5_engraveLetter 1 = .ok (.getfield 42, 3) := by decide +kernel
theorem dX5_engraveLetter_4 : decode cX5_engraveLetter 4 = .ok (.getfield 60, 3) := by decide +kernel
theorem dX5_engraveLetter_7 : decode cX5_engraveLetter 7 = .ok (.istore_n 2, 1) := by decide +kernel
theorem dX5_engraveLetter_8 : decode cX5_engraveLetter 8 = .ok (.aload_n 0, 1) := by decide +kernel
theorem dX5_engraveLetter_9 : decode cX5_engraveLetter 9 = .ok (.iload_n 1, 1) := by decide +kernel
theorem dX5_engraveLetter_10 : decode cX5_engraveLetter 10 = .ok (.invokevirtual 112, 3) := by decide +kernel
theorem dX5_engraveLetter_13 : decode cX5_engraveLetter 13 = .ok (.istore_n 3, 1) := by decide +kernel
theorem dX5_engraveLetter_14 : decode cX5_engraveLetter 14 = .ok (.aload_n 0, 1) := by decide +kernel
theorem dX5_engraveLetter_15 : decode cX5_engraveLetter 15 = .ok (.getfield 21, 3) := by decide +kernel
theorem dX5_engraveLetter_18 : decode cX5_engraveLetter 18 = .ok (.iload_n 1, 1) := by decide +kernel
theorem dX5_engraveLetter_19 : decode cX5_engraveLetter 19 = .ok (.invokevirtual 119, 3) := by decide +kernel
theorem dX5_engraveLetter_22 : decode cX5_engraveLetter 22 = .ok (.istore 4, 2) := by decide +kernel
theorem dX5_engraveLetter_24 : decode cX5_engraveLetter 24 = .ok (.iconst 0, 1) := by decide +kernel
theorem dX5_engraveLetter_25 : decode cX5_engraveLetter 25 = .ok (.istore 5, 2) := by decide +kernel
theorem dX5_engraveLetter_27 : decode cX5_engraveLetter 27 = .ok (.iload 5, 2) := by decide +kernel
theorem dX5_engraveLetter_29 : decode cX5_engraveLetter 29 = .ok (.iload 4, 2) := by decide +kernel
theorem dX5_engraveLetter_31 : decode cX5_engraveLetter 31 = .ok (.if_icmp .ge 34, 3) := by decide +kernel
theorem dX5_engraveLetter_34 : decode cX5_engraveLetter 34 = .ok (.aload_n 0, 1) := by decide +kernel
theorem dX5_engraveLetter_35 : decode cX5_engraveLetter 35 = .ok (.getfield 35, 3) := by decide +kernel
theorem dX5_engraveLetter_38 : decode cX5_engraveLetter 38 = .ok (.iload_n 3, 1) := by decide +kernel
theorem dX5_engraveLetter_39 : decode cX5_engraveLetter 39 = .ok (.invokevirtual 122, 3) := by decide +kernel
theorem dX5_engraveLetter_42 : decode cX5_engraveLetter 42 = .ok (.istore 6, 2) := by decide +kernel
theorem dX5_engraveLetter_44 : decode cX5_engraveLetter 44 = .ok (.iload 6, 2) := by decide +kernel
theorem dX5_engraveLetter_46 : decode cX5_engraveLetter 46 = .ok (.ifCond .le 13, 3) := by decide +kernel
theorem dX5_engraveLetter_49 : decode cX5_engraveLetter 49 = .ok (.aload_n 0, 1) := by decide +kernel
theorem dX5_engraveLetter_50 : decode cX5_engraveLetter 50 = .ok (.getfield 42, 3) := by decide +kernel
theorem dX5_engraveLetter_53 : decode cX5_engraveLetter 53 = .ok (.iload_n 1, 1) := by decide +kernel
theorem dX5_engraveLetter_54 : decode cX5_engraveLetter 54 = .ok (.iload 6, 2) := by decide +kernel
theorem dX5_engraveLetter_56 : decode cX5_engraveLetter 56 = .ok (.invokevirtual 133, 3) := by decide +kernel
theorem dX5_engraveLetter_59 : decode cX5_engraveLetter 59 = .ok (.iinc 5 1, 3) := by decide +kernel
theorem dX5_engraveLetter_62 : decode cX5_engraveLetter 62 = .ok (.goto (-35), 3) := by decide +kernel
theorem dX5_engraveLetter_65 : decode cX5_engraveLetter 65 = .ok (.aload_n 0, 1) := by decide +kernel
theorem dX5_engraveLetter_66 : decode cX5_engraveLetter 66 = .ok (.getfield 21, 3) := by decide +kernel
theorem dX5_engraveLetter_69 : decode cX5_engraveLetter 69 = .ok (.getfield 115, 3) := by decide +kernel
theorem dX5_engraveLetter_72 : decode cX5_engraveLetter 72 = .ok (.iload_n 1, 1) := by decide +kernel
theorem dX5_engraveLetter_73 : decode cX5_engraveLetter 73 = .ok (.iconst 1, 1) := by decide +kernel
theorem dX5_engraveLetter_74 : decode cX5_engraveLetter 74 = .ok (.bastore, 1) := by decide +kernel
theorem dX5_engraveLetter_75 : decode cX5_engraveLetter 75 = .ok (.aload_n 0, 1) := by decide +kernel
theorem dX5_engraveLetter_76 : decode cX5_engraveLetter 76 = .ok (.getfield 42, 3) := by decide +kernel
theorem dX5_engraveLetter_79 : decode cX5_engraveLetter 79 = .ok (.getfield 60, 3) := by decide +kernel
theorem dX5_engraveLetter_82 : decode cX5_engraveLetter 82 = .ok (.iload_n 2, 1) := by decide +kernel
theorem dX5_engraveLetter_83 : decode cX5_engraveLetter 83 = .ok (.isub, 1) := by decide +kernel
theorem dX5_engraveLetter_84 : decode cX5_engraveLetter 84 = .ok (.ireturn, 1) := by decide +kernel
theorem dX5_canEngravePlanned_0 : decode cX5_canEngravePlanned 0 = .ok (.aload_n 0, 1) := by decide +kernel
theorem dX5_canEngravePlanned_1 : decode cX5_canEngravePlanned 1 = .ok (.getfield 21, 3) := by decide +kernel
theorem dX5_canEngravePlanned_4 : decode cX5_canEngravePlanned 4 = .ok (.invokevirtual 137, 3) := by decide +kernel
theorem dX5_canEngravePlanned_7 : decode cX5_canEngravePlanned 7 = .ok (.aload_n 0, 1) := by decide +kernel
theorem dX5_canEngravePlanned_8 : decode cX5_canEngravePlanned 8 = .ok (.getfield 21, 3) := by decide +kernel
theorem dX5_canEngravePlanned_11 : decode cX5_canEngravePlanned 11 = .ok (.getfield 81, 3) := by decide +kernel
theorem dX5_canEngravePlanned_14 : decode cX5_canEngravePlanned 14 = .ok (.if_icmp .ge 14, 3) := by decide +kernel
theorem dX5_canEngravePlanned_17 : decode cX5_canEngravePlanned 17 = .ok (.aload_n 0, 1) := by decide +kernel
theorem dX5_canEngravePlanned_18 : decode cX5_canEngravePlanned 18 = .ok (.invokevirtual 129, 3) := by decide +kernel
theorem dX5_canEngravePlanned_21 : decode cX5_canEngravePlanned 21 = .ok (.ifCond .eq 7, 3) := by decide +kernel
theorem dX5_canEngravePlanned_24 : decode cX5_canEngravePlanned 24 = .ok (.iconst 1, 1) := by decide +kernel
theorem dX5_canEngravePlanned_25 : decode cX5_canEngravePlanned 25 = .ok (.goto 4, 3) := by decide +kernel
theorem dX5_canEngravePlanned_28 : decode cX5_canEngravePlanned 28 = .ok (.iconst 0, 1) := by decide +kernel
theorem dX5_canEngravePlanned_29 : decode cX5_canEngravePlanned 29 = .ok (.ireturn, 1) := by decide +kernel
theorem dX5_engravePlanned_0 : decode cX5_engravePlanned 0 = .ok (.iconst 0, 1) := by decide +kernel
theorem dX5_engravePlanned_1 : decode cX5_engravePlanned 1 = .ok (.istore_n 1, 1) := by decide +kernel
theorem dX5_engravePlanned_2 : decode cX5_engravePlanned 2 = .ok (.iconst 0, 1) := by decide +kernel
theorem dX5_engravePlanned_3 : decode cX5_engravePlanned 3 = .ok (.istore_n 2, 1) := by decide +kernel
theorem dX5_engravePlanned_4 : decode cX5_engravePlanned 4 = .ok (.iload_n 2, 1) := by decide +kernel
theorem dX5_engravePlanned_5 : decode cX5_engravePlanned 5 = .ok (.aload_n 0, 1) := by decide +kernel
theorem dX5_engravePlanned_6 : decode cX5_engravePlanned 6 = .ok (.getfield 21, 3) := by decide +kernel
theorem dX5_engravePlanned_9 : decode cX5_engravePlanned 9 = .ok (.getfield 81, 3) := by decide +kernel
theorem dX5_engravePlanned_12 : decode cX5_engravePlanned 12 = .ok (.if_icmp .ge 26, 3) := by decide +kernel
theorem dX5_engravePlanned_15 : decode cX5_engravePlanned 15 = .ok (.aload_n 0, 1) := by decide +kernel
theorem dX5_engravePlanned_16 : decode cX5_engravePlanned 16 = .ok (.iload_n 2, 1) := by decide +kernel
theorem dX5_engravePlanned_17 : decode cX5_engravePlanned 17 = .ok (.invokevirtual 141, 3) := by decide +kernel
theorem dX5_engravePlanned_20 : decode cX5_engravePlanned 20 = .ok (.ifCond .eq 12, 3) := by decide +kernel
theorem dX5_engravePlanned_23 : decode cX5_engravePlanned 23 = .ok (.aload_n 0, 1) := by decide +kernel
theorem dX5_engravePlanned_24 : decode cX5_engravePlanned 24 = .ok (.iload_n 2, 1) := by decide +kernel
theorem dX5_engravePlanned_25 : decode cX5_engravePlanned 25 = .ok (.invokevirtual 144, 3) := by decide +kernel
theorem dX5_engravePlanned_28 : decode cX5_engravePlanned 28 = .ok (.pop, 1) := by decide +kernel
theorem dX5_engravePlanned_29 : decode cX5_engravePlanned 29 = .ok (.iinc 1 1, 3) := by decide +kernel
theorem dX5_engravePlanned_32 : decode cX5_engravePlanned 32 = .ok (.iinc 2 1, 3) := by decide +kernel
theorem dX5_engravePlanned_35 : decode cX5_engravePlanned 35 = .ok (.goto (-31), 3) := by decide +kernel
theorem dX5_engravePlanned_38 : decode cX5_engravePlanned 38 = .ok (.iload_n 1, 1) := by decide +kernel
theorem dX5_engravePlanned_39 : decode cX5_engravePlanned 39 = .ok (.ireturn, 1) := by decide +kernel
theorem dX5_canMend_0 : decode cX5_canMend 0 = .ok (.aload_n 0, 1) := by decide +kernel
theorem dX5_canMend_1 : decode cX5_canMend 1 = .ok (.iload_n 1, 1) := by decide +kernel
theorem dX5_canMend_2 : decode cX5_canMend 2 = .ok (.invokevirtual 147, 3) := by decide +kernel
theorem dX5_canMend_5 : decode cX5_canMend 5 = .ok (.ifCond .eq 28, 3) := by decide +kernel
theorem dX5_canMend_8 : decode cX5_canMend 8 = .ok (.aload_n 0, 1) := by decide +kernel
theorem dX5_canMend_9 : decode cX5_canMend 9 = .ok (.getfield 21, 3) := by decide +kernel
theorem dX5_canMend_12 : decode cX5_canMend 12 = .ok (.getfield 150, 3) := by decide +kernel
theorem dX5_canMend_15 : decode cX5_canMend 15 = .ok (.aload_n 0, 1) := by decide +kernel
theorem dX5_canMend_16 : decode cX5_canMend 16 = .ok (.getfield 42, 3) := by decide +kernel
theorem dX5_canMend_19 : decode cX5_canMend 19 = .ok (.getfield 154, 3) := by decide +kernel
theorem dX5_canMend_22 : decode cX5_canMend 22 = .ok (.iload_n 1, 1) := by decide +kernel
theorem dX5_canMend_23 : decode cX5_canMend 23 = .ok (.iaload, 1) := by decide +kernel
theorem dX5_canMend_24 : decode cX5_canMend 24 = .ok (.iaload, 1) := by decide +kernel
theorem dX5_canMend_25 : decode cX5_canMend 25 = .ok (.iconst 3, 1) := by decide +kernel
theorem dX5_canMend_26 : decode cX5_canMend 26 = .ok (.if_icmp .ge 7, 3) := by decide +kernel
theorem dX5_canMend_29 : decode cX5_canMend 29 = .ok (.iconst 1, 1) := by decide +kernel
theorem dX5_canMend_30 : decode cX5_canMend 30 = .ok (.goto 4, 3) := by decide +kernel
theorem dX5_canMend_33 : decode cX5_canMend 33 = .ok (.iconst 0, 1) := by decide +kernel
theorem dX5_canMend_34 : decode cX5_canMend 34 = .ok (.ireturn, 1) := by decide +kernel
theorem dX5_mendScratch_0 : decode cX5_mendScratch 0 = .ok (.aload_n 0, 1) := by decide +kernel
theorem dX5_mendScratch_1 : decode cX5_mendScratch 1 = .ok (.getfield 21, 3) := by decide +kernel
theorem dX5_mendScratch_4 : decode cX5_mendScratch 4 = .ok (.getfield 150, 3) := by decide +kernel
theorem dX5_mendScratch_7 : decode cX5_mendScratch 7 = .ok (.aload_n 0, 1) := by decide +kernel
theorem dX5_mendScratch_8 : decode cX5_mendScratch 8 = .ok (.getfield 42, 3) := by decide +kernel
theorem dX5_mendScratch_11 : decode cX5_mendScratch 11 = .ok (.getfield 154, 3) := by decide +kernel
theorem dX5_mendScratch_14 : decode cX5_mendScratch 14 = .ok (.iload_n 1, 1) := by decide +kernel
theorem dX5_mendScratch_15 : decode cX5_mendScratch 15 = .ok (.iaload, 1) := by decide +kernel
theorem dX5_mendScratch_16 : decode cX5_mendScratch 16 = .ok (.dup2, 1) := by decide +kernel
theorem dX5_mendScratch_17 : decode cX5_mendScratch 17 = .ok (.iaload, 1) := by decide +kernel
theorem dX5_mendScratch_18 : decode cX5_mendScratch 18 = .ok (.iconst 1, 1) := by decide +kernel
theorem dX5_mendScratch_19 : decode cX5_mendScratch 19 = .ok (.iadd, 1) := by decide +kernel
theorem dX5_mendScratch_20 : decode cX5_mendScratch 20 = .ok (.iastore, 1) := by decide +kernel
theorem dX5_mendScratch_21 : decode cX5_mendScratch 21 = .ok (.aload_n 0, 1) := by decide +kernel
theorem dX5_mendScratch_22 : decode cX5_mendScratch 22 = .ok (.getfield 42, 3) := by decide +kernel
theorem dX5_mendScratch_25 : decode cX5_mendScratch 25 = .ok (.iload_n 1, 1) := by decide +kernel
theorem dX5_mendScratch_26 : decode cX5_mendScratch 26 = .ok (.invokevirtual 156, 3) := by decide +kernel
theorem dX5_mendScratch_29 : decode cX5_mendScratch 29 = .ok (.aload_n 0, 1) := by decide +kernel
theorem dX5_mendScratch_30 : decode cX5_mendScratch 30 = .ok (.getfield 42, 3) := by decide +kernel
theorem dX5_mendScratch_33 : decode cX5_mendScratch 33 = .ok (.getfield 60, 3) := by decide +kernel
theorem dX5_mendScratch_36 : decode cX5_mendScratch 36 = .ok (.ireturn, 1) := by decide +kernel
theorem dX5_canPolish_0 : decode cX5_canPolish 0 = .ok (.aload_n 0, 1) := by decide +kernel
theorem dX5_canPolish_1 : decode cX5_canPolish 1 = .ok (.iload_n 1, 1) := by decide +kernel
theorem dX5_canPolish_2 : decode cX5_canPolish 2 = .ok (.invokevirtual 125, 3) := by decide +kernel
theorem dX5_canPolish_5 : decode cX5_canPolish 5 = .ok (.ifCond .eq 32, 3) := by decide +kernel
theorem dX5_canPolish_8 : decode cX5_canPolish 8 = .ok (.aload_n 0, 1) := by decide +kernel
theorem dX5_canPolish_9 : decode cX5_canPolish 9 = .ok (.getfield 21, 3) := by decide +kernel
theorem dX5_canPolish_12 : decode cX5_canPolish 12 = .ok (.getfield 115, 3) := by decide +kernel
theorem dX5_canPolish_15 : decode cX5_canPolish 15 = .ok (.iload_n 1, 1) := by decide +kernel
theorem dX5_canPolish_16 : decode cX5_canPolish 16 = .ok (.baload, 1) := by decide +kernel
theorem dX5_canPolish_17 : decode cX5_canPolish 17 = .ok (.ifCond .eq 20, 3) := by decide +kernel
theorem dX5_canPolish_20 : decode cX5_canPolish 20 = .ok (.aload_n 0, 1) := by decide +kernel
theorem dX5_canPolish_21 : decode cX5_canPolish 21 = .ok (.getfield 21, 3) := by decide +kernel
theorem dX5_canPolish_24 : decode cX5_canPolish 24 = .ok (.getfield 150, 3) := by decide +kernel
theorem dX5_canPolish_27 : decode cX5_canPolish 27 = .ok (.iload_n 1, 1) := by decide +kernel
theorem dX5_canPolish_28 : decode cX5_canPolish 28 = .ok (.iaload, 1) := by decide +kernel
theorem dX5_canPolish_29 : decode cX5_canPolish 29 = .ok (.iconst 3, 1) := by decide +kernel
theorem dX5_canPolish_30 : decode cX5_canPolish 30 = .ok (.if_icmp .ge 7, 3) := by decide +kernel
theorem dX5_canPolish_33 : decode cX5_canPolish 33 = .ok (.iconst 1, 1) := by decide +kernel
theorem dX5_canPolish_34 : decode cX5_canPolish 34 = .ok (.goto 4, 3) := by decide +kernel
theorem dX5_canPolish_37 : decode cX5_canPolish 37 = .ok (.iconst 0, 1) := by decide +kernel
theorem dX5_canPolish_38 : decode cX5_canPolish 38 = .ok (.ireturn, 1) := by decide +kernel
theorem dX5_polishLetter_0 : decode cX5_polishLetter 0 = .ok (.aload_n 0, 1) := by decide +kernel
theorem dX5_polishLetter_1 : decode cX5_polishLetter 1 = .ok (.getfield 21, 3) := by decide +kernel
theorem dX5_polishLetter_4 : decode cX5_polishLetter 4 = .ok (.getfield 115, 3) := by decide +kernel
theorem dX5_polishLetter_7 : decode cX5_polishLetter 7 = .ok (.iload_n 1, 1) := by decide +kernel
theorem dX5_polishLetter_8 : decode cX5_polishLetter 8 = .ok (.iconst 0, 1) := by decide +kernel
theorem dX5_polishLetter_9 : decode cX5_polishLetter 9 = .ok (.bastore, 1) := by decide +kernel
theorem dX5_polishLetter_10 : decode cX5_polishLetter 10 = .ok (.aload_n 0, 1) := by decide +kernel
theorem dX5_polishLetter_11 : decode cX5_polishLetter 11 = .ok (.getfield 21, 3) := by decide +kernel
theorem dX5_polishLetter_14 : decode cX5_polishLetter 14 = .ok (.getfield 150, 3) := by decide +kernel
theorem dX5_polishLetter_17 : decode cX5_polishLetter 17 = .ok (.iload_n 1, 1) := by decide +kernel
theorem dX5_polishLetter_18 : decode cX5_polishLetter 18 = .ok (.dup2, 1) := by decide +kernel
theorem dX5_polishLetter_19 : decode cX5_polishLetter 19 = .ok (.iaload, 1) := by decide +kernel
theorem dX5_polishLetter_20 : decode cX5_polishLetter 20 = .ok (.iconst 1, 1) := by decide +kernel
theorem dX5_polishLetter_21 : decode cX5_polishLetter 21 = .ok (.iadd, 1) := by decide +kernel
theorem dX5_polishLetter_22 : decode cX5_polishLetter 22 = .ok (.iastore, 1) := by decide +kernel
theorem dX5_polishLetter_23 : decode cX5_polishLetter 23 = .ok (.aload_n 0, 1) := by decide +kernel
theorem dX5_polishLetter_24 : decode cX5_polishLetter 24 = .ok (.getfield 42, 3) := by decide +kernel
theorem dX5_polishLetter_27 : decode cX5_polishLetter 27 = .ok (.iload_n 1, 1) := by decide +kernel
theorem dX5_polishLetter_28 : decode cX5_polishLetter 28 = .ok (.invokevirtual 160, 3) := by decide +kernel
theorem dX5_polishLetter_31 : decode cX5_polishLetter 31 = .ok (.ireturn, 1) := by decide +kernel
theorem dX6_init_0 : decode cX6_init 0 = .ok (.aload_n 0, 1) := by decide +kernel
theorem dX6_init_1 : decode cX6_init 1 = .ok (.invokespecial 3, 3) := by decide +kernel
theorem dX6_init_4 : decode cX6_init 4 = .ok (.aload_n 0, 1) := by decide +kernel
theorem dX6_init_5 : decode cX6_init 5 = .ok (.sipush 294, 3) := by decide +kernel
theorem dX6_init_8 : decode cX6_init 8 = .ok (.newarray .byte, 2) := by decide +kernel
theorem dX6_init_10 : decode cX6_init 10 = .ok (.putfield 11, 3) := by decide +kernel
theorem dX6_init_13 : decode cX6_init 13 = .ok (.return_, 1) := by decide +kernel
theorem dX7_init_0 : decode cX7_init 0 = .ok (.aload_n 0, 1) := by decide +kernel
theorem dX7_init_1 : decode cX7_init 1 = .ok (.invokespecial 3, 3) := by decide +kernel
theorem dX7_init_4 : decode cX7_init 4 = .ok (.aload_n 0, 1) := by decide +kernel
theorem dX7_init_5 : decode cX7_init 5 = .ok (.bipush 44, 2) := by decide +kernel
theorem dX7_init_7 : decode cX7_init 7 = .ok (.newarray .int, 2) := by decide +kernel
theorem dX7_init_9 : decode cX7_init 9 = .ok (.putfield 9, 3) := by decide +kernel
theorem dX7_init_12 : decode cX7_init 12 = .ok (.aload_n 0, 1) := by decide +kernel
theorem dX7_init_13 : decode cX7_init 13 = .ok (.bipush 44, 2) := by decide +kernel
theorem dX7_init_15 : decode cX7_init 15 = .ok (.newarray .int, 2) := by decide +kernel
theorem dX7_init_17 : decode cX7_init 17 = .ok (.putfield 15, 3) := by decide +kernel
theorem dX7_init_20 : decode cX7_init 20 = .ok (.return_, 1) := by decide +kernel
theorem dX7_copyFrom_0 : decode cX7_copyFrom 0 = .ok (.aload_n 0, 1) := by decide +kernel
theorem dX7_copyFrom_1 : decode cX7_copyFrom 1 = .ok (.aload_n 1, 1) := by decide +kernel
theorem dX7_copyFrom_2 : decode cX7_copyFrom 2 = .ok (.getfield 18, 3) := by decide +kernel
theorem dX7_copyFrom_5 : decode cX7_copyFrom 5 = .ok (.putfield 18, 3) := by decide +kernel
theorem dX7_copyFrom_8 : decode cX7_copyFrom 8 = .ok (.iconst 0, 1) := by decide +kernel
theorem dX7_copyFrom_9 : decode cX7_copyFrom 9 = .ok (.istore_n 2, 1) := by decide +kernel
theorem dX7_copyFrom_10 : decode cX7_copyFrom 10 = .ok (.iload_n 2, 1) := by decide +kernel
theorem dX7_copyFrom_11 : decode cX7_copyFrom 11 = .ok (.aload_n 0, 1) := by decide +kernel
theorem dX7_copyFrom_12 : decode cX7_copyFrom 12 = .ok (.getfield 18, 3) := by decide +kernel
theorem dX7_copyFrom_15 : decode cX7_copyFrom 15 = .ok (.if_icmp .ge 33, 3) := by decide +kernel
theorem dX7_copyFrom_18 : decode cX7_copyFrom 18 = .ok (.aload_n 0, 1) := by decide +kernel
theorem dX7_copyFrom_19 : decode cX7_copyFrom 19 = .ok (.getfield 9, 3) := by decide +kernel
theorem dX7_copyFrom_22 : decode cX7_copyFrom 22 = .ok (.iload_n 2, 1) := by decide +kernel
theorem dX7_copyFrom_23 : decode cX7_copyFrom 23 = .ok (.aload_n 1, 1) := by decide +kernel
theorem dX7_copyFrom_24 : decode cX7_copyFrom 24 = .ok (.getfield 9, 3) := by decide +kernel
theorem dX7_copyFrom_27 : decode cX7_copyFrom 27 = .ok (.iload_n 2, 1) := by decide +kernel
theorem dX7_copyFrom_28 : decode cX7_copyFrom 28 = .ok (.iaload, 1) := by decide +kernel
theorem dX7_copyFrom_29 : decode cX7_copyFrom 29 = .ok (.iastore, 1) := by decide +kernel
theorem dX7_copyFrom_30 : decode cX7_copyFrom 30 = .ok (.aload_n 0, 1) := by decide +kernel
theorem dX7_copyFrom_31 : decode cX7_copyFrom 31 = .ok (.getfield 15, 3) := by decide +kernel
theorem dX7_copyFrom_34 : decode cX7_copyFrom 34 = .ok (.iload_n 2, 1) := by decide +kernel
theorem dX7_copyFrom_35 : decode cX7_copyFrom 35 = .ok (.aload_n 1, 1) := by decide +kernel
theorem dX7_copyFrom_36 : decode cX7_copyFrom 36 = .ok (.getfield 15, 3) := by decide +kernel
theorem dX7_copyFrom_39 : decode cX7_copyFrom 39 = .ok (.iload_n 2, 1) := by decide +kernel
theorem dX7_copyFrom_40 : decode cX7_copyFrom 40 = .ok (.iaload, 1) := by decide +kernel
theorem dX7_copyFrom_41 : decode cX7_copyFrom 41 = .ok (.iastore, 1) := by decide +kernel
theorem dX7_copyFrom_42 : decode cX7_copyFrom 42 = .ok (.iinc 2 1, 3) := by decide +kernel
theorem dX7_copyFrom_45 : decode cX7_copyFrom 45 = .ok (.goto (-35), 3) := by decide +kernel
theorem dX7_copyFrom_48 : decode cX7_copyFrom 48 = .ok (.return_, 1) := by decide +kernel
theorem dX7_add_0 : decode cX7_add 0 = .ok (.aload_n 0, 1) := by decide +kernel
theorem dX7_add_1 : decode cX7_add 1 = .ok (.getfield 18, 3) := by decide +kernel
theorem dX7_add_4 : decode cX7_add 4 = .ok (.bipush 44, 2) := by decide +kernel
theorem dX7_add_6 : decode cX7_add 6 = .ok (.if_icmp .ge 33, 3) := by decide +kernel
theorem dX7_add_9 : decode cX7_add 9 = .ok (.aload_n 0, 1) := by decide +kernel
theorem dX7_add_10 : decode cX7_add 10 = .ok (.getfield 9, 3) := by decide +kernel
theorem dX7_add_13 : decode cX7_add 13 = .ok (.aload_n 0, 1) := by decide +kernel
theorem dX7_add_14 : decode cX7_add 14 = .ok (.getfield 18, 3) := by decide +kernel
theorem dX7_add_17 : decode cX7_add 17 = .ok (.iload_n 1, 1) := by decide +kernel
theorem dX7_add_18 : decode cX7_add 18 = .ok (.iastore, 1) := by decide +kernel
theorem dX7_add_19 : decode cX7_add 19 = .ok (.aload_n 0, 1) := by decide +kernel
theorem dX7_add_20 : decode cX7_add 20 = .ok (.getfield 15, 3) := by decide +kernel
theorem dX7_add_23 : decode cX7_add 23 = .ok (.aload_n 0, 1) := by decide +kernel
theorem dX7_add_24 : decode cX7_add 24 = .ok (.getfield 18, 3) := by decide +kernel
theorem dX7_add_27 : decode cX7_add 27 = .ok (.iload_n 2, 1) := by decide +kernel
theorem dX7_add_28 : decode cX7_add 28 = .ok (.iastore, 1) := by decide +kernel
theorem dX7_add_29 : decode cX7_add 29 = .ok (.aload_n 0, 1) := by decide +kernel
theorem dX7_add_30 : decode cX7_add 30 = .ok (.dup, 1) := by decide +kernel
theorem dX7_add_31 : decode cX7_add 31 = .ok (.getfield 18, 3) := by decide +kernel
theorem dX7_add_34 : decode cX7_add 34 = .ok (.iconst 1, 1) := by decide +kernel
theorem dX7_add_35 : decode cX7_add 35 = .ok (.iadd, 1) := by decide +kernel
theorem dX7_add_36 : decode cX7_add 36 = .ok (.putfield 18, 3) := by decide +kernel
theorem dX7_add_39 : decode cX7_add 39 = .ok (.return_, 1) := by decide +kernel
theorem dX7_remove_0 : decode cX7_remove 0 = .ok (.iload_n 1, 1) := by decide +kernel
theorem dX7_remove_1 : decode cX7_remove 1 = .ok (.iconst 1, 1) := by decide +kernel
theorem dX7_remove_2 : decode cX7_remove 2 = .ok (.iadd, 1) := by decide +kernel
theorem dX7_remove_3 : decode cX7_remove 3 = .ok (.istore_n 2, 1) := by decide +kernel
theorem dX7_remove_4 : decode cX7_remove 4 = .ok (.iload_n 2, 1) := by decide +kernel
theorem dX7_remove_5 : decode cX7_remove 5 = .ok (.aload_n 0, 1) := by decide +kernel
theorem dX7_remove_6 : decode cX7_remove 6 = .ok (.getfield 18, 3) := by decide +kernel
theorem dX7_remove_9 : decode cX7_remove 9 = .ok (.if_icmp .ge 37, 3) := by decide +kernel
theorem dX7_remove_12 : decode cX7_remove 12 = .ok (.aload_n 0, 1) := by decide +kernel
theorem dX7_remove_13 : decode cX7_remove 13 = .ok (.getfield 9, 3) := by decide +kernel
theorem dX7_remove_16 : decode cX7_remove 16 = .ok (.iload_n 2, 1) := by decide +kernel
theorem dX7_remove_17 : decode cX7_remove 17 = .ok (.iconst 1, 1) := by decide +kernel
theorem dX7_remove_18 : decode cX7_remove 18 = .ok (.isub, 1) := by decide +kernel
theorem dX7_remove_19 : decode cX7_remove 19 = .ok (.aload_n 0, 1) := by decide +kernel
theorem dX7_remove_20 : decode cX7_remove 20 = .ok (.getfield 9, 3) := by decide +kernel
theorem dX7_remove_23 : decode cX7_remove 23 = .ok (.iload_n 2, 1) := by decide +kernel
theorem dX7_remove_24 : decode cX7_remove 24 = .ok (.iaload, 1) := by decide +kernel
theorem dX7_remove_25 : decode cX7_remove 25 = .ok (.iastore, 1) := by decide +kernel
theorem dX7_remove_26 : decode cX7_remove 26 = .ok (.aload_n 0, 1) := by decide +kernel
theorem dX7_remove_27 : decode cX7_remove 27 = .ok (.getfield 15, 3) := by decide +kernel
theorem dX7_remove_30 : decode cX7_remove 30 = .ok (.iload_n 2, 1) := by decide +kernel
theorem dX7_remove_31 : decode cX7_remove 31 = .ok (.iconst 1, 1) := by decide +kernel
theorem dX7_remove_32 : decode cX7_remove 32 = .ok (.isub, 1) := by decide +kernel
theorem dX7_remove_33 : decode cX7_remove 33 = .ok (.aload_n 0, 1) := by decide +kernel
theorem dX7_remove_34 : decode cX7_remove 34 = .ok (.getfield 15, 3) := by decide +kernel
theorem dX7_remove_37 : decode cX7_remove 37 = .ok (.iload_n 2, 1) := by decide +kernel
theorem dX7_remove_38 : decode cX7_remove 38 = .ok (.iaload, 1) := by decide +kernel
theorem dX7_remove_39 : decode cX7_remove 39 = .ok (.iastore, 1) := by decide +kernel
theorem dX7_remove_40 : decode cX7_remove 40 = .ok (.iinc 2 1, 3) := by decide +kernel
theorem dX7_remove_43 : decode cX7_remove 43 = .ok (.goto (-39), 3) := by decide +kernel
theorem dX7_remove_46 : decode cX7_remove 46 = .ok (.aload_n 0, 1) := by decide +kernel
theorem dX7_remove_47 : decode cX7_remove 47 = .ok (.dup, 1) := by decide +kernel
theorem dX7_remove_48 : decode cX7_remove 48 = .ok (.getfield 18, 3) := by decide +kernel
theorem dX7_remove_51 : decode cX7_remove 51 = .ok (.iconst 1, 1) := by decide +kernel
theorem dX7_remove_52 : decode cX7_remove 52 = .ok (.isub, 1) := by decide +kernel
theorem dX7_remove_53 : decode cX7_remove 53 = .ok (.putfield 18, 3) := by decide +kernel
theorem dX7_remove_56 : decode cX7_remove 56 = .ok (.return_, 1) := by decide +kernel
theorem dX7_removeAllOf_0 : decode cX7_removeAllOf 0 = .ok (.iconst 0, 1) := by decide +kernel
theorem dX7_removeAllOf_1 : decode cX7_removeAllOf 1 = .ok (.istore_n 2, 1) := by decide +kernel
theorem dX7_removeAllOf_2 : decode cX7_removeAllOf 2 = .ok (.iconst 0, 1) := by decide +kernel
theorem dX7_removeAllOf_3 : decode cX7_removeAllOf 3 = .ok (.istore_n 3, 1) := by decide +kernel
theorem dX7_removeAllOf_4 : decode cX7_removeAllOf 4 = .ok (.iload_n 3, 1) := by decide +kernel
theorem dX7_removeAllOf_5 : decode cX7_removeAllOf 5 = .ok (.aload_n 0, 1) := by decide +kernel
theorem dX7_removeAllOf_6 : decode cX7_removeAllOf 6 = .ok (.getfield 18, 3) := by decide +kernel
theorem dX7_removeAllOf_9 : decode cX7_removeAllOf 9 = .ok (.if_icmp .ge 46, 3) := by decide +kernel
theorem dX7_removeAllOf_12 : decode cX7_removeAllOf 12 = .ok (.aload_n 0, 1) := by decide +kernel
theorem dX7_removeAllOf_13 : decode cX7_removeAllOf 13 = .ok (.getfield 9, 3) := by decide +kernel
theorem dX7_removeAllOf_16 : decode cX7_removeAllOf 16 = .ok (.iload_n 3, 1) := by decide +kernel
theorem dX7_removeAllOf_17 : decode cX7_removeAllOf 17 = .ok (.iaload, 1) := by decide +kernel
theorem dX7_removeAllOf_18 : decode cX7_removeAllOf 18 = .ok (.iload_n 1, 1) := by decide +kernel
theorem dX7_removeAllOf_19 : decode cX7_removeAllOf 19 = .ok (.if_icmp .eq 30, 3) := by decide +kernel
theorem dX7_removeAllOf_22 : decode cX7_removeAllOf 22 = .ok (.aload_n 0, 1) := by decide +kernel
theorem dX7_removeAllOf_23 : decode cX7_removeAllOf 23 = .ok (.getfield 9, 3) := by decide +kernel
theorem dX7_removeAllOf_26 : decode cX7_removeAllOf 26 = .ok (.iload_n 2, 1) := by decide +kernel
theorem dX7_removeAllOf_27 : decode cX7_removeAllOf 27 = .ok (.aload_n 0, 1) := by decide +kernel
theorem dX7_removeAllOf_28 : decode cX7_removeAllOf 28 = .ok (.getfield 9, 3) := by decide +kernel
theorem dX7_removeAllOf_31 : decode cX7_removeAllOf 31 = .ok (.iload_n 3, 1) := by decide +kernel
theorem dX7_removeAllOf_32 : decode cX7_removeAllOf 32 = .ok (.iaload, 1) := by decide +kernel
theorem dX7_removeAllOf_33 : decode cX7_removeAllOf 33 = .ok (.iastore, 1) := by decide +kernel
theorem dX7_removeAllOf_34 : decode cX7_removeAllOf 34 = .ok (.aload_n 0, 1) := by decide +kernel
theorem dX7_removeAllOf_35 : decode cX7_removeAllOf 35 = .ok (.getfield 15, 3) := by decide +kernel
theorem dX7_removeAllOf_38 : decode cX7_removeAllOf 38 = .ok (.iload_n 2, 1) := by decide +kernel
theorem dX7_removeAllOf_39 : decode cX7_removeAllOf 39 = .ok (.aload_n 0, 1) := by decide +kernel
theorem dX7_removeAllOf_40 : decode cX7_removeAllOf 40 = .ok (.getfield 15, 3) := by decide +kernel
theorem dX7_removeAllOf_43 : decode cX7_removeAllOf 43 = .ok (.iload_n 3, 1) := by decide +kernel
theorem dX7_removeAllOf_44 : decode cX7_removeAllOf 44 = .ok (.iaload, 1) := by decide +kernel
theorem dX7_removeAllOf_45 : decode cX7_removeAllOf 45 = .ok (.iastore, 1) := by decide +kernel
theorem dX7_removeAllOf_46 : decode cX7_removeAllOf 46 = .ok (.iinc 2 1, 3) := by decide +kernel
theorem dX7_removeAllOf_49 : decode cX7_removeAllOf 49 = .ok (.iinc 3 1, 3) := by decide +kernel
theorem dX7_removeAllOf_52 : decode cX7_removeAllOf 52 = .ok (.goto (-48), 3) := by decide +kernel
theorem dX7_removeAllOf_55 : decode cX7_removeAllOf 55 = .ok (.aload_n 0, 1) := by decide +kernel
theorem dX7_removeAllOf_56 : decode cX7_removeAllOf 56 = .ok (.getfield 18, 3) := by decide +kernel
theorem dX7_removeAllOf_59 : decode cX7_removeAllOf 59 = .ok (.iload_n 2, 1) := by decide +kernel
theorem dX7_removeAllOf_60 : decode cX7_removeAllOf 60 = .ok (.isub, 1) := by decide +kernel
theorem dX7_removeAllOf_61 : decode cX7_removeAllOf 61 = .ok (.istore_n 3, 1) := by decide +kernel
theorem dX7_removeAllOf_62 : decode cX7_removeAllOf 62 = .ok (.aload_n 0, 1) := by decide +kernel
theorem dX7_removeAllOf_63 : decode cX7_removeAllOf 63 = .ok (.iload_n 2, 1) := by decide +kernel
theorem dX7_removeAllOf_64 : decode cX7_removeAllOf 64 = .ok (.putfield 18, 3) := by decide +kernel
theorem dX7_removeAllOf_67 : decode cX7_removeAllOf 67 = .ok (.iload_n 3, 1) := by decide +kernel
theorem dX7_removeAllOf_68 : decode cX7_removeAllOf 68 = .ok (.ireturn, 1) := by decide +kernel
theorem dX7_countOf_0 : decode cX7_countOf 0 = .ok (.iconst 0, 1) := by decide +kernel
theorem dX7_countOf_1 : decode cX7_countOf 1 = .ok (.istore_n 2, 1) := by decide +kernel
theorem dX7_countOf_2 : decode cX7_countOf 2 = .ok (.iconst 0, 1) := by decide +kernel
theorem dX7_countOf_3 : decode cX7_countOf 3 = .ok (.istore_n 3, 1) := by decide +kernel
theorem dX7_countOf_4 : decode cX7_countOf 4 = .ok (.iload_n 3, 1) := by decide +kernel
theorem dX7_countOf_5 : decode cX7_countOf 5 = .ok (.aload_n 0, 1) := by decide +kernel
theorem dX7_countOf_6 : decode cX7_countOf 6 = .ok (.getfield 18, 3) := by decide +kernel
theorem dX7_countOf_9 : decode cX7_countOf 9 = .ok (.if_icmp .ge 22, 3) := by decide +kernel
theorem dX7_countOf_12 : decode cX7_countOf 12 = .ok (.aload_n 0, 1) := by decide +kernel
theorem dX7_countOf_13 : decode cX7_countOf 13 = .ok (.getfield 9, 3) := by decide +kernel
theorem dX7_countOf_16 : decode cX7_countOf 16 = .ok (.iload_n 3, 1) := by decide +kernel
theorem dX7_countOf_17 : decode cX7_countOf 17 = .ok (.iaload, 1) := by decide +kernel
theorem dX7_countOf_18 : decode cX7_countOf 18 = .ok (.iload_n 1, 1) := by decide +kernel
theorem dX7_countOf_19 : decode cX7_countOf 19 = .ok (.if_icmp .ne 6, 3) := by decide +kernel
theorem dX7_countOf_22 : decode cX7_countOf 22 = .ok (.iinc 2 1, 3) := by decide +kernel
theorem dX7_countOf_25 : decode cX7_countOf 25 = .ok (.iinc 3 1, 3) := by decide +kernel
theorem dX7_countOf_28 : decode cX7_countOf 28 = .ok (.goto (-24), 3) := by decide +kernel
theorem dX7_countOf_31 : decode cX7_countOf 31 = .ok (.iload_n 2, 1) := by decide +kernel
theorem dX7_countOf_32 : decode cX7_countOf 32 = .ok (.ireturn, 1) := by decide +kernel
theorem dX8_init_0 : decode cX8_init 0 = .ok (.aload_n 0, 1) := by decide +kernel
theorem dX8_init_1 : decode cX8_init 1 = .ok (.invokespecial 5, 3) := by decide +kernel
theorem dX8_init_4 : decode cX8_init 4 = .ok (.aload_n 0, 1) := by decide +kernel
theorem dX8_init_5 : decode cX8_init 5 = .ok (.bipush 60, 2) := by decide +kernel
theorem dX8_init_7 : decode cX8_init 7 = .ok (.newarray .int, 2) := by decide +kernel
theorem dX8_init_9 : decode cX8_init 9 = .ok (.putfield 11, 3) := by decide +kernel
theorem dX8_init_12 : decode cX8_init 12 = .ok (.aload_n 0, 1) := by decide +kernel
theorem dX8_init_13 : decode cX8_init 13 = .ok (.bipush 60, 2) := by decide +kernel
theorem dX8_init_15 : decode cX8_init 15 = .ok (.newarray .int, 2) := by decide +kernel
theorem dX8_init_17 : decode cX8_init 17 = .ok (.putfield 15, 3) := by decide +kernel
theorem dX8_init_20 : decode cX8_init 20 = .ok (.aload_n 0, 1) := by decide +kernel
theorem dX8_init_21 : decode cX8_init 21 = .ok (.bipush 60, 2) := by decide +kernel
theorem dX8_init_23 : decode cX8_init 23 = .ok (.newarray .int, 2) := by decide +kernel
theorem dX8_init_25 : decode cX8_init 25 = .ok (.putfield 18, 3) := by decide +kernel
theorem dX8_init_28 : decode cX8_init 28 = .ok (.aload_n 0, 1) := by decide +kernel
theorem dX8_init_29 : decode cX8_init 29 = .ok (.iconst 2, 1) := by decide +kernel
theorem dX8_init_30 : decode cX8_init 30 = .ok (.newarray .int, 2) := by decide +kernel
theorem dX8_init_32 : decode cX8_init 32 = .ok (.putfield 21, 3) := by decide +kernel
theorem dX8_init_35 : decode cX8_init 35 = .ok (.return_, 1) := by decide +kernel
theorem dX9_init_0 : decode cX9_init 0 = .ok (.aload_n 0, 1) := by decide +kernel
theorem dX9_init_1 : decode cX9_init 1 = .ok (.invokespecial 3, 3) := by decide +kernel
theorem dX9_init_4 : decode cX9_init 4 = .ok (.return_, 1) := by decide +kernel
theorem dX9_readInto_0 : decode cX9_readInto 0 = .ok (.aload_n 1, 1) := by decide +kernel
theorem dX9_readInto_1 : decode cX9_readInto 1 = .ok (.invokevirtual 9, 3) := by decide +kernel
theorem dX9_readInto_4 : decode cX9_readInto 4 = .ok (.aload_n 0, 1) := by decide +kernel
theorem dX9_readInto_5 : decode cX9_readInto 5 = .ok (.iconst 0, 1) := by decide +kernel
theorem dX9_readInto_6 : decode cX9_readInto 6 = .ok (.putfield 14, 3) := by decide +kernel
theorem dX9_readInto_9 : decode cX9_readInto 9 = .ok (.aload_n 0, 1) := by decide +kernel
theorem dX9_readInto_10 : decode cX9_readInto 10 = .ok (.iconst 0, 1) := by decide +kernel
theorem dX9_readInto_11 : decode cX9_readInto 11 = .ok (.putfield 20, 3) := by decide +kernel
theorem dX9_readInto_14 : decode cX9_readInto 14 = .ok (.aload_n 0, 1) := by decide +kernel
theorem dX9_readInto_15 : decode cX9_readInto 15 = .ok (.iconst 0, 1) := by decide +kernel
theorem dX9_readInto_16 : decode cX9_readInto 16 = .ok (.putfield 23, 3) := by decide +kernel
theorem dX9_readInto_19 : decode cX9_readInto 19 = .ok (.aload_n 2, 1) := by decide +kernel
theorem dX9_readInto_20 : decode cX9_readInto 20 = .ok (.invokevirtual 26, 3) := by decide +kernel
theorem dX9_readInto_23 : decode cX9_readInto 23 = .ok (.iconst 0, 1) := by decide +kernel
theorem dX9_readInto_24 : decode cX9_readInto 24 = .ok (.istore_n 3, 1) := by decide +kernel
theorem dX9_readInto_25 : decode cX9_readInto 25 = .ok (.iload_n 3, 1) := by decide +kernel
theorem dX9_readInto_26 : decode cX9_readInto 26 = .ok (.sipush 500, 3) := by decide +kernel
theorem dX9_readInto_29 : decode cX9_readInto 29 = .ok (.if_icmp .ge 36, 3) := by decide +kernel
theorem dX9_readInto_32 : decode cX9_readInto 32 = .ok (.aload_n 2, 1) := by decide +kernel
theorem dX9_readInto_33 : decode cX9_readInto 33 = .ok (.invokevirtual 31, 3) := by decide +kernel
theorem dX9_readInto_36 : decode cX9_readInto 36 = .ok (.ifCond .ne 29, 3) := by decide +kernel
theorem dX9_readInto_39 : decode cX9_readInto 39 = .ok (.aload_n 0, 1) := by decide +kernel
theorem dX9_readInto_40 : decode cX9_readInto 40 = .ok (.aload_n 1, 1) := by decide +kernel
theorem dX9_readInto_41 : decode cX9_readInto 41 = .ok (.aload_n 2, 1) := by decide +kernel
theorem dX9_readInto_42 : decode cX9_readInto 42 = .ok (.invokevirtual 35, 3) := by decide +kernel
theorem dX9_readInto_45 : decode cX9_readInto 45 = .ok (.ifCond .eq 12, 3) := by decide +kernel
theorem dX9_readInto_48 : decode cX9_readInto 48 = .ok (.aload_n 2, 1) := by decide +kernel
theorem dX9_readInto_49 : decode cX9_readInto 49 = .ok (.bipush 59, 2) := by decide +kernel
theorem dX9_readInto_51 : decode cX9_readInto 51 = .ok (.invokevirtual 39, 3) := by decide +kernel
theorem dX9_readInto_54 : decode cX9_readInto 54 = .ok (.ifCond .ne 5, 3) := by decide +kernel
theorem dX9_readInto_57 : decode cX9_readInto 57 = .ok (.iconst 0, 1) := by decide +kernel
theorem dX9_readInto_58 : decode cX9_readInto 58 = .ok (.ireturn, 1) := by decide +kernel
theorem dX9_readInto_59 : decode cX9_readInto 59 = .ok (.iinc 3 1, 3) := by decide +kernel
theorem dX9_readInto_62 : decode cX9_readInto 62 = .ok (.goto (-37), 3) := by decide +kernel
theorem dX9_readInto_65 : decode cX9_readInto 65 = .ok (.iconst 1, 1) := by decide +kernel
theorem dX9_readInto_66 : decode cX9_readInto 66 = .ok (.ireturn, 1) := by decide +kernel
theorem dX9_readStatement_0 : decode cX9_readStatement 0 = .ok (.aload_n 2, 1) := by decide +kernel
theorem dX9_readStatement_1 : decode cX9_readStatement 1 = .ok (.ldc 43, 2) := by decide +kernel
theorem dX9_readStatement_3 : decode cX9_readStatement 3 = .ok (.invokevirtual 45, 3) := by decide +kernel
theorem dX9_readStatement_6 : decode cX9_readStatement 6 = .ok (.ifCond .eq 13, 3) := by decide +kernel
theorem dX9_readStatement_9 : decode cX9_readStatement 9 = .ok (.aload_n 0, 1) := by decide +kernel
theorem dX9_readStatement_10 : decode cX9_readStatement 10 = .ok (.aload_n 1, 1) := by decide +kernel
theorem dX9_readStatement_11 : decode cX9_readStatement 11 = .ok (.getfield 49, 3) := by decide +kernel
theorem dX9_readStatement_14 : decode cX9_readStatement 14 = .ok (.aload_n 2, 1) := by decide +kernel
theorem dX9_readStatement_15 : decode cX9_readStatement 15 = .ok (.invokevirtual 53, 3) := by decide +kernel
theorem dX9_readStatement_18 : decode cX9_readStatement 18 = .ok (.ireturn, 1) := by decide +kernel
theorem dX9_readStatement_19 : decode cX9_readStatement 19 = .ok (.aload_n 2, 1) := by decide +kernel
theorem dX9_readStatement_20 : decode cX9_readStatement 20 = .ok (.ldc 57, 2) := by decide +kernel
theorem dX9_readStatement_22 : decode cX9_readStatement 22 = .ok (.invokevirtual 45, 3) := by decide +kernel
theorem dX9_readStatement_25 : decode cX9_readStatement 25 = .ok (.ifCond .eq 13, 3) := by decide +kernel
theorem dX9_readStatement_28 : decode cX9_readStatement 28 = .ok (.aload_n 0, 1) := by decide +kernel
theorem dX9_readStatement_29 : decode cX9_readStatement 29 = .ok (.aload_n 1, 1) := by decide +kernel
theorem dX9_readStatement_30 : decode cX9_readStatement 30 = .ok (.getfield 59, 3) := by decide +kernel
theorem dX9_readStatement_33 : decode cX9_readStatement 33 = .ok (.aload_n 2, 1) := by decide +kernel
theorem dX9_readStatement_34 : decode cX9_readStatement 34 = .ok (.invokevirtual 62, 3) := by decide +kernel
theorem dX9_readStatement_37 : decode cX9_readStatement 37 = .ok (.ireturn, 1) := by decide +kernel
theorem dX9_readStatement_38 : decode cX9_readStatement 38 = .ok (.aload_n 2, 1) := by decide +kernel
theorem dX9_readStatement_39 : decode cX9_readStatement 39 = .ok (.ldc 66, 2) := by decide +kernel
theorem dX9_readStatement_41 : decode cX9_readStatement 41 = .ok (.invokevirtual 45, 3) := by decide +kernel
theorem dX9_readStatement_44 : decode cX9_readStatement 44 = .ok (.ifCond .eq 13, 3) := by decide +kernel
theorem dX9_readStatement_47 : decode cX9_readStatement 47 = .ok (.aload_n 0, 1) := by decide +kernel
theorem dX9_readStatement_48 : decode cX9_readStatement 48 = .ok (.aload_n 1, 1) := by decide +kernel
theorem dX9_readStatement_49 : decode cX9_readStatement 49 = .ok (.getfield 59, 3) := by decide +kernel
theorem dX9_readStatement_52 : decode cX9_readStatement 52 = .ok (.aload_n 2, 1) := by decide +kernel
theorem dX9_readStatement_53 : decode cX9_readStatement 53 = .ok (.invokevirtual 68, 3) := by decide +kernel
theorem dX9_readStatement_56 : decode cX9_readStatement 56 = .ok (.ireturn, 1) := by decide +kernel
theorem dX9_readStatement_57 : decode cX9_readStatement 57 = .ok (.aload_n 2, 1) := by decide +kernel
theorem dX9_readStatement_58 : decode cX9_readStatement 58 = .ok (.ldc 71, 2) := by decide +kernel
theorem dX9_readStatement_60 : decode cX9_readStatement 60 = .ok (.invokevirtual 45, 3) := by decide +kernel
theorem dX9_readStatement_63 : decode cX9_readStatement 63 = .ok (.ifCond .eq 13, 3) := by decide +kernel
theorem dX9_readStatement_66 : decode cX9_readStatement 66 = .ok (.aload_n 0, 1) := by decide +kernel
theorem dX9_readStatement_67 : decode cX9_readStatement 67 = .ok (.aload_n 1, 1) := by decide +kernel
theorem dX9_readStatement_68 : decode cX9_readStatement 68 = .ok (.getfield 73, 3) := by decide +kernel
theorem dX9_readStatement_71 : decode cX9_readStatement 71 = .ok (.aload_n 2, 1) := by decide +kernel
theorem dX9_readStatement_72 : decode cX9_readStatement 72 = .ok (.invokevirtual 77, 3) := by decide +kernel
theorem dX9_readStatement_75 : decode cX9_readStatement 75 = .ok (.ireturn, 1) := by decide +kernel
theorem dX9_readStatement_76 : decode cX9_readStatement 76 = .ok (.aload_n 2, 1) := by decide +kernel
theorem dX9_readStatement_77 : decode cX9_readStatement 77 = .ok (.ldc 81, 2) := by decide +kernel
theorem dX9_readStatement_79 : decode cX9_readStatement 79 = .ok (.invokevirtual 45, 3) := by decide +kernel
theorem dX9_readStatement_82 : decode cX9_readStatement 82 = .ok (.ifCond .eq 13, 3) := by decide +kernel
theorem dX9_readStatement_85 : decode cX9_readStatement 85 = .ok (.aload_n 0, 1) := by decide +kernel
theorem dX9_readStatement_86 : decode cX9_readStatement 86 = .ok (.aload_n 1, 1) := by decide +kernel
theorem dX9_readStatement_87 : decode cX9_readStatement 87 = .ok (.getfield 83, 3) := by decide +kernel
theorem dX9_readStatement_90 : decode cX9_readStatement 90 = .ok (.aload_n 2, 1) := by decide +kernel
theorem dX9_readStatement_91 : decode cX9_readStatement 91 = .ok (.invokevirtual 87, 3) := by decide +kernel
theorem dX9_readStatement_94 : decode cX9_readStatement 94 = .ok (.ireturn, 1) := by decide +kernel
theorem dX9_readStatement_95 : decode cX9_readStatement 95 = .ok (.aload_n 2, 1) := by decide +kernel
theorem dX9_readStatement_96 : decode cX9_readStatement 96 = .ok (.ldc 91, 2) := by decide +kernel
theorem dX9_readStatement_98 : decode cX9_readStatement 98 = .ok (.invokevirtual 45, 3) := by decide +kernel
theorem dX9_readStatement_101 : decode cX9_readStatement 101 = .ok (.ifCond .eq 13, 3) := by decide +kernel
theorem dX9_readStatement_104 : decode cX9_readStatement 104 = .ok (.aload_n 0, 1) := by decide +kernel
theorem dX9_readStatement_105 : decode cX9_readStatement 105 = .ok (.aload_n 1, 1) := by decide +kernel
theorem dX9_readStatement_106 : decode cX9_readStatement 106 = .ok (.getfield 83, 3) := by decide +kernel
theorem dX9_readStatement_109 : decode cX9_readStatement 109 = .ok (.aload_n 2, 1) := by decide +kernel
theorem dX9_readStatement_110 : decode cX9_readStatement 110 = .ok (.invokevirtual 93, 3) := by decide +kernel
theorem dX9_readStatement_113 : decode cX9_readStatement 113 = .ok (.ireturn, 1) := by decide +kernel
theorem dX9_readStatement_114 : decode cX9_readStatement 114 = .ok (.aload_n 2, 1) := by decide +kernel
theorem dX9_readStatement_115 : decode cX9_readStatement 115 = .ok (.ldc 96, 2) := by decide +kernel
theorem dX9_readStatement_117 : decode cX9_readStatement 117 = .ok (.invokevirtual 45, 3) := by decide +kernel
theorem dX9_readStatement_120 : decode cX9_readStatement 120 = .ok (.ifCond .eq 10, 3) := by decide +kernel
theorem dX9_readStatement_123 : decode cX9_readStatement 123 = .ok (.aload_n 0, 1) := by decide +kernel
theorem dX9_readStatement_124 : decode cX9_readStatement 124 = .ok (.aload_n 1, 1) := by decide +kernel
theorem dX9_readStatement_125 : decode cX9_readStatement 125 = .ok (.aload_n 2, 1) := by decide +kernel
theorem dX9_readStatement_126 : decode cX9_readStatement 126 = .ok (.invokevirtual 98, 3) := by decide +kernel
theorem dX9_readStatement_129 : decode cX9_readStatement 129 = .ok (.ireturn, 1) := by decide +kernel
theorem dX9_readStatement_130 : decode cX9_readStatement 130 = .ok (.aload_n 2, 1) := by decide +kernel
theorem dX9_readStatement_131 : decode cX9_readStatement 131 = .ok (.iconst 1, 1) := by decide +kernel
theorem dX9_readStatement_132 : decode cX9_readStatement 132 = .ok (.invokevirtual 101, 3) := by decide +kernel
theorem dX9_readStatement_135 : decode cX9_readStatement 135 = .ok (.ireturn, 1) := by decide +kernel
theorem dX9_readArc_0 : decode cX9_readArc 0 = .ok (.aload_n 1, 1) := by decide +kernel
theorem dX9_readArc_1 : decode cX9_readArc 1 = .ok (.getfield 105, 3) := by decide +kernel
theorem dX9_readArc_4 : decode cX9_readArc 4 = .ok (.bipush 8, 2) := by decide +kernel
theorem dX9_readArc_6 : decode cX9_readArc 6 = .ok (.if_icmp .lt 9, 3) := by decide +kernel
theorem dX9_readArc_9 : decode cX9_readArc 9 = .ok (.aload_n 2, 1) := by decide +kernel
theorem dX9_readArc_10 : decode cX9_readArc 10 = .ok (.iconst 5, 1) := by decide +kernel
theorem dX9_readArc_11 : decode cX9_readArc 11 = .ok (.invokevirtual 101, 3) := by decide +kernel
theorem dX9_readArc_14 : decode cX9_readArc 14 = .ok (.ireturn, 1) := by decide +kernel
theorem dX9_readArc_15 : decode cX9_readArc 15 = .ok (.aload_n 2, 1) := by decide +kernel
theorem dX9_readArc_16 : decode cX9_readArc 16 = .ok (.invokevirtual 111, 3) := by decide +kernel
theorem dX9_readArc_19 : decode cX9_readArc 19 = .ok (.aload_n 2, 1) := by decide +kernel
theorem dX9_readArc_20 : decode cX9_readArc 20 = .ok (.iconst 1, 1) := by decide +kernel
theorem dX9_readArc_21 : decode cX9_readArc 21 = .ok (.bipush 99, 2) := by decide +kernel
theorem dX9_readArc_23 : decode cX9_readArc 23 = .ok (.invokevirtual 114, 3) := by decide +kernel
theorem dX9_readArc_26 : decode cX9_readArc 26 = .ok (.ifCond .ne 5, 3) := by decide +kernel
theorem dX9_readArc_29 : decode cX9_readArc 29 = .ok (.iconst 0, 1) := by decide +kernel
theorem dX9_readArc_30 : decode cX9_readArc 30 = .ok (.ireturn, 1) := by decide +kernel
theorem dX9_readArc_31 : decode cX9_readArc 31 = .ok (.aload_n 2, 1) := by decide +kernel
theorem dX9_readArc_32 : decode cX9_readArc 32 = .ok (.getfield 118, 3) := by decide +kernel
theorem dX9_readArc_35 : decode cX9_readArc 35 = .ok (.istore_n 3, 1) := by decide +kernel
theorem dX9_readArc_36 : decode cX9_readArc 36 = .ok (.aload_n 2, 1) := by decide +kernel
theorem dX9_readArc_37 : decode cX9_readArc 37 = .ok (.iconst 1, 1) := by decide +kernel
theorem dX9_readArc_38 : decode cX9_readArc 38 = .ok (.sipush 180, 3) := by decide +kernel
theorem dX9_readArc_41 : decode cX9_readArc 41 = .ok (.invokevirtual 114, 3) := by decide +kernel
theorem dX9_readArc_44 : decode cX9_readArc 44 = .ok (.ifCond .ne 5, 3) := by decide +kernel
theorem dX9_readArc_47 : decode cX9_readArc 47 = .ok (.iconst 0, 1) := by decide +kernel
theorem dX9_readArc_48 : decode cX9_readArc 48 = .ok (.ireturn, 1) := by decide +kernel
theorem dX9_readArc_49 : decode cX9_readArc 49 = .ok (.aload_n 2, 1) := by decide +kernel
theorem dX9_readArc_50 : decode cX9_readArc 50 = .ok (.getfield 118, 3) := by decide +kernel
theorem dX9_readArc_53 : decode cX9_readArc 53 = .ok (.istore 4, 2) := by decide +kernel
theorem dX9_readArc_55 : decode cX9_readArc 55 = .ok (.aload_n 2, 1) := by decide +kernel
theorem dX9_readArc_56 : decode cX9_readArc 56 = .ok (.ldc 121, 2) := by decide +kernel
theorem dX9_readArc_58 : decode cX9_readArc 58 = .ok (.invokevirtual 123, 3) := by decide +kernel
theorem dX9_readArc_61 : decode cX9_readArc 61 = .ok (.istore 5, 2) := by decide +kernel
theorem dX9_readArc_63 : decode cX9_readArc 63 = .ok (.bipush 30, 2) := by decide +kernel
theorem dX9_readArc_65 : decode cX9_readArc 65 = .ok (.istore 6, 2) := by decide +kernel
theorem dX9_readArc_67 : decode cX9_readArc 67 = .ok (.aload_n 2, 1) := by decide +kernel
theorem dX9_readArc_68 : decode cX9_readArc 68 = .ok (.ldc 126, 2) := by decide +kernel
theorem dX9_readArc_70 : decode cX9_readArc 70 = .ok (.invokevirtual 123, 3) := by decide +kernel
theorem dX9_readArc_73 : decode cX9_readArc 73 = .ok (.ifCond .eq 21, 3) := by decide +kernel
theorem dX9_readArc_76 : decode cX9_readArc 76 = .ok (.aload_n 2, 1) := by decide +kernel
theorem dX9_readArc_77 : decode cX9_readArc 77 = .ok (.iconst 0, 1) := by decide +kernel
theorem dX9_readArc_78 : decode cX9_readArc 78 = .ok (.bipush 99, 2) := by decide +kernel
theorem dX9_readArc_80 : decode cX9_readArc 80 = .ok (.invokevirtual 114, 3) := by decide +kernel
theorem dX9_readArc_83 : decode cX9_readArc 83 = .ok (.ifCond .ne 5, 3) := by decide +kernel
theorem dX9_readArc_86 : decode cX9_readArc 86 = .ok (.iconst 0, 1) := by decide +kernel
theorem dX9_readArc_87 : decode cX9_readArc 87 = .ok (.ireturn, 1) := by decide +kernel
theorem dX9_readArc_88 : decode cX9_readArc 88 = .ok (.aload_n 2, 1) := by decide +kernel
theorem dX9_readArc_89 : decode cX9_readArc 89 = .ok (.getfield 118, 3) := by decide +kernel
theorem dX9_readArc_92 : decode cX9_readArc 92 = .ok (.istore 6, 2) := by decide +kernel
theorem dX9_readArc_94 : decode cX9_readArc 94 = .ok (.aload_n 1, 1) := by decide +kernel
theorem dX9_readArc_95 : decode cX9_readArc 95 = .ok (.iload_n 3, 1) := by decide +kernel
theorem dX9_readArc_96 : decode cX9_readArc 96 = .ok (.iload 4, 2) := by decide +kernel
theorem dX9_readArc_98 : decode cX9_readArc 98 = .ok (.iload 5, 2) := by decide +kernel
theorem dX9_readArc_100 : decode cX9_readArc 100 = .ok (.iload 6, 2) := by decide +kernel
theorem dX9_readArc_102 : decode cX9_readArc 102 = .ok (.invokevirtual 128, 3) := by decide +kernel
theorem dX9_readArc_105 : decode cX9_readArc 105 = .ok (.iconst 1, 1) := by decide +kernel
theorem dX9_readArc_106 : decode cX9_readArc 106 = .ok (.ireturn, 1) := by decide +kernel
theorem dX9_readName_0 : decode cX9_readName 0 = .ok (.aload_n 2, 1) := by decide +kernel
theorem dX9_readName_1 : decode cX9_readName 1 = .ok (.invokevirtual 111, 3) := by decide +kernel
theorem dX9_readName_4 : decode cX9_readName 4 = .ok (.aload_n 2, 1) := by decide +kernel
theorem dX9_readName_5 : decode cX9_readName 5 = .ok (.invokevirtual 132, 3) := by decide +kernel
theorem dX9_readName_8 : decode cX9_readName 8 = .ok (.ifCond .ne 9, 3) := by decide +kernel
theorem dX9_readName_11 : decode cX9_readName 11 = .ok (.aload_n 2, 1) := by decide +kernel
theorem dX9_readName_12 : decode cX9_readName 12 = .ok (.iconst 1, 1) := by decide +kernel
theorem dX9_readName_13 : decode cX9_readName 13 = .ok (.invokevirtual 101, 3) := by decide +kernel
theorem dX9_readName_16 : decode cX9_readName 16 = .ok (.ireturn, 1) := by decide +kernel
theorem dX9_readName_17 : decode cX9_readName 17 = .ok (.aload_n 1, 1) := by decide +kernel
theorem dX9_readName_18 : decode cX9_readName 18 = .ok (.getfield 135, 3) := by decide +kernel
theorem dX9_readName_21 : decode cX9_readName 21 = .ok (.aload_n 2, 1) := by decide +kernel
theorem dX9_readName_22 : decode cX9_readName 22 = .ok (.getfield 140, 3) := by decide +kernel
theorem dX9_readName_25 : decode cX9_readName 25 = .ok (.iadd, 1) := by decide +kernel
theorem dX9_readName_26 : decode cX9_readName 26 = .ok (.aload_n 2, 1) := by decide +kernel
theorem dX9_readName_27 : decode cX9_readName 27 = .ok (.getfield 143, 3) := by decide +kernel
theorem dX9_readName_30 : decode cX9_readName 30 = .ok (.isub, 1) := by decide +kernel
theorem dX9_readName_31 : decode cX9_readName 31 = .ok (.bipush 20, 2) := by decide +kernel
theorem dX9_readName_33 : decode cX9_readName 33 = .ok (.if_icmp .le 9, 3) := by decide +kernel
theorem dX9_readName_36 : decode cX9_readName 36 = .ok (.aload_n 2, 1) := by decide +kernel
theorem dX9_readName_37 : decode cX9_readName 37 = .ok (.iconst 5, 1) := by decide +kernel
theorem dX9_readName_38 : decode cX9_readName 38 = .ok (.invokevirtual 101, 3) := by decide +kernel
theorem dX9_readName_41 : decode cX9_readName 41 = .ok (.ireturn, 1) := by decide +kernel
theorem dX9_readName_42 : decode cX9_readName 42 = .ok (.aload_n 1, 1) := by decide +kernel
theorem dX9_readName_43 : decode cX9_readName 43 = .ok (.aload_n 2, 1) := by decide +kernel
theorem dX9_readName_44 : decode cX9_readName 44 = .ok (.aload_n 2, 1) := by decide +kernel
theorem dX9_readName_45 : decode cX9_readName 45 = .ok (.getfield 143, 3) := by decide +kernel
theorem dX9_readName_48 : decode cX9_readName 48 = .ok (.aload_n 2, 1) := by decide +kernel
theorem dX9_readName_49 : decode cX9_readName 49 = .ok (.getfield 140, 3) := by decide +kernel
theorem dX9_readName_52 : decode cX9_readName 52 = .ok (.invokevirtual 146, 3) := by decide +kernel
theorem dX9_readName_55 : decode cX9_readName 55 = .ok (.aload_n 2, 1) := by decide +kernel
theorem dX9_readName_56 : decode cX9_readName 56 = .ok (.invokevirtual 111, 3) := by decide +kernel
theorem dX9_readName_59 : decode cX9_readName 59 = .ok (.iconst 1, 1) := by decide +kernel
theorem dX9_readName_60 : decode cX9_readName 60 = .ok (.ireturn, 1) := by decide +kernel
theorem dX9_readWide_0 : decode cX9_readWide 0 = .ok (.aload_n 2, 1) := by decide +kernel
theorem dX9_readWide_1 : decode cX9_readWide 1 = .ok (.invokevirtual 111, 3) := by decide +kernel
theorem dX9_readWide_4 : decode cX9_readWide 4 = .ok (.aload_n 2, 1) := by decide +kernel
theorem dX9_readWide_5 : decode cX9_readWide 5 = .ok (.invokevirtual 132, 3) := by decide +kernel
theorem dX9_readWide_8 : decode cX9_readWide 8 = .ok (.ifCond .ne 9, 3) := by decide +kernel
theorem dX9_readWide_11 : decode cX9_readWide 11 = .ok (.aload_n 2, 1) := by decide +kernel
theorem dX9_readWide_12 : decode cX9_readWide 12 = .ok (.iconst 1, 1) := by decide +kernel
theorem dX9_readWide_13 : decode cX9_readWide 13 = .ok (.invokevirtual 101, 3) := by decide +kernel
theorem dX9_readWide_16 : decode cX9_readWide 16 = .ok (.ireturn, 1) := by decide +kernel
theorem dX9_readWide_17 : decode cX9_readWide 17 = .ok (.aload_n 2, 1) := by decide +kernel
theorem dX9_readWide_18 : decode cX9_readWide 18 = .ok (.getfield 143, 3) := by decide +kernel
theorem dX9_readWide_21 : decode cX9_readWide 21 = .ok (.istore_n 3, 1) := by decide +kernel
theorem dX9_readWide_22 : decode cX9_readWide 22 = .ok (.aload_n 2, 1) := by decide +kernel
theorem dX9_readWide_23 : decode cX9_readWide 23 = .ok (.getfield 140, 3) := by decide +kernel
theorem dX9_readWide_26 : decode cX9_readWide 26 = .ok (.istore 4, 2) := by decide +kernel
theorem dX9_readWide_28 : decode cX9_readWide 28 = .ok (.aload_n 2, 1) := by decide +kernel
theorem dX9_readWide_29 : decode cX9_readWide 29 = .ok (.invokevirtual 111, 3) := by decide +kernel
theorem dX9_readWide_32 : decode cX9_readWide 32 = .ok (.aload_n 2, 1) := by decide +kernel
theorem dX9_readWide_33 : decode cX9_readWide 33 = .ok (.iconst 1, 1) := by decide +kernel
theorem dX9_readWide_34 : decode cX9_readWide 34 = .ok (.bipush 99, 2) := by decide +kernel
theorem dX9_readWide_36 : decode cX9_readWide 36 = .ok (.invokevirtual 114, 3) := by decide +kernel
theorem dX9_readWide_39 : decode cX9_readWide 39 = .ok (.ifCond .ne 5, 3) := by decide +kernel
theorem dX9_readWide_42 : decode cX9_readWide 42 = .ok (.iconst 0, 1) := by decide +kernel
theorem dX9_readWide_43 : decode cX9_readWide 43 = .ok (.ireturn, 1) := by decide +kernel
theorem dX9_readWide_44 : decode cX9_readWide 44 = .ok (.aload_n 1, 1) := by decide +kernel
theorem dX9_readWide_45 : decode cX9_readWide 45 = .ok (.aload_n 2, 1) := by decide +kernel
theorem dX9_readWide_46 : decode cX9_readWide 46 = .ok (.iload_n 3, 1) := by decide +kernel
theorem dX9_readWide_47 : decode cX9_readWide 47 = .ok (.iload 4, 2) := by decide +kernel
theorem dX9_readWide_49 : decode cX9_readWide 49 = .ok (.aload_n 2, 1) := by decide +kernel
theorem dX9_readWide_50 : decode cX9_readWide 50 = .ok (.getfield 118, 3) := by decide +kernel
theorem dX9_readWide_53 : decode cX9_readWide 53 = .ok (.invokevirtual 150, 3) := by decide +kernel
theorem dX9_readWide_56 : decode cX9_readWide 56 = .ok (.iconst 1, 1) := by decide +kernel
theorem dX9_readWide_57 : decode cX9_readWide 57 = .ok (.ireturn, 1) := by decide +kernel
theorem dX9_readFlourish_0 : decode cX9_readFlourish 0 = .ok (.aload_n 1, 1) := by decide +kernel
theorem dX9_readFlourish_1 : decode cX9_readFlourish 1 = .ok (.getfield 154, 3) := by decide +kernel
theorem dX9_readFlourish_4 : decode cX9_readFlourish 4 = .ok (.bipush 6, 2) := by decide +kernel
theorem dX9_readFlourish_6 : decode cX9_readFlourish 6 = .ok (.if_icmp .lt 9, 3) := by decide +kernel
theorem dX9_readFlourish_9 : decode cX9_readFlourish 9 = .ok (.aload_n 2, 1) := by decide +kernel
theorem dX9_readFlourish_10 : decode cX9_readFlourish 10 = .ok (.iconst 5, 1) := by decide +kernel
theorem dX9_readFlourish_11 : decode cX9_readFlourish 11 = .ok (.invokevirtual 101, 3) := by decide +kernel
theorem dX9_readFlourish_14 : decode cX9_readFlourish 14 = .ok (.ireturn, 1) := by decide +kernel
theorem dX9_readFlourish_15 : decode cX9_readFlourish 15 = .ok (.aload_n 2, 1) := by decide +kernel
theorem dX9_readFlourish_16 : decode cX9_readFlourish 16 = .ok (.invokevirtual 111, 3) := by decide +kernel
theorem dX9_readFlourish_19 : decode cX9_readFlourish 19 = .ok (.aload_n 2, 1) := by decide +kernel
theorem dX9_readFlourish_20 : decode cX9_readFlourish 20 = .ok (.invokevirtual 132, 3) := by decide +kernel
theorem dX9_readFlourish_23 : decode cX9_readFlourish 23 = .ok (.ifCond .ne 9, 3) := by decide +kernel
theorem dX9_readFlourish_26 : decode cX9_readFlourish 26 = .ok (.aload_n 2, 1) := by decide +kernel
theorem dX9_readFlourish_27 : decode cX9_readFlourish 27 = .ok (.iconst 1, 1) := by decide +kernel
theorem dX9_readFlourish_28 : decode cX9_readFlourish 28 = .ok (.invokevirtual 101, 3) := by decide +kernel
theorem dX9_readFlourish_31 : decode cX9_readFlourish 31 = .ok (.ireturn, 1) := by decide +kernel
theorem dX9_readFlourish_32 : decode cX9_readFlourish 32 = .ok (.aload_n 1, 1) := by decide +kernel
theorem dX9_readFlourish_33 : decode cX9_readFlourish 33 = .ok (.aload_n 2, 1) := by decide +kernel
theorem dX9_readFlourish_34 : decode cX9_readFlourish 34 = .ok (.invokevirtual 159, 3) := by decide +kernel
theorem dX9_readFlourish_37 : decode cX9_readFlourish 37 = .ok (.aload_n 1, 1) := by decide +kernel
theorem dX9_readFlourish_38 : decode cX9_readFlourish 38 = .ok (.invokevirtual 163, 3) := by decide +kernel
theorem dX9_readFlourish_41 : decode cX9_readFlourish 41 = .ok (.ifCond .eq 9, 3) := by decide +kernel
theorem dX9_readFlourish_44 : decode cX9_readFlourish 44 = .ok (.aload_n 2, 1) := by decide +kernel
theorem dX9_readFlourish_45 : decode cX9_readFlourish 45 = .ok (.iconst 3, 1) := by decide +kernel
theorem dX9_readFlourish_46 : decode cX9_readFlourish 46 = .ok (.invokevirtual 101, 3) := by decide +kernel
theorem dX9_readFlourish_49 : decode cX9_readFlourish 49 = .ok (.ireturn, 1) := by decide +kernel
theorem dX9_readFlourish_50 : decode cX9_readFlourish 50 = .ok (.aload_n 2, 1) := by decide +kernel
theorem dX9_readFlourish_51 : decode cX9_readFlourish 51 = .ok (.invokevirtual 111, 3) := by decide +kernel
theorem dX9_readFlourish_54 : decode cX9_readFlourish 54 = .ok (.aload_n 2, 1) := by decide +kernel
theorem dX9_readFlourish_55 : decode cX9_readFlourish 55 = .ok (.iconst 1, 1) := by decide +kernel
theorem dX9_readFlourish_56 : decode cX9_readFlourish 56 = .ok (.bipush 99, 2) := by decide +kernel
theorem dX9_readFlourish_58 : decode cX9_readFlourish 58 = .ok (.invokevirtual 114, 3) := by decide +kernel
theorem dX9_readFlourish_61 : decode cX9_readFlourish 61 = .ok (.ifCond .ne 5, 3) := by decide +kernel
theorem dX9_readFlourish_64 : decode cX9_readFlourish 64 = .ok (.iconst 0, 1) := by decide +kernel
theorem dX9_readFlourish_65 : decode cX9_readFlourish 65 = .ok (.ireturn, 1) := by decide +kernel
theorem dX9_readFlourish_66 : decode cX9_readFlourish 66 = .ok (.aload_n 2, 1) := by decide +kernel
theorem dX9_readFlourish_67 : decode cX9_readFlourish 67 = .ok (.getfield 118, 3) := by decide +kernel
theorem dX9_readFlourish_70 : decode cX9_readFlourish 70 = .ok (.istore_n 3, 1) := by decide +kernel
theorem dX9_readFlourish_71 : decode cX9_readFlourish 71 = .ok (.aload_n 2, 1) := by decide +kernel
theorem dX9_readFlourish_72 : decode cX9_readFlourish 72 = .ok (.iconst 1, 1) := by decide +kernel
theorem dX9_readFlourish_73 : decode cX9_readFlourish 73 = .ok (.bipush 99, 2) := by decide +kernel
theorem dX9_readFlourish_75 : decode cX9_readFlourish 75 = .ok (.invokevirtual 114, 3) := by decide +kernel
theorem dX9_readFlourish_78 : decode cX9_readFlourish 78 = .ok (.ifCond .ne 5, 3) := by decide +kernel
theorem dX9_readFlourish_81 : decode cX9_readFlourish 81 = .ok (.iconst 0, 1) := by decide +kernel
theorem dX9_readFlourish_82 : decode cX9_readFlourish 82 = .ok (.ireturn, 1) := by decide +kernel
theorem dX9_readFlourish_83 : decode cX9_readFlourish 83 = .ok (.aload_n 2, 1) := by decide +kernel
theorem dX9_readFlourish_84 : decode cX9_readFlourish 84 = .ok (.getfield 118, 3) := by decide +kernel
theorem dX9_readFlourish_87 : decode cX9_readFlourish 87 = .ok (.istore 4, 2) := by decide +kernel
theorem dX9_readFlourish_89 : decode cX9_readFlourish 89 = .ok (.aload_n 2, 1) := by decide +kernel
theorem dX9_readFlourish_90 : decode cX9_readFlourish 90 = .ok (.iconst 1, 1) := by decide +kernel
theorem dX9_readFlourish_91 : decode cX9_readFlourish 91 = .ok (.bipush 9, 2) := by decide +kernel
theorem dX9_readFlourish_93 : decode cX9_readFlourish 93 = .ok (.invokevirtual 114, 3) := by decide +kernel
theorem dX9_readFlourish_96 : decode cX9_readFlourish 96 = .ok (.ifCond .ne 5, 3) := by decide +kernel
theorem dX9_readFlourish_99 : decode cX9_readFlourish 99 = .ok (.iconst 0, 1) := by decide +kernel
theorem dX9_readFlourish_100 : decode cX9_readFlourish 100 = .ok (.ireturn, 1) := by decide +kernel
theorem dX9_readFlourish_101 : decode cX9_readFlourish 101 = .ok (.aload_n 1, 1) := by decide +kernel
theorem dX9_readFlourish_102 : decode cX9_readFlourish 102 = .ok (.iload_n 3, 1) := by decide +kernel
theorem dX9_readFlourish_103 : decode cX9_readFlourish 103 = .ok (.iload 4, 2) := by decide +kernel
theorem dX9_readFlourish_105 : decode cX9_readFlourish 105 = .ok (.aload_n 2, 1) := by decide +kernel
theorem dX9_readFlourish_106 : decode cX9_readFlourish 106 = .ok (.getfield 118, 3) := by decide +kernel
theorem dX9_readFlourish_109 : decode cX9_readFlourish 109 = .ok (.invokevirtual 166, 3) := by decide +kernel
theorem dX9_readFlourish_112 : decode cX9_readFlourish 112 = .ok (.iconst 1, 1) := by decide +kernel
theorem dX9_readFlourish_113 : decode cX9_readFlourish 113 = .ok (.ireturn, 1) := by decide +kernel
theorem dX9_readSeed_0 : decode cX9_readSeed 0 = .ok (.aload_n 0, 1) := by decide +kernel
theorem dX9_readSeed_1 : decode cX9_readSeed 1 = .ok (.getfield 14, 3) := by decide +kernel
theorem dX9_readSeed_4 : decode cX9_readSeed 4 = .ok (.ifCond .eq 9, 3) := by decide +kernel
theorem dX9_readSeed_7 : decode cX9_readSeed 7 = .ok (.aload_n 2, 1) := by decide +kernel
theorem dX9_readSeed_8 : decode cX9_readSeed 8 = .ok (.iconst 3, 1) := by decide +kernel
theorem dX9_readSeed_9 : decode cX9_readSeed 9 = .ok (.invokevirtual 101, 3) := by decide +kernel
theorem dX9_readSeed_12 : decode cX9_readSeed 12 = .ok (.ireturn, 1) := by decide +kernel
theorem dX9_readSeed_13 : decode cX9_readSeed 13 = .ok (.aload_n 0, 1) := by decide +kernel
theorem dX9_readSeed_14 : decode cX9_readSeed 14 = .ok (.iconst 1, 1) := by decide +kernel
theorem dX9_readSeed_15 : decode cX9_readSeed 15 = .ok (.putfield 14, 3) := by decide +kernel
theorem dX9_readSeed_18 : decode cX9_readSeed 18 = .ok (.aload_n 2, 1) := by decide +kernel
theorem dX9_readSeed_19 : decode cX9_readSeed 19 = .ok (.invokevirtual 111, 3) := by decide +kernel
theorem dX9_readSeed_22 : decode cX9_readSeed 22 = .ok (.aload_n 2, 1) := by decide +kernel
theorem dX9_readSeed_23 : decode cX9_readSeed 23 = .ok (.iconst 0, 1) := by decide +kernel
theorem dX9_readSeed_24 : decode cX9_readSeed 24 = .ok (.sipush 999, 3) := by decide +kernel
theorem dX9_readSeed_27 : decode cX9_readSeed 27 = .ok (.invokevirtual 114, 3) := by decide +kernel
theorem dX9_readSeed_30 : decode cX9_readSeed 30 = .ok (.ifCond .ne 5, 3) := by decide +kernel
theorem dX9_readSeed_33 : decode cX9_readSeed 33 = .ok (.iconst 0, 1) := by decide +kernel
theorem dX9_readSeed_34 : decode cX9_readSeed 34 = .ok (.ireturn, 1) := by decide +kernel
theorem dX9_readSeed_35 : decode cX9_readSeed 35 = .ok (.aload_n 1, 1) := by decide +kernel
theorem dX9_readSeed_36 : decode cX9_readSeed 36 = .ok (.aload_n 2, 1) := by decide +kernel
theorem dX9_readSeed_37 : decode cX9_readSeed 37 = .ok (.getfield 118, 3) := by decide +kernel
theorem dX9_readSeed_40 : decode cX9_readSeed 40 = .ok (.putfield 170, 3) := by decide +kernel
theorem dX9_readSeed_43 : decode cX9_readSeed 43 = .ok (.iconst 1, 1) := by decide +kernel
theorem dX9_readSeed_44 : decode cX9_readSeed 44 = .ok (.ireturn, 1) := by decide +kernel
theorem dX9_readSharp_0 : decode cX9_readSharp 0 = .ok (.aload_n 0, 1) := by decide +kernel
theorem dX9_readSharp_1 : decode cX9_readSharp 1 = .ok (.getfield 20, 3) := by decide +kernel
theorem dX9_readSharp_4 : decode cX9_readSharp 4 = .ok (.ifCond .eq 9, 3) := by decide +kernel
theorem dX9_readSharp_7 : decode cX9_readSharp 7 = .ok (.aload_n 2, 1) := by decide +kernel
theorem dX9_readSharp_8 : decode cX9_readSharp 8 = .ok (.iconst 3, 1) := by decide +kernel
theorem dX9_readSharp_9 : decode cX9_readSharp 9 = .ok (.invokevirtual 101, 3) := by decide +kernel
theorem dX9_readSharp_12 : decode cX9_readSharp 12 = .ok (.ireturn, 1) := by decide +kernel
theorem dX9_readSharp_13 : decode cX9_readSharp 13 = .ok (.aload_n 0, 1) := by decide +kernel
theorem dX9_readSharp_14 : decode cX9_readSharp 14 = .ok (.iconst 1, 1) := by decide +kernel
theorem dX9_readSharp_15 : decode cX9_readSharp 15 = .ok (.putfield 20, 3) := by decide +kernel
theorem dX9_readSharp_18 : decode cX9_readSharp 18 = .ok (.aload_n 2, 1) := by decide +kernel
theorem dX9_readSharp_19 : decode cX9_readSharp 19 = .ok (.invokevirtual 111, 3) := by decide +kernel
theorem dX9_readSharp_22 : decode cX9_readSharp 22 = .ok (.aload_n 2, 1) := by decide +kernel
theorem dX9_readSharp_23 : decode cX9_readSharp 23 = .ok (.iconst 1, 1) := by decide +kernel
theorem dX9_readSharp_24 : decode cX9_readSharp 24 = .ok (.bipush 99, 2) := by decide +kernel
theorem dX9_readSharp_26 : decode cX9_readSharp 26 = .ok (.invokevirtual 114, 3) := by decide +kernel
theorem dX9_readSharp_29 : decode cX9_readSharp 29 = .ok (.ifCond .ne 5, 3) := by decide +kernel
theorem dX9_readSharp_32 : decode cX9_readSharp 32 = .ok (.iconst 0, 1) := by decide +kernel
theorem dX9_readSharp_33 : decode cX9_readSharp 33 = .ok (.ireturn, 1) := by decide +kernel
theorem dX9_readSharp_34 : decode cX9_readSharp 34 = .ok (.aload_n 1, 1) := by decide +kernel
theorem dX9_readSharp_35 : decode cX9_readSharp 35 = .ok (.aload_n 2, 1) := by decide +kernel
theorem dX9_readSharp_36 : decode cX9_readSharp 36 = .ok (.getfield 118, 3) := by decide +kernel
theorem dX9_readSharp_39 : decode cX9_readSharp 39 = .ok (.putfield 175, 3) := by decide +kernel
theorem dX9_readSharp_42 : decode cX9_readSharp 42 = .ok (.iconst 1, 1) := by decide +kernel
theorem dX9_readSharp_43 : decode cX9_readSharp 43 = .ok (.ireturn, 1) := by decide +kernel
theorem dX9_readMargin_0 : decode cX9_readMargin 0 = .ok (.aload_n 0, 1) := by decide +kernel
theorem dX9_readMargin_1 : decode cX9_readMargin 1 = .ok (.getfield 23, 3) := by decide +kernel
theorem dX9_readMargin_4 : decode cX9_readMargin 4 = .ok (.ifCond .eq 9, 3) := by decide +kernel
theorem dX9_readMargin_7 : decode cX9_readMargin 7 = .ok (.aload_n 2, 1) := by decide +kernel
theorem dX9_readMargin_8 : decode cX9_readMargin 8 = .ok (.iconst 3, 1) := by decide +kernel
theorem dX9_readMargin_9 : decode cX9_readMargin 9 = .ok (.invokevirtual 101, 3) := by decide +kernel
theorem dX9_readMargin_12 : decode cX9_readMargin 12 = .ok (.ireturn, 1) := by decide +kernel
theorem dX9_readMargin_13 : decode cX9_readMargin 13 = .ok (.aload_n 0, 1) := by decide +kernel
theorem dX9_readMargin_14 : decode cX9_readMargin 14 = .ok (.iconst 1, 1) := by decide +kernel
theorem dX9_readMargin_15 : decode cX9_readMargin 15 = .ok (.putfield 23, 3) := by decide +kernel
theorem dX9_readMargin_18 : decode cX9_readMargin 18 = .ok (.aload_n 2, 1) := by decide +kernel
theorem dX9_readMargin_19 : decode cX9_readMargin 19 = .ok (.invokevirtual 111, 3) := by decide +kernel
theorem dX9_readMargin_22 : decode cX9_readMargin 22 = .ok (.aload_n 2, 1) := by decide +kernel
theorem dX9_readMargin_23 : decode cX9_readMargin 23 = .ok (.iconst 0, 1) := by decide +kernel
theorem dX9_readMargin_24 : decode cX9_readMargin 24 = .ok (.bipush 99, 2) := by decide +kernel
theorem dX9_readMargin_26 : decode cX9_readMargin 26 = .ok (.invokevirtual 114, 3) := by decide +kernel
theorem dX9_readMargin_29 : decode cX9_readMargin 29 = .ok (.ifCond .ne 5, 3) := by decide +kernel
theorem dX9_readMargin_32 : decode cX9_readMargin 32 = .ok (.iconst 0, 1) := by decide +kernel
theorem dX9_readMargin_33 : decode cX9_readMargin 33 = .ok (.ireturn, 1) := by decide +kernel
theorem dX9_readMargin_34 : decode cX9_readMargin 34 = .ok (.aload_n 1, 1) := by decide +kernel
theorem dX9_readMargin_35 : decode cX9_readMargin 35 = .ok (.aload_n 2, 1) := by decide +kernel
theorem dX9_readMargin_36 : decode cX9_readMargin 36 = .ok (.getfield 118, 3) := by decide +kernel
theorem dX9_readMargin_39 : decode cX9_readMargin 39 = .ok (.putfield 177, 3) := by decide +kernel
theorem dX9_readMargin_42 : decode cX9_readMargin 42 = .ok (.iconst 1, 1) := by decide +kernel
theorem dX9_readMargin_43 : decode cX9_readMargin 43 = .ok (.ireturn, 1) := by decide +kernel
theorem dX10_init_0 : decode cX10_init 0 = .ok (.aload_n 0, 1) := by decide +kernel
theorem dX10_init_1 : decode cX10_init 1 = .ok (.invokespecial 3, 3) := by decide +kernel
theorem dX10_init_4 : decode cX10_init 4 = .ok (.aload_n 0, 1) := by decide +kernel
theorem dX10_init_5 : decode cX10_init 5 = .ok (.sipush 500, 3) := by decide +kernel
theorem dX10_init_8 : decode cX10_init 8 = .ok (.newarray .byte, 2) := by decide +kernel
theorem dX10_init_10 : decode cX10_init 10 = .ok (.putfield 9, 3) := by decide +kernel
theorem dX10_init_13 : decode cX10_init 13 = .ok (.aload_n 0, 1) := by decide +kernel
theorem dX10_init_14 : decode cX10_init 14 = .ok (.iconst (-1), 1) := by decide +kernel
theorem dX10_init_15 : decode cX10_init 15 = .ok (.putfield 15, 3) := by decide +kernel
theorem dX10_init_18 : decode cX10_init 18 = .ok (.return_, 1) := by decide +kernel
theorem dX10_append_0 : decode cX10_append 0 = .ok (.bipush 24, 2) := by decide +kernel
theorem dX10_append_2 : decode cX10_append 2 = .ok (.istore_n 2, 1) := by decide +kernel
theorem dX10_append_3 : decode cX10_append 3 = .ok (.iload_n 2, 1) := by decide +kernel
theorem dX10_append_4 : decode cX10_append 4 = .ok (.ifCond .lt 42, 3) := by decide +kernel
theorem dX10_append_7 : decode cX10_append 7 = .ok (.aload_n 0, 1) := by decide +kernel
theorem dX10_append_8 : decode cX10_append 8 = .ok (.getfield 19, 3) := by decide +kernel
theorem dX10_append_11 : decode cX10_append 11 = .ok (.sipush 500, 3) := by decide +kernel
theorem dX10_append_14 : decode cX10_append 14 = .ok (.if_icmp .ge 26, 3) := by decide +kernel
theorem dX10_append_17 : decode cX10_append 17 = .ok (.aload_n 0, 1) := by decide +kernel
theorem dX10_append_18 : decode cX10_append 18 = .ok (.getfield 9, 3) := by decide +kernel
theorem dX10_append_21 : decode cX10_append 21 = .ok (.aload_n 0, 1) := by decide +kernel
theorem dX10_append_22 : decode cX10_append 22 = .ok (.getfield 19, 3) := by decide +kernel
theorem dX10_append_25 : decode cX10_append 25 = .ok (.iload_n 1, 1) := by decide +kernel
theorem dX10_append_26 : decode cX10_append 26 = .ok (.iload_n 2, 1) := by decide +kernel
theorem dX10_append_27 : decode cX10_append 27 = .ok (.iushr, 1) := by decide +kernel
theorem dX10_append_28 : decode cX10_append 28 = .ok (.i2b, 1) := by decide +kernel
theorem dX10_append_29 : decode cX10_append 29 = .ok (.bastore, 1) := by decide +kernel
theorem dX10_append_30 : decode cX10_append 30 = .ok (.aload_n 0, 1) := by decide +kernel
theorem dX10_append_31 : decode cX10_append 31 = .ok (.dup, 1) := by decide +kernel
theorem dX10_append_32 : decode cX10_append 32 = .ok (.getfield 19, 3) := by decide +kernel
theorem dX10_append_35 : decode cX10_append 35 = .ok (.iconst 1, 1) := by decide +kernel
theorem dX10_append_36 : decode cX10_append 36 = .ok (.iadd, 1) := by decide +kernel
theorem dX10_append_37 : decode cX10_append 37 = .ok (.putfield 19, 3) := by decide +kernel
theorem dX10_append_40 : decode cX10_append 40 = .ok (.iinc 2 (-8), 3) := by decide +kernel
theorem dX10_append_43 : decode cX10_append 43 = .ok (.goto (-40), 3) := by decide +kernel
theorem dX10_append_46 : decode cX10_append 46 = .ok (.return_, 1) := by decide +kernel
theorem dX10_byteAt_0 : decode cX10_byteAt 0 = .ok (.iload_n 1, 1) := by decide +kernel
theorem dX10_byteAt_1 : decode cX10_byteAt 1 = .ok (.iconst 0, 1) := by decide +kernel
theorem dX10_byteAt_2 : decode cX10_byteAt 2 = .ok (.sipush 499, 3) := by decide +kernel
theorem dX10_byteAt_5 : decode cX10_byteAt 5 = .ok (.invokestatic 22, 3) := by decide +kernel
theorem dX10_byteAt_8 : decode cX10_byteAt 8 = .ok (.ifCond .eq 12, 3) := by decide +kernel
theorem dX10_byteAt_11 : decode cX10_byteAt 11 = .ok (.aload_n 0, 1) := by decide +kernel
theorem dX10_byteAt_12 : decode cX10_byteAt 12 = .ok (.getfield 9, 3) := by decide +kernel
theorem dX10_byteAt_15 : decode cX10_byteAt 15 = .ok (.iload_n 1, 1) := by decide +kernel
theorem dX10_byteAt_16 : decode cX10_byteAt 16 = .ok (.baload, 1) := by decide +kernel
theorem dX10_byteAt_17 : decode cX10_byteAt 17 = .ok (.goto 4, 3) := by decide +kernel
theorem dX10_byteAt_20 : decode cX10_byteAt 20 = .ok (.iconst 0, 1) := by decide +kernel
theorem dX10_byteAt_21 : decode cX10_byteAt 21 = .ok (.ireturn, 1) := by decide +kernel
theorem dX10_placeAt_0 : decode cX10_placeAt 0 = .ok (.aload_n 0, 1) := by decide +kernel
theorem dX10_placeAt_1 : decode cX10_placeAt 1 = .ok (.iload_n 1, 1) := by decide +kernel
theorem dX10_placeAt_2 : decode cX10_placeAt 2 = .ok (.invokevirtual 26, 3) := by decide +kernel
theorem dX10_placeAt_5 : decode cX10_placeAt 5 = .ok (.bipush 97, 2) := by decide +kernel
theorem dX10_placeAt_7 : decode cX10_placeAt 7 = .ok (.isub, 1) := by decide +kernel
theorem dX10_placeAt_8 : decode cX10_placeAt 8 = .ok (.ireturn, 1) := by decide +kernel
theorem dX10_endOfRun_0 : decode cX10_endOfRun 0 = .ok (.iload_n 1, 1) := by decide +kernel
theorem dX10_endOfRun_1 : decode cX10_endOfRun 1 = .ok (.istore 4, 2) := by decide +kernel
theorem dX10_endOfRun_3 : decode cX10_endOfRun 3 = .ok (.iload 4, 2) := by decide +kernel
theorem dX10_endOfRun_5 : decode cX10_endOfRun 5 = .ok (.aload_n 0, 1) := by decide +kernel
theorem dX10_endOfRun_6 : decode cX10_endOfRun 6 = .ok (.getfield 19, 3) := by decide +kernel
theorem dX10_endOfRun_9 : decode cX10_endOfRun 9 = .ok (.if_icmp .ge 31, 3) := by decide +kernel
theorem dX10_endOfRun_12 : decode cX10_endOfRun 12 = .ok (.aload_n 0, 1) := by decide +kernel
theorem dX10_endOfRun_13 : decode cX10_endOfRun 13 = .ok (.getfield 9, 3) := by decide +kernel
theorem dX10_endOfRun_16 : decode cX10_endOfRun 16 = .ok (.iload 4, 2) := by decide +kernel
theorem dX10_endOfRun_18 : decode cX10_endOfRun 18 = .ok (.baload, 1) := by decide +kernel
theorem dX10_endOfRun_19 : decode cX10_endOfRun 19 = .ok (.iload_n 2, 1) := by decide +kernel
theorem dX10_endOfRun_20 : decode cX10_endOfRun 20 = .ok (.if_icmp .lt 20, 3) := by decide +kernel
theorem dX10_endOfRun_23 : decode cX10_endOfRun 23 = .ok (.aload_n 0, 1) := by decide +kernel
theorem dX10_endOfRun_24 : decode cX10_endOfRun 24 = .ok (.getfield 9, 3) := by decide +kernel
theorem dX10_endOfRun_27 : decode cX10_endOfRun 27 = .ok (.iload 4, 2) := by decide +kernel
theorem dX10_endOfRun_29 : decode cX10_endOfRun 29 = .ok (.baload, 1) := by decide +kernel
theorem dX10_endOfRun_30 : decode cX10_endOfRun 30 = .ok (.iload_n 3, 1) := by decide +kernel
theorem dX10_endOfRun_31 : decode cX10_endOfRun 31 = .ok (.if_icmp .gt 9, 3) := by decide +kernel
theorem dX10_endOfRun_34 : decode cX10_endOfRun 34 = .ok (.iinc 4 1, 3) := by decide +kernel
theorem dX10_endOfRun_37 : decode cX10_endOfRun 37 = .ok (.goto (-34), 3) := by decide +kernel
theorem dX10_endOfRun_40 : decode cX10_endOfRun 40 = .ok (.iload 4, 2) := by decide +kernel
theorem dX10_endOfRun_42 : decode cX10_endOfRun 42 = .ok (.ireturn, 1) := by decide +kernel
theorem dX10_endOfBlanks_0 : decode cX10_endOfBlanks 0 = .ok (.iload_n 1, 1) := by decide +kernel
theorem dX10_endOfBlanks_1 : decode cX10_endOfBlanks 1 = .ok (.istore_n 2, 1) := by decide +kernel
theorem dX10_endOfBlanks_2 : decode cX10_endOfBlanks 2 = .ok (.iload_n 2, 1) := by decide +kernel
theorem dX10_endOfBlanks_3 : decode cX10_endOfBlanks 3 = .ok (.aload_n 0, 1) := by decide +kernel
theorem dX10_endOfBlanks_4 : decode cX10_endOfBlanks 4 = .ok (.getfield 19, 3) := by decide +kernel
theorem dX10_endOfBlanks_7 : decode cX10_endOfBlanks 7 = .ok (.if_icmp .ge 31, 3) := by decide +kernel
theorem dX10_endOfBlanks_10 : decode cX10_endOfBlanks 10 = .ok (.aload_n 0, 1) := by decide +kernel
theorem dX10_endOfBlanks_11 : decode cX10_endOfBlanks 11 = .ok (.getfield 9, 3) := by decide +kernel
theorem dX10_endOfBlanks_14 : decode cX10_endOfBlanks 14 = .ok (.iload_n 2, 1) := by decide +kernel
theorem dX10_endOfBlanks_15 : decode cX10_endOfBlanks 15 = .ok (.baload, 1) := by decide +kernel
theorem dX10_endOfBlanks_16 : decode cX10_endOfBlanks 16 = .ok (.bipush 32, 2) := by decide +kernel
theorem dX10_endOfBlanks_18 : decode cX10_endOfBlanks 18 = .ok (.if_icmp .eq 14, 3) := by decide +kernel
theorem dX10_endOfBlanks_21 : decode cX10_endOfBlanks 21 = .ok (.aload_n 0, 1) := by decide +kernel
theorem dX10_endOfBlanks_22 : decode cX10_endOfBlanks 22 = .ok (.getfield 9, 3) := by decide +kernel
theorem dX10_endOfBlanks_25 : decode cX10_endOfBlanks 25 = .ok (.iload_n 2, 1) := by decide +kernel
theorem dX10_endOfBlanks_26 : decode cX10_endOfBlanks 26 = .ok (.baload, 1) := by decide +kernel
theorem dX10_endOfBlanks_27 : decode cX10_endOfBlanks 27 = .ok (.bipush 10, 2) := by decide +kernel
theorem dX10_endOfBlanks_29 : decode cX10_endOfBlanks 29 = .ok (.if_icmp .ne 9, 3) := by decide +kernel
theorem dX10_endOfBlanks_32 : decode cX10_endOfBlanks 32 = .ok (.iinc 2 1, 3) := by decide +kernel
theorem dX10_endOfBlanks_35 : decode cX10_endOfBlanks 35 = .ok (.goto (-33), 3) := by decide +kernel
theorem dX10_endOfBlanks_38 : decode cX10_endOfBlanks 38 = .ok (.iload_n 2, 1) := by decide +kernel
theorem dX10_endOfBlanks_39 : decode cX10_endOfBlanks 39 = .ok (.ireturn, 1) := by decide +kernel
theorem dX10_begin_0 : decode cX10_begin 0 = .ok (.aload_n 0, 1) := by decide +kernel
theorem dX10_begin_1 : decode cX10_begin 1 = .ok (.iconst 0, 1) := by decide +kernel
theorem dX10_begin_2 : decode cX10_begin 2 = .ok (.putfield 34, 3) := by decide +kernel
theorem dX10_begin_5 : decode cX10_begin 5 = .ok (.aload_n 0, 1) := by decide +kernel
theorem dX10_begin_6 : decode cX10_begin 6 = .ok (.iconst (-1), 1) := by decide +kernel
theorem dX10_begin_7 : decode cX10_begin 7 = .ok (.putfield 15, 3) := by decide +kernel
theorem dX10_begin_10 : decode cX10_begin 10 = .ok (.aload_n 0, 1) := by decide +kernel
theorem dX10_begin_11 : decode cX10_begin 11 = .ok (.iconst 0, 1) := by decide +kernel
theorem dX10_begin_12 : decode cX10_begin 12 = .ok (.putfield 37, 3) := by decide +kernel
theorem dX10_begin_15 : decode cX10_begin 15 = .ok (.aload_n 0, 1) := by decide +kernel
theorem dX10_begin_16 : decode cX10_begin 16 = .ok (.invokevirtual 40, 3) := by decide +kernel
theorem dX10_begin_19 : decode cX10_begin 19 = .ok (.return_, 1) := by decide +kernel
theorem dX10_advance_0 : decode cX10_advance 0 = .ok (.aload_n 0, 1) := by decide +kernel
theorem dX10_advance_1 : decode cX10_advance 1 = .ok (.aload_n 0, 1) := by decide +kernel
theorem dX10_advance_2 : decode cX10_advance 2 = .ok (.aload_n 0, 1) := by decide +kernel
theorem dX10_advance_3 : decode cX10_advance 3 = .ok (.getfield 37, 3) := by decide +kernel
theorem dX10_advance_6 : decode cX10_advance 6 = .ok (.invokevirtual 43, 3) := by decide +kernel
theorem dX10_advance_9 : decode cX10_advance 9 = .ok (.putfield 46, 3) := by decide +kernel
theorem dX10_advance_12 : decode cX10_advance 12 = .ok (.aload_n 0, 1) := by decide +kernel
theorem dX10_advance_13 : decode cX10_advance 13 = .ok (.aload_n 0, 1) := by decide +kernel
theorem dX10_advance_14 : decode cX10_advance 14 = .ok (.getfield 46, 3) := by decide +kernel
theorem dX10_advance_17 : decode cX10_advance 17 = .ok (.invokevirtual 26, 3) := by decide +kernel
theorem dX10_advance_20 : decode cX10_advance 20 = .ok (.istore_n 1, 1) := by decide +kernel
theorem dX10_advance_21 : decode cX10_advance 21 = .ok (.aload_n 0, 1) := by decide +kernel
theorem dX10_advance_22 : decode cX10_advance 22 = .ok (.getfield 46, 3) := by decide +kernel
theorem dX10_advance_25 : decode cX10_advance 25 = .ok (.aload_n 0, 1) := by decide +kernel
theorem dX10_advance_26 : decode cX10_advance 26 = .ok (.getfield 19, 3) := by decide +kernel
theorem dX10_advance_29 : decode cX10_advance 29 = .ok (.if_icmp .lt 19, 3) := by decide +kernel
theorem dX10_advance_32 : decode cX10_advance 32 = .ok (.aload_n 0, 1) := by decide +kernel
theorem dX10_advance_33 : decode cX10_advance 33 = .ok (.aload_n 0, 1) := by decide +kernel
theorem dX10_advance_34 : decode cX10_advance 34 = .ok (.getfield 19, 3) := by decide +kernel
theorem dX10_advance_37 : decode cX10_advance 37 = .ok (.putfield 37, 3) := by decide +kernel
theorem dX10_advance_40 : decode cX10_advance 40 = .ok (.aload_n 0, 1) := by decide +kernel
theorem dX10_advance_41 : decode cX10_advance 41 = .ok (.iconst 0, 1) := by decide +kernel
theorem dX10_advance_42 : decode cX10_advance 42 = .ok (.putfield 49, 3) := by decide +kernel
theorem dX10_advance_45 : decode cX10_advance 45 = .ok (.goto 145, 3) := by decide +kernel
theorem dX10_advance_48 : decode cX10_advance 48 = .ok (.iload_n 1, 1) := by decide +kernel
theorem dX10_advance_49 : decode cX10_advance 49 = .ok (.bipush 97, 2) := by decide +kernel
theorem dX10_advance_51 : decode cX10_advance 51 = .ok (.bipush 122, 2) := by decide +kernel
theorem dX10_advance_53 : decode cX10_advance 53 = .ok (.invokestatic 22, 3) := by decide +kernel
theorem dX10_advance_56 : decode cX10_advance 56 = .ok (.ifCond .eq 45, 3) := by decide +kernel
theorem dX10_advance_59 : decode cX10_advance 59 = .ok (.aload_n 0, 1) := by decide +kernel
theorem dX10_advance_60 : decode cX10_advance 60 = .ok (.aload_n 0, 1) := by decide +kernel
theorem dX10_advance_61 : decode cX10_advance 61 = .ok (.aload_n 0, 1) := by decide +kernel
theorem dX10_advance_62 : decode cX10_advance 62 = .ok (.getfield 46, 3) := by decide +kernel
theorem dX10_advance_65 : decode cX10_advance 65 = .ok (.bipush 97, 2) := by decide +kernel
theorem dX10_advance_67 : decode cX10_advance 67 = .ok (.bipush 122, 2) := by decide +kernel
theorem dX10_advance_69 : decode cX10_advance 69 = .ok (.invokevirtual 30, 3) := by decide +kernel
theorem dX10_advance_72 : decode cX10_advance 72 = .ok (.putfield 37, 3) := by decide +kernel
theorem dX10_advance_75 : decode cX10_advance 75 = .ok (.aload_n 0, 1) := by decide +kernel
theorem dX10_advance_76 : decode cX10_advance 76 = .ok (.aload_n 0, 1) := by decide +kernel
theorem dX10_advance_77 : decode cX10_advance 77 = .ok (.getfield 37, 3) := by decide +kernel
theorem dX10_advance_80 : decode cX10_advance 80 = .ok (.aload_n 0, 1) := by decide +kernel
theorem dX10_advance_81 : decode cX10_advance 81 = .ok (.getfield 46, 3) := by decide +kernel
theorem dX10_advance_84 : decode cX10_advance 84 = .ok (.isub, 1) := by decide +kernel
theorem dX10_advance_85 : decode cX10_advance 85 = .ok (.bipush 8, 2) := by decide +kernel
theorem dX10_advance_87 : decode cX10_advance 87 = .ok (.if_icmp .gt 7, 3) := by decide +kernel
theorem dX10_advance_90 : decode cX10_advance 90 = .ok (.iconst 1, 1) := by decide +kernel
theorem dX10_advance_91 : decode cX10_advance 91 = .ok (.goto 4, 3) := by decide +kernel
theorem dX10_advance_94 : decode cX10_advance 94 = .ok (.iconst 4, 1) := by decide +kernel
theorem dX10_advance_95 : decode cX10_advance 95 = .ok (.putfield 49, 3) := by decide +kernel
theorem dX10_advance_98 : decode cX10_advance 98 = .ok (.goto 92, 3) := by decide +kernel
theorem dX10_advance_101 : decode cX10_advance 101 = .ok (.iload_n 1, 1) := by decide +kernel
theorem dX10_advance_102 : decode cX10_advance 102 = .ok (.bipush 48, 2) := by decide +kernel
theorem dX10_advance_104 : decode cX10_advance 104 = .ok (.bipush 57, 2) := by decide +kernel
theorem dX10_advance_106 : decode cX10_advance 106 = .ok (.invokestatic 22, 3) := by decide +kernel
theorem dX10_advance_109 : decode cX10_advance 109 = .ok (.ifCond .eq 44, 3) := by decide +kernel
theorem dX10_advance_112 : decode cX10_advance 112 = .ok (.aload_n 0, 1) := by decide +kernel
theorem dX10_advance_113 : decode cX10_advance 113 = .ok (.aload_n 0, 1) := by decide +kernel
theorem dX10_advance_114 : decode cX10_advance 114 = .ok (.aload_n 0, 1) := by decide +kernel
theorem dX10_advance_115 : decode cX10_advance 115 = .ok (.getfield 46, 3) := by decide +kernel
theorem dX10_advance_118 : decode cX10_advance 118 = .ok (.bipush 48, 2) := by decide +kernel
theorem dX10_advance_120 : decode cX10_advance 120 = .ok (.bipush 57, 2) := by decide +kernel
theorem dX10_advance_122 : decode cX10_advance 122 = .ok (.invokevirtual 30, 3) := by decide +kernel
theorem dX10_advance_125 : decode cX10_advance 125 = .ok (.putfield 37, 3) := by decide +kernel
theorem dX10_advance_128 : decode cX10_advance 128 = .ok (.aload_n 0, 1) := by decide +kernel
theorem dX10_advance_129 : decode cX10_advance 129 = .ok (.aload_n 0, 1) := by decide +kernel
theorem dX10_advance_130 : decode cX10_advance 130 = .ok (.getfield 37, 3) := by decide +kernel
theorem dX10_advance_133 : decode cX10_advance 133 = .ok (.aload_n 0, 1) := by decide +kernel
theorem dX10_advance_134 : decode cX10_advance 134 = .ok (.getfield 46, 3) := by decide +kernel
theorem dX10_advance_137 : decode cX10_advance 137 = .ok (.isub, 1) := by decide +kernel
theorem dX10_advance_138 : decode cX10_advance 138 = .ok (.iconst 3, 1) := by decide +kernel
theorem dX10_advance_139 : decode cX10_advance 139 = .ok (.if_icmp .gt 7, 3) := by decide +kernel
theorem dX10_advance_142 : decode cX10_advance 142 = .ok (.iconst 2, 1) := by decide +kernel
theorem dX10_advance_143 : decode cX10_advance 143 = .ok (.goto 4, 3) := by decide +kernel
theorem dX10_advance_146 : decode cX10_advance 146 = .ok (.iconst 4, 1) := by decide +kernel
theorem dX10_advance_147 : decode cX10_advance 147 = .ok (.putfield 49, 3) := by decide +kernel
theorem dX10_advance_150 : decode cX10_advance 150 = .ok (.goto 40, 3) := by decide +kernel
theorem dX10_advance_153 : decode cX10_advance 153 = .ok (.aload_n 0, 1) := by decide +kernel
theorem dX10_advance_154 : decode cX10_advance 154 = .ok (.aload_n 0, 1) := by decide +kernel
theorem dX10_advance_155 : decode cX10_advance 155 = .ok (.getfield 46, 3) := by decide +kernel
theorem dX10_advance_158 : decode cX10_advance 158 = .ok (.iconst 1, 1) := by decide +kernel
theorem dX10_advance_159 : decode cX10_advance 159 = .ok (.iadd, 1) := by decide +kernel
theorem dX10_advance_160 : decode cX10_advance 160 = .ok (.putfield 37, 3) := by decide +kernel
theorem dX10_advance_163 : decode cX10_advance 163 = .ok (.aload_n 0, 1) := by decide +kernel
theorem dX10_advance_164 : decode cX10_advance 164 = .ok (.iload_n 1, 1) := by decide +kernel
theorem dX10_advance_165 : decode cX10_advance 165 = .ok (.bipush 59, 2) := by decide +kernel
theorem dX10_advance_167 : decode cX10_advance 167 = .ok (.if_icmp .eq 15, 3) := by decide +kernel
theorem dX10_advance_170 : decode cX10_advance 170 = .ok (.iload_n 1, 1) := by decide +kernel
theorem dX10_advance_171 : decode cX10_advance 171 = .ok (.bipush 40, 2) := by decide +kernel
theorem dX10_advance_173 : decode cX10_advance 173 = .ok (.if_icmp .eq 9, 3) := by decide +kernel
theorem dX10_advance_176 : decode cX10_advance 176 = .ok (.iload_n 1, 1) := by decide +kernel
theorem dX10_advance_177 : decode cX10_advance 177 = .ok (.bipush 41, 2) := by decide +kernel
theorem dX10_advance_179 : decode cX10_advance 179 = .ok (.if_icmp .ne 7, 3) := by decide +kernel
theorem dX10_advance_182 : decode cX10_advance 182 = .ok (.iconst 3, 1) := by decide +kernel
theorem dX10_advance_183 : decode cX10_advance 183 = .ok (.goto 4, 3) := by decide +kernel
theorem dX10_advance_186 : decode cX10_advance 186 = .ok (.iconst 4, 1) := by decide +kernel
theorem dX10_advance_187 : decode cX10_advance 187 = .ok (.putfield 49, 3) := by decide +kernel
theorem dX10_advance_190 : decode cX10_advance 190 = .ok (.return_, 1) := by decide +kernel
theorem dX10_isAtEnd_0 : decode cX10_isAtEnd 0 = .ok (.aload_n 0, 1) := by decide +kernel
theorem dX10_isAtEnd_1 : decode cX10_isAtEnd 1 = .ok (.getfield 49, 3) := by decide +kernel
theorem dX10_isAtEnd_4 : decode cX10_isAtEnd 4 = .ok (.ifCond .ne 7, 3) := by decide +kernel
theorem dX10_isAtEnd_7 : decode cX10_isAtEnd 7 = .ok (.iconst 1, 1) := by decide +kernel
theorem dX10_isAtEnd_8 : decode cX10_isAtEnd 8 = .ok (.goto 4, 3) := by decide +kernel
theorem dX10_isAtEnd_11 : decode cX10_isAtEnd 11 = .ok (.iconst 0, 1) := by decide +kernel
theorem dX10_isAtEnd_12 : decode cX10_isAtEnd 12 = .ok (.ireturn, 1) := by decide +kernel
theorem dX10_isAnyWord_0 : decode cX10_isAnyWord 0 = .ok (.aload_n 0, 1) := by decide +kernel
theorem dX10_isAnyWord_1 : decode cX10_isAnyWord 1 = .ok (.getfield 49, 3) := by decide +kernel
theorem dX10_isAnyWord_4 : decode cX10_isAnyWord 4 = .ok (.iconst 1, 1) := by decide +kernel
theorem dX10_isAnyWord_5 : decode cX10_isAnyWord 5 = .ok (.if_icmp .ne 7, 3) := by decide +kernel
theorem dX10_isAnyWord_8 : decode cX10_isAnyWord 8 = .ok (.iconst 1, 1) := by decide +kernel
theorem dX10_isAnyWord_9 : decode cX10_isAnyWord 9 = .ok (.goto 4, 3) := by decide +kernel
theorem dX10_isAnyWord_12 : decode cX10_isAnyWord 12 = .ok (.iconst 0, 1) := by decide +kernel
theorem dX10_isAnyWord_13 : decode cX10_isAnyWord 13 = .ok (.ireturn, 1) := by decide +kernel
theorem dX10_isWord_0 : decode cX10_isWord 0 = .ok (.aload_n 0, 1) := by decide +kernel
theorem dX10_isWord_1 : decode cX10_isWord 1 = .ok (.getfield 49, 3) := by decide +kernel
theorem dX10_isWord_4 : decode cX10_isWord 4 = .ok (.iconst 1, 1) := by decide +kernel
theorem dX10_isWord_5 : decode cX10_isWord 5 = .ok (.if_icmp .ne 19, 3) := by decide +kernel
theorem dX10_isWord_8 : decode cX10_isWord 8 = .ok (.aload_n 1, 1) := by decide +kernel
theorem dX10_isWord_9 : decode cX10_isWord 9 = .ok (.invokevirtual 52, 3) := by decide +kernel
theorem dX10_isWord_12 : decode cX10_isWord 12 = .ok (.aload_n 0, 1) := by decide +kernel
theorem dX10_isWord_13 : decode cX10_isWord 13 = .ok (.getfield 37, 3) := by decide +kernel
theorem dX10_isWord_16 : decode cX10_isWord 16 = .ok (.aload_n 0, 1) := by decide +kernel
theorem dX10_isWord_17 : decode cX10_isWord 17 = .ok (.getfield 46, 3) := by decide +kernel
theorem dX10_isWord_20 : decode cX10_isWord 20 = .ok (.isub, 1) := by decide +kernel
theorem dX10_isWord_21 : decode cX10_isWord 21 = .ok (.if_icmp .eq 5, 3) := by decide +kernel
theorem dX10_isWord_24 : decode cX10_isWord 24 = .ok (.iconst 0, 1) := by decide +kernel
theorem dX10_isWord_25 : decode cX10_isWord 25 = .ok (.ireturn, 1) := by decide +kernel
theorem dX10_isWord_26 : decode cX10_isWord 26 = .ok (.iconst 0, 1) := by decide +kernel
theorem dX10_isWord_27 : decode cX10_isWord 27 = .ok (.istore_n 2, 1) := by decide +kernel
theorem dX10_isWord_28 : decode cX10_isWord 28 = .ok (.iload_n 2, 1) := by decide +kernel
theorem dX10_isWord_29 : decode cX10_isWord 29 = .ok (.aload_n 1, 1) := by decide +kernel
theorem dX10_isWord_30 : decode cX10_isWord 30 = .ok (.invokevirtual 52, 3) := by decide +kernel
theorem dX10_isWord_33 : decode cX10_isWord 33 = .ok (.if_icmp .ge 29, 3) := by decide +kernel
theorem dX10_isWord_36 : decode cX10_isWord 36 = .ok (.aload_n 1, 1) := by decide +kernel
theorem dX10_isWord_37 : decode cX10_isWord 37 = .ok (.iload_n 2, 1) := by decide +kernel
theorem dX10_isWord_38 : decode cX10_isWord 38 = .ok (.invokevirtual 57, 3) := by decide +kernel
theorem dX10_isWord_41 : decode cX10_isWord 41 = .ok (.aload_n 0, 1) := by decide +kernel
theorem dX10_isWord_42 : decode cX10_isWord 42 = .ok (.aload_n 0, 1) := by decide +kernel
theorem dX10_isWord_43 : decode cX10_isWord 43 = .ok (.getfield 46, 3) := by decide +kernel
theorem dX10_isWord_46 : decode cX10_isWord 46 = .ok (.iload_n 2, 1) := by decide +kernel
theorem dX10_isWord_47 : decode cX10_isWord 47 = .ok (.iadd, 1) := by decide +kernel
theorem dX10_isWord_48 : decode cX10_isWord 48 = .ok (.invokevirtual 26, 3) := by decide +kernel
theorem dX10_isWord_51 : decode cX10_isWord 51 = .ok (.if_icmp .eq 5, 3) := by decide +kernel
theorem dX10_isWord_54 : decode cX10_isWord 54 = .ok (.iconst 0, 1) := by decide +kernel
theorem dX10_isWord_55 : decode cX10_isWord 55 = .ok (.ireturn, 1) := by decide +kernel
theorem dX10_isWord_56 : decode cX10_isWord 56 = .ok (.iinc 2 1, 3) := by decide +kernel
theorem dX10_isWord_59 : decode cX10_isWord 59 = .ok (.goto (-31), 3) := by decide +kernel
theorem dX10_isWord_62 : decode cX10_isWord 62 = .ok (.iconst 1, 1) := by decide +kernel
theorem dX10_isWord_63 : decode cX10_isWord 63 = .ok (.ireturn, 1) := by decide +kernel
theorem dX10_isSign_0 : decode cX10_isSign 0 = .ok (.aload_n 0, 1) := by decide +kernel
theorem dX10_isSign_1 : decode cX10_isSign 1 = .ok (.getfield 49, 3) := by decide +kernel
theorem dX10_isSign_4 : decode cX10_isSign 4 = .ok (.iconst 3, 1) := by decide +kernel
theorem dX10_isSign_5 : decode cX10_isSign 5 = .ok (.if_icmp .ne 19, 3) := by decide +kernel
theorem dX10_isSign_8 : decode cX10_isSign 8 = .ok (.aload_n 0, 1) := by decide +kernel
theorem dX10_isSign_9 : decode cX10_isSign 9 = .ok (.aload_n 0, 1) := by decide +kernel
theorem dX10_isSign_10 : decode cX10_isSign 10 = .ok (.getfield 46, 3) := by decide +kernel
theorem dX10_isSign_13 : decode cX10_isSign 13 = .ok (.invokevirtual 26, 3) := by decide +kernel
theorem dX10_isSign_16 : decode cX10_isSign 16 = .ok (.iload_n 1, 1) := by decide +kernel
theorem dX10_isSign_17 : decode cX10_isSign 17 = .ok (.if_icmp .ne 7, 3) := by decide +kernel
theorem dX10_isSign_20 : decode cX10_isSign 20 = .ok (.iconst 1, 1) := by decide +kernel
theorem dX10_isSign_21 : decode cX10_isSign 21 = .ok (.goto 4, 3) := by decide +kernel
theorem dX10_isSign_24 : decode cX10_isSign 24 = .ok (.iconst 0, 1) := by decide +kernel
theorem dX10_isSign_25 : decode cX10_isSign 25 = .ok (.ireturn, 1) := by decide +kernel
theorem dX10_fail_0 : decode cX10_fail 0 = .ok (.aload_n 0, 1) := by decide +kernel
theorem dX10_fail_1 : decode cX10_fail 1 = .ok (.iload_n 1, 1) := by decide +kernel
theorem dX10_fail_2 : decode cX10_fail 2 = .ok (.putfield 34, 3) := by decide +kernel
theorem dX10_fail_5 : decode cX10_fail 5 = .ok (.aload_n 0, 1) := by decide +kernel
theorem dX10_fail_6 : decode cX10_fail 6 = .ok (.aload_n 0, 1) := by decide +kernel
theorem dX10_fail_7 : decode cX10_fail 7 = .ok (.getfield 46, 3) := by decide +kernel
theorem dX10_fail_10 : decode cX10_fail 10 = .ok (.putfield 15, 3) := by decide +kernel
theorem dX10_fail_13 : decode cX10_fail 13 = .ok (.iconst 0, 1) := by decide +kernel
theorem dX10_fail_14 : decode cX10_fail 14 = .ok (.ireturn, 1) := by decide +kernel
theorem dX10_takeIfWord_0 : decode cX10_takeIfWord 0 = .ok (.aload_n 0, 1) := by decide +kernel
theorem dX10_takeIfWord_1 : decode cX10_takeIfWord 1 = .ok (.aload_n 1, 1) := by decide +kernel
theorem dX10_takeIfWord_2 : decode cX10_takeIfWord 2 = .ok (.invokevirtual 61, 3) := by decide +kernel
theorem dX10_takeIfWord_5 : decode cX10_takeIfWord 5 = .ok (.istore_n 2, 1) := by decide +kernel
theorem dX10_takeIfWord_6 : decode cX10_takeIfWord 6 = .ok (.iload_n 2, 1) := by decide +kernel
theorem dX10_takeIfWord_7 : decode cX10_takeIfWord 7 = .ok (.ifCond .eq 7, 3) := by decide +kernel
theorem dX10_takeIfWord_10 : decode cX10_takeIfWord 10 = .ok (.aload_n 0, 1) := by decide +kernel
theorem dX10_takeIfWord_11 : decode cX10_takeIfWord 11 = .ok (.invokevirtual 40, 3) := by decide +kernel
theorem dX10_takeIfWord_14 : decode cX10_takeIfWord 14 = .ok (.iload_n 2, 1) := by decide +kernel
theorem dX10_takeIfWord_15 : decode cX10_takeIfWord 15 = .ok (.ireturn, 1) := by decide +kernel
theorem dX10_takeSign_0 : decode cX10_takeSign 0 = .ok (.aload_n 0, 1) := by decide +kernel
theorem dX10_takeSign_1 : decode cX10_takeSign 1 = .ok (.iload_n 1, 1) := by decide +kernel
theorem dX10_takeSign_2 : decode cX10_takeSign 2 = .ok (.invokevirtual 65, 3) := by decide +kernel
theorem dX10_takeSign_5 : decode cX10_takeSign 5 = .ok (.ifCond .ne 9, 3) := by decide +kernel
theorem dX10_takeSign_8 : decode cX10_takeSign 8 = .ok (.aload_n 0, 1) := by decide +kernel
theorem dX10_takeSign_9 : decode cX10_takeSign 9 = .ok (.iconst 1, 1) := by decide +kernel
theorem dX10_takeSign_10 : decode cX10_takeSign 10 = .ok (.invokevirtual 69, 3) := by decide +kernel
theorem dX10_takeSign_13 : decode cX10_takeSign 13 = .ok (.ireturn, 1) := by decide +kernel
theorem dX10_takeSign_14 : decode cX10_takeSign 14 = .ok (.aload_n 0, 1) := by decide +kernel
theorem dX10_takeSign_15 : decode cX10_takeSign 15 = .ok (.invokevirtual 40, 3) := by decide +kernel
theorem dX10_takeSign_18 : decode cX10_takeSign 18 = .ok (.iconst 1, 1) := by decide +kernel
theorem dX10_takeSign_19 : decode cX10_takeSign 19 = .ok (.ireturn, 1) := by decide +kernel
theorem dX10_takeNumber_0 : decode cX10_takeNumber 0 = .ok (.aload_n 0, 1) := by decide +kernel
theorem dX10_takeNumber_1 : decode cX10_takeNumber 1 = .ok (.getfield 49, 3) := by decide +kernel
theorem dX10_takeNumber_4 : decode cX10_takeNumber 4 = .ok (.iconst 2, 1) := by decide +kernel
theorem dX10_takeNumber_5 : decode cX10_takeNumber 5 = .ok (.if_icmp .eq 9, 3) := by decide +kernel
theorem dX10_takeNumber_8 : decode cX10_takeNumber 8 = .ok (.aload_n 0, 1) := by decide +kernel
theorem dX10_takeNumber_9 : decode cX10_takeNumber 9 = .ok (.iconst 1, 1) := by decide +kernel
theorem dX10_takeNumber_10 : decode cX10_takeNumber 10 = .ok (.invokevirtual 69, 3) := by decide +kernel
theorem dX10_takeNumber_13 : decode cX10_takeNumber 13 = .ok (.ireturn, 1) := by decide +kernel
theorem dX10_takeNumber_14 : decode cX10_takeNumber 14 = .ok (.iconst 0, 1) := by decide +kernel
theorem dX10_takeNumber_15 : decode cX10_takeNumber 15 = .ok (.istore_n 3, 1) := by decide +kernel
theorem dX10_takeNumber_16 : decode cX10_takeNumber 16 = .ok (.aload_n 0, 1) := by decide +kernel
theorem dX10_takeNumber_17 : decode cX10_takeNumber 17 = .ok (.getfield 46, 3) := by decide +kernel
theorem dX10_takeNumber_20 : decode cX10_takeNumber 20 = .ok (.istore 4, 2) := by decide +kernel
theorem dX10_takeNumber_22 : decode cX10_takeNumber 22 = .ok (.iload 4, 2) := by decide +kernel
theorem dX10_takeNumber_24 : decode cX10_takeNumber 24 = .ok (.aload_n 0, 1) := by decide +kernel
theorem dX10_takeNumber_25 : decode cX10_takeNumber 25 = .ok (.getfield 37, 3) := by decide +kernel
theorem dX10_takeNumber_28 : decode cX10_takeNumber 28 = .ok (.if_icmp .ge 24, 3) := by decide +kernel
theorem dX10_takeNumber_31 : decode cX10_takeNumber 31 = .ok (.bipush 10, 2) := by decide +kernel
theorem dX10_takeNumber_33 : decode cX10_takeNumber 33 = .ok (.iload_n 3, 1) := by decide +kernel
theorem dX10_takeNumber_34 : decode cX10_takeNumber 34 = .ok (.imul, 1) := by decide +kernel
theorem dX10_takeNumber_35 : decode cX10_takeNumber 35 = .ok (.aload_n 0, 1) := by decide +kernel
theorem dX10_takeNumber_36 : decode cX10_takeNumber 36 = .ok (.iload 4, 2) := by decide +kernel
theorem dX10_takeNumber_38 : decode cX10_takeNumber 38 = .ok (.invokevirtual 26, 3) := by decide +kernel
theorem dX10_takeNumber_41 : decode cX10_takeNumber 41 = .ok (.iadd, 1) := by decide +kernel
theorem dX10_takeNumber_42 : decode cX10_takeNumber 42 = .ok (.bipush 48, 2) := by decide +kernel
theorem dX10_takeNumber_44 : decode cX10_takeNumber 44 = .ok (.isub, 1) := by decide +kernel
theorem dX10_takeNumber_45 : decode cX10_takeNumber 45 = .ok (.istore_n 3, 1) := by decide +kernel
theorem dX10_takeNumber_46 : decode cX10_takeNumber 46 = .ok (.iinc 4 1, 3) := by decide +kernel
theorem dX10_takeNumber_49 : decode cX10_takeNumber 49 = .ok (.goto (-27), 3) := by decide +kernel
theorem dX10_takeNumber_52 : decode cX10_takeNumber 52 = .ok (.iload_n 3, 1) := by decide +kernel
theorem dX10_takeNumber_53 : decode cX10_takeNumber 53 = .ok (.iload_n 1, 1) := by decide +kernel
theorem dX10_takeNumber_54 : decode cX10_takeNumber 54 = .ok (.iload_n 2, 1) := by decide +kernel
theorem dX10_takeNumber_55 : decode cX10_takeNumber 55 = .ok (.invokestatic 22, 3) := by decide +kernel
theorem dX10_takeNumber_58 : decode cX10_takeNumber 58 = .ok (.ifCond .ne 9, 3) := by decide +kernel
theorem dX10_takeNumber_61 : decode cX10_takeNumber 61 = .ok (.aload_n 0, 1) := by decide +kernel
theorem dX10_takeNumber_62 : decode cX10_takeNumber 62 = .ok (.iconst 2, 1) := by decide +kernel
theorem dX10_takeNumber_63 : decode cX10_takeNumber 63 = .ok (.invokevirtual 69, 3) := by decide +kernel
theorem dX10_takeNumber_66 : decode cX10_takeNumber 66 = .ok (.ireturn, 1) := by decide +kernel
theorem dX10_takeNumber_67 : decode cX10_takeNumber 67 = .ok (.aload_n 0, 1) := by decide +kernel
theorem dX10_takeNumber_68 : decode cX10_takeNumber 68 = .ok (.iload_n 3, 1) := by decide +kernel
theorem dX10_takeNumber_69 : decode cX10_takeNumber 69 = .ok (.putfield 73, 3) := by decide +kernel
theorem dX10_takeNumber_72 : decode cX10_takeNumber 72 = .ok (.aload_n 0, 1) := by decide +kernel
theorem dX10_takeNumber_73 : decode cX10_takeNumber 73 = .ok (.invokevirtual 40, 3) := by decide +kernel
theorem dX10_takeNumber_76 : decode cX10_takeNumber 76 = .ok (.iconst 1, 1) := by decide +kernel
theorem dX10_takeNumber_77 : decode cX10_takeNumber 77 = .ok (.ireturn, 1) := by decide +kernel
theorem dX11_init_0 : decode cX11_init 0 = .ok (.aload_n 0, 1) := by decide +kernel
theorem dX11_init_1 : decode cX11_init 1 = .ok (.invokespecial 3, 3) := by decide +kernel
theorem dX11_init_4 : decode cX11_init 4 = .ok (.aload_n 0, 1) := by decide +kernel
theorem dX11_init_5 : decode cX11_init 5 = .ok (.new 9, 3) := by decide +kernel
theorem dX11_init_8 : decode cX11_init 8 = .ok (.dup, 1) := by decide +kernel
theorem dX11_init_9 : decode cX11_init 9 = .ok (.invokespecial 11, 3) := by decide +kernel
theorem dX11_init_12 : decode cX11_init 12 = .ok (.putfield 12, 3) := by decide +kernel
theorem dX11_init_15 : decode cX11_init 15 = .ok (.aload_n 0, 1) := by decide +kernel
theorem dX11_init_16 : decode cX11_init 16 = .ok (.new 9, 3) := by decide +kernel
theorem dX11_init_19 : decode cX11_init 19 = .ok (.dup, 1) := by decide +kernel
theorem dX11_init_20 : decode cX11_init 20 = .ok (.invokespecial 11, 3) := by decide +kernel
theorem dX11_init_23 : decode cX11_init 23 = .ok (.putfield 16, 3) := by decide +kernel
theorem dX11_init_26 : decode cX11_init 26 = .ok (.aload_n 0, 1) := by decide +kernel
theorem dX11_init_27 : decode cX11_init 27 = .ok (.new 9, 3) := by decide +kernel
theorem dX11_init_30 : decode cX11_init 30 = .ok (.dup, 1) := by decide +kernel
theorem dX11_init_31 : decode cX11_init 31 = .ok (.invokespecial 11, 3) := by decide +kernel
theorem dX11_init_34 : decode cX11_init 34 = .ok (.putfield 19, 3) := by decide +kernel
theorem dX11_init_37 : decode cX11_init 37 = .ok (.aload_n 0, 1) := by decide +kernel
theorem dX11_init_38 : decode cX11_init 38 = .ok (.new 9, 3) := by decide +kernel
theorem dX11_init_41 : decode cX11_init 41 = .ok (.dup, 1) := by decide +kernel
theorem dX11_init_42 : decode cX11_init 42 = .ok (.invokespecial 11, 3) := by decide +kernel
theorem dX11_init_45 : decode cX11_init 45 = .ok (.putfield 22, 3) := by decide +kernel
theorem dX11_init_48 : decode cX11_init 48 = .ok (.aload_n 0, 1) := by decide +kernel
theorem dX11_init_49 : decode cX11_init 49 = .ok (.bipush 6, 2) := by decide +kernel
theorem dX11_init_51 : decode cX11_init 51 = .ok (.anewarray 9, 3) := by decide +kernel
theorem dX11_init_54 : decode cX11_init 54 = .ok (.putfield 25, 3) := by decide +kernel
theorem dX11_init_57 : decode cX11_init 57 = .ok (.aload_n 0, 1) := by decide +kernel
theorem dX11_init_58 : decode cX11_init 58 = .ok (.new 29, 3) := by decide +kernel
theorem dX11_init_61 : decode cX11_init 61 = .ok (.dup, 1) := by decide +kernel
theorem dX11_init_62 : decode cX11_init 62 = .ok (.invokespecial 31, 3) := by decide +kernel
theorem dX11_init_65 : decode cX11_init 65 = .ok (.putfield 32, 3) := by decide +kernel
theorem dX11_init_68 : decode cX11_init 68 = .ok (.aload_n 0, 1) := by decide +kernel
theorem dX11_init_69 : decode cX11_init 69 = .ok (.new 36, 3) := by decide +kernel
theorem dX11_init_72 : decode cX11_init 72 = .ok (.dup, 1) := by decide +kernel
theorem dX11_init_73 : decode cX11_init 73 = .ok (.invokespecial 38, 3) := by decide +kernel
theorem dX11_init_76 : decode cX11_init 76 = .ok (.putfield 39, 3) := by decide +kernel
theorem dX11_init_79 : decode cX11_init 79 = .ok (.aload_n 0, 1) := by decide +kernel
theorem dX11_init_80 : decode cX11_init 80 = .ok (.new 43, 3) := by decide +kernel
theorem dX11_init_83 : decode cX11_init 83 = .ok (.dup, 1) := by decide +kernel
theorem dX11_init_84 : decode cX11_init 84 = .ok (.invokespecial 45, 3) := by decide +kernel
theorem dX11_init_87 : decode cX11_init 87 = .ok (.putfield 46, 3) := by decide +kernel
theorem dX11_init_90 : decode cX11_init 90 = .ok (.aload_n 0, 1) := by decide +kernel
theorem dX11_init_91 : decode cX11_init 91 = .ok (.new 50, 3) := by decide +kernel
theorem dX11_init_94 : decode cX11_init 94 = .ok (.dup, 1) := by decide +kernel
theorem dX11_init_95 : decode cX11_init 95 = .ok (.invokespecial 52, 3) := by decide +kernel
theorem dX11_init_98 : decode cX11_init 98 = .ok (.putfield 53, 3) := by decide +kernel
theorem dX11_init_101 : decode cX11_init 101 = .ok (.aload_n 0, 1) := by decide +kernel
theorem dX11_init_102 : decode cX11_init 102 = .ok (.new 57, 3) := by decide +kernel
theorem dX11_init_105 : decode cX11_init 105 = .ok (.dup, 1) := by decide +kernel
theorem dX11_init_106 : decode cX11_init 106 = .ok (.invokespecial 59, 3) := by decide +kernel
theorem dX11_init_109 : decode cX11_init 109 = .ok (.putfield 60, 3) := by decide +kernel
theorem dX11_init_112 : decode cX11_init 112 = .ok (.aload_n 0, 1) := by decide +kernel
theorem dX11_init_113 : decode cX11_init 113 = .ok (.new 64, 3) := by decide +kernel
theorem dX11_init_116 : decode cX11_init 116 = .ok (.dup, 1) := by decide +kernel
theorem dX11_init_117 : decode cX11_init 117 = .ok (.invokespecial 66, 3) := by decide +kernel
theorem dX11_init_120 : decode cX11_init 120 = .ok (.putfield 67, 3) := by decide +kernel
theorem dX11_init_123 : decode cX11_init 123 = .ok (.iconst 0, 1) := by decide +kernel
theorem dX11_init_124 : decode cX11_init 124 = .ok (.istore_n 1, 1) := by decide +kernel
theorem dX11_init_125 : decode cX11_init 125 = .ok (.iload_n 1, 1) := by decide +kernel
theorem dX11_init_126 : decode cX11_init 126 = .ok (.bipush 6, 2) := by decide +kernel
theorem dX11_init_128 : decode cX11_init 128 = .ok (.if_icmp .ge 22, 3) := by decide +kernel
theorem dX11_init_131 : decode cX11_init 131 = .ok (.aload_n 0, 1) := by decide +kernel
theorem dX11_init_132 : decode cX11_init 132 = .ok (.getfield 25, 3) := by decide +kernel
theorem dX11_init_135 : decode cX11_init 135 = .ok (.iload_n 1, 1) := by decide +kernel
theorem dX11_init_136 : decode cX11_init 136 = .ok (.new 9, 3) := by decide +kernel
theorem dX11_init_139 : decode cX11_init 139 = .ok (.dup, 1) := by decide +kernel
theorem dX11_init_140 : decode cX11_init 140 = .ok (.invokespecial 11, 3) := by decide +kernel
theorem dX11_init_143 : decode cX11_init 143 = .ok (.aastore, 1) := by decide +kernel
theorem dX11_init_144 : decode cX11_init 144 = .ok (.iinc 1 1, 3) := by decide +kernel
theorem dX11_init_147 : decode cX11_init 147 = .ok (.goto (-22), 3) := by decide +kernel
theorem dX11_init_150 : decode cX11_init 150 = .ok (.return_, 1) := by decide +kernel
theorem dX11_feed_0 : decode cX11_feed 0 = .ok (.aload_n 0, 1) := by decide +kernel
theorem dX11_feed_1 : decode cX11_feed 1 = .ok (.getfield 46, 3) := by decide +kernel
theorem dX11_feed_4 : decode cX11_feed 4 = .ok (.getfield 71, 3) := by decide +kernel
theorem dX11_feed_7 : decode cX11_feed 7 = .ok (.bipush 20, 2) := by decide +kernel
theorem dX11_feed_9 : decode cX11_feed 9 = .ok (.iadd, 1) := by decide +kernel
theorem dX11_feed_10 : decode cX11_feed 10 = .ok (.sipush 500, 3) := by decide +kernel
theorem dX11_feed_13 : decode cX11_feed 13 = .ok (.if_icmp .le 13, 3) := by decide +kernel
theorem dX11_feed_16 : decode cX11_feed 16 = .ok (.new 75, 3) := by decide +kernel
theorem dX11_feed_19 : decode cX11_feed 19 = .ok (.dup, 1) := by decide +kernel
theorem dX11_feed_20 : decode cX11_feed 20 = .ok (.ldc 77, 2) := by decide +kernel
theorem dX11_feed_22 : decode cX11_feed 22 = .ok (.invokespecial 79, 3) := by decide +kernel
theorem dX11_feed_25 : decode cX11_feed 25 = .ok (.athrow, 1) := by decide +kernel
theorem dX11_feed_26 : decode cX11_feed 26 = .ok (.aload_n 0, 1) := by decide +kernel
theorem dX11_feed_27 : decode cX11_feed 27 = .ok (.getfield 46, 3) := by decide +kernel
theorem dX11_feed_30 : decode cX11_feed 30 = .ok (.iload_n 1, 1) := by decide +kernel
theorem dX11_feed_31 : decode cX11_feed 31 = .ok (.invokevirtual 82, 3) := by decide +kernel
theorem dX11_feed_34 : decode cX11_feed 34 = .ok (.aload_n 0, 1) := by decide +kernel
theorem dX11_feed_35 : decode cX11_feed 35 = .ok (.getfield 46, 3) := by decide +kernel
theorem dX11_feed_38 : decode cX11_feed 38 = .ok (.iload_n 2, 1) := by decide +kernel
theorem dX11_feed_39 : decode cX11_feed 39 = .ok (.invokevirtual 82, 3) := by decide +kernel
theorem dX11_feed_42 : decode cX11_feed 42 = .ok (.aload_n 0, 1) := by decide +kernel
theorem dX11_feed_43 : decode cX11_feed 43 = .ok (.getfield 46, 3) := by decide +kernel
theorem dX11_feed_46 : decode cX11_feed 46 = .ok (.iload_n 3, 1) := by decide +kernel
theorem dX11_feed_47 : decode cX11_feed 47 = .ok (.invokevirtual 82, 3) := by decide +kernel
theorem dX11_feed_50 : decode cX11_feed 50 = .ok (.aload_n 0, 1) := by decide +kernel
theorem dX11_feed_51 : decode cX11_feed 51 = .ok (.getfield 46, 3) := by decide +kernel
theorem dX11_feed_54 : decode cX11_feed 54 = .ok (.iload 4, 2) := by decide +kernel
theorem dX11_feed_56 : decode cX11_feed 56 = .ok (.invokevirtual 82, 3) := by decide +kernel
theorem dX11_feed_59 : decode cX11_feed 59 = .ok (.aload_n 0, 1) := by decide +kernel
theorem dX11_feed_60 : decode cX11_feed 60 = .ok (.getfield 46, 3) := by decide +kernel
theorem dX11_feed_63 : decode cX11_feed 63 = .ok (.iload 5, 2) := by decide +kernel
theorem dX11_feed_65 : decode cX11_feed 65 = .ok (.invokevirtual 82, 3) := by decide +kernel
theorem dX11_feed_68 : decode cX11_feed 68 = .ok (.aload_n 0, 1) := by decide +kernel
theorem dX11_feed_69 : decode cX11_feed 69 = .ok (.getfield 46, 3) := by decide +kernel
theorem dX11_feed_72 : decode cX11_feed 72 = .ok (.getfield 71, 3) := by decide +kernel
theorem dX11_feed_75 : decode cX11_feed 75 = .ok (.ireturn, 1) := by decide +kernel
theorem dX11_truncate_0 : decode cX11_truncate 0 = .ok (.iload_n 1, 1) := by decide +kernel
theorem dX11_truncate_1 : decode cX11_truncate 1 = .ok (.iconst 0, 1) := by decide +kernel
theorem dX11_truncate_2 : decode cX11_truncate 2 = .ok (.aload_n 0, 1) := by decide +kernel
theorem dX11_truncate_3 : decode cX11_truncate 3 = .ok (.getfield 46, 3) := by decide +kernel
theorem dX11_truncate_6 : decode cX11_truncate 6 = .ok (.getfield 71, 3) := by decide +kernel
theorem dX11_truncate_9 : decode cX11_truncate 9 = .ok (.invokestatic 86, 3) := by decide +kernel
theorem dX11_truncate_12 : decode cX11_truncate 12 = .ok (.ifCond .ne 13, 3) := by decide +kernel
theorem dX11_truncate_15 : decode cX11_truncate 15 = .ok (.new 90, 3) := by decide +kernel
theorem dX11_truncate_18 : decode cX11_truncate 18 = .ok (.dup, 1) := by decide +kernel
theorem dX11_truncate_19 : decode cX11_truncate 19 = .ok (.ldc 92, 2) := by decide +kernel
theorem dX11_truncate_21 : decode cX11_truncate 21 = .ok (.invokespecial 94, 3) := by decide +kernel
theorem dX11_truncate_24 : decode cX11_truncate 24 = .ok (.athrow, 1) := by decide +kernel
theorem dX11_truncate_25 : decode cX11_truncate 25 = .ok (.aload_n 0, 1) := by decide +kernel
theorem dX11_truncate_26 : decode cX11_truncate 26 = .ok (.getfield 46, 3) := by decide +kernel
theorem dX11_truncate_29 : decode cX11_truncate 29 = .ok (.iload_n 1, 1) := by decide +kernel
theorem dX11_truncate_30 : decode cX11_truncate 30 = .ok (.putfield 71, 3) := by decide +kernel
theorem dX11_truncate_33 : decode cX11_truncate 33 = .ok (.iload_n 1, 1) := by decide +kernel
theorem dX11_truncate_34 : decode cX11_truncate 34 = .ok (.ireturn, 1) := by decide +kernel
theorem dX11_readText_0 : decode cX11_readText 0 = .ok (.aload_n 0, 1) := by decide +kernel
theorem dX11_readText_1 : decode cX11_readText 1 = .ok (.getfield 53, 3) := by decide +kernel
theorem dX11_readText_4 : decode cX11_readText 4 = .ok (.aload_n 0, 1) := by decide +kernel
theorem dX11_readText_5 : decode cX11_readText 5 = .ok (.getfield 16, 3) := by decide +kernel
theorem dX11_readText_8 : decode cX11_readText 8 = .ok (.aload_n 0, 1) := by decide +kernel
theorem dX11_readText_9 : decode cX11_readText 9 = .ok (.getfield 46, 3) := by decide +kernel
theorem dX11_readText_12 : decode cX11_readText 12 = .ok (.invokevirtual 95, 3) := by decide +kernel
theorem dX11_readText_15 : decode cX11_readText 15 = .ok (.istore_n 1, 1) := by decide +kernel
theorem dX11_readText_16 : decode cX11_readText 16 = .ok (.aload_n 0, 1) := by decide +kernel
theorem dX11_readText_17 : decode cX11_readText 17 = .ok (.getfield 46, 3) := by decide +kernel
theorem dX11_readText_20 : decode cX11_readText 20 = .ok (.iconst 0, 1) := by decide +kernel
theorem dX11_readText_21 : decode cX11_readText 21 = .ok (.putfield 71, 3) := by decide +kernel
theorem dX11_readText_24 : decode cX11_readText 24 = .ok (.iload_n 1, 1) := by decide +kernel
theorem dX11_readText_25 : decode cX11_readText 25 = .ok (.ifCond .ne 13, 3) := by decide +kernel
theorem dX11_readText_28 : decode cX11_readText 28 = .ok (.new 90, 3) := by decide +kernel
theorem dX11_readText_31 : decode cX11_readText 31 = .ok (.dup, 1) := by decide +kernel
theorem dX11_readText_32 : decode cX11_readText 32 = .ok (.ldc 99, 2) := by decide +kernel
theorem dX11_readText_34 : decode cX11_readText 34 = .ok (.invokespecial 94, 3) := by decide +kernel
theorem dX11_readText_37 : decode cX11_readText 37 = .ok (.athrow, 1) := by decide +kernel
theorem dX11_readText_38 : decode cX11_readText 38 = .ok (.aload_n 0, 1) := by decide +kernel
theorem dX11_readText_39 : decode cX11_readText 39 = .ok (.getfield 12, 3) := by decide +kernel
theorem dX11_readText_42 : decode cX11_readText 42 = .ok (.aload_n 0, 1) := by decide +kernel
theorem dX11_readText_43 : decode cX11_readText 43 = .ok (.getfield 16, 3) := by decide +kernel
theorem dX11_readText_46 : decode cX11_readText 46 = .ok (.invokevirtual 101, 3) := by decide +kernel
theorem dX11_readText_49 : decode cX11_readText 49 = .ok (.aload_n 0, 1) := by decide +kernel
theorem dX11_readText_50 : decode cX11_readText 50 = .ok (.iconst 0, 1) := by decide +kernel
theorem dX11_readText_51 : decode cX11_readText 51 = .ok (.putfield 105, 3) := by decide +kernel
theorem dX11_readText_54 : decode cX11_readText 54 = .ok (.aload_n 0, 1) := by decide +kernel
theorem dX11_readText_55 : decode cX11_readText 55 = .ok (.getfield 12, 3) := by decide +kernel
theorem dX11_readText_58 : decode cX11_readText 58 = .ok (.getfield 108, 3) := by decide +kernel
theorem dX11_readText_61 : decode cX11_readText 61 = .ok (.getfield 112, 3) := by decide +kernel
theorem dX11_readText_64 : decode cX11_readText 64 = .ok (.ireturn, 1) := by decide +kernel
theorem dX11_setting_0 : decode cX11_setting 0 = .ok (.iload_n 1, 1) := by decide +kernel
theorem dX11_setting_1 : decode cX11_setting 1 = .ok (.tableswitch 210 0 13 #[71, 82, 93, 104, 115, 126, 137, 145, 156, 167, 172, 183, 194, 205], 71) := by decide +kernel
theorem dX11_setting_72 : decode cX11_setting 72 = .ok (.aload_n 0, 1) := by decide +kernel
theorem dX11_setting_73 : decode cX11_setting 73 = .ok (.getfield 12, 3) := by decide +kernel
theorem dX11_setting_76 : decode cX11_setting 76 = .ok (.getfield 136, 3) := by decide +kernel
theorem dX11_setting_79 : decode cX11_setting 79 = .ok (.getfield 140, 3) := by decide +kernel
theorem dX11_setting_82 : decode cX11_setting 82 = .ok (.ireturn, 1) := by decide +kernel
theorem dX11_setting_83 : decode cX11_setting 83 = .ok (.aload_n 0, 1) := by decide +kernel
theorem dX11_setting_84 : decode cX11_setting 84 = .ok (.getfield 12, 3) := by decide +kernel
theorem dX11_setting_87 : decode cX11_setting 87 = .ok (.getfield 108, 3) := by decide +kernel
theorem dX11_setting_90 : decode cX11_setting 90 = .ok (.getfield 112, 3) := by decide +kernel
theorem dX11_setting_93 : decode cX11_setting 93 = .ok (.ireturn, 1) := by decide +kernel
theorem dX11_setting_94 : decode cX11_setting 94 = .ok (.aload_n 0, 1) := by decide +kernel
theorem dX11_setting_95 : decode cX11_setting 95 = .ok (.getfield 12, 3) := by decide +kernel
theorem dX11_setting_98 : decode cX11_setting 98 = .ok (.getfield 145, 3) := by decide +kernel
theorem dX11_setting_101 : decode cX11_setting 101 = .ok (.getfield 149, 3) := by decide +kernel
theorem dX11_setting_104 : decode cX11_setting 104 = .ok (.ireturn, 1) := by decide +kernel
theorem dX11_setting_105 : decode cX11_setting 105 = .ok (.aload_n 0, 1) := by decide +kernel
theorem dX11_setting_106 : decode cX11_setting 106 = .ok (.getfield 12, 3) := by decide +kernel
theorem dX11_setting_109 : decode cX11_setting 109 = .ok (.getfield 136, 3) := by decide +kernel
theorem dX11_setting_112 : decode cX11_setting 112 = .ok (.invokevirtual 154, 3) := by decide +kernel
theorem dX11_setting_115 : decode cX11_setting 115 = .ok (.ireturn, 1) := by decide +kernel
theorem dX11_setting_116 : decode cX11_setting 116 = .ok (.aload_n 0, 1) := by decide +kernel
theorem dX11_setting_117 : decode cX11_setting 117 = .ok (.getfield 12, 3) := by decide +kernel
theorem dX11_setting_120 : decode cX11_setting 120 = .ok (.getfield 136, 3) := by decide +kernel
theorem dX11_setting_123 : decode cX11_setting 123 = .ok (.invokevirtual 158, 3) := by decide +kernel
theorem dX11_setting_126 : decode cX11_setting 126 = .ok (.ireturn, 1) := by decide +kernel
theorem dX11_setting_127 : decode cX11_setting 127 = .ok (.aload_n 0, 1) := by decide +kernel
theorem dX11_setting_128 : decode cX11_setting 128 = .ok (.getfield 12, 3) := by decide +kernel
theorem dX11_setting_131 : decode cX11_setting 131 = .ok (.getfield 161, 3) := by decide +kernel
theorem dX11_setting_134 : decode cX11_setting 134 = .ok (.getfield 164, 3) := by decide +kernel
theorem dX11_setting_137 : decode cX11_setting 137 = .ok (.ireturn, 1) := by decide +kernel
theorem dX11_setting_138 : decode cX11_setting 138 = .ok (.aload_n 0, 1) := by decide +kernel
theorem dX11_setting_139 : decode cX11_setting 139 = .ok (.getfield 12, 3) := by decide +kernel
theorem dX11_setting_142 : decode cX11_setting 142 = .ok (.getfield 167, 3) := by decide +kernel
theorem dX11_setting_145 : decode cX11_setting 145 = .ok (.ireturn, 1) := by decide +kernel
theorem dX11_setting_146 : decode cX11_setting 146 = .ok (.aload_n 0, 1) := by decide +kernel
theorem dX11_setting_147 : decode cX11_setting 147 = .ok (.getfield 12, 3) := by decide +kernel
theorem dX11_setting_150 : decode cX11_setting 150 = .ok (.getfield 170, 3) := by decide +kernel
theorem dX11_setting_153 : decode cX11_setting 153 = .ok (.getfield 174, 3) := by decide +kernel
theorem dX11_setting_156 : decode cX11_setting 156 = .ok (.ireturn, 1) := by decide +kernel
theorem dX11_setting_157 : decode cX11_setting 157 = .ok (.aload_n 0, 1) := by decide +kernel
theorem dX11_setting_158 : decode cX11_setting 158 = .ok (.getfield 12, 3) := by decide +kernel
theorem dX11_setting_161 : decode cX11_setting 161 = .ok (.getfield 108, 3) := by decide +kernel
theorem dX11_setting_164 : decode cX11_setting 164 = .ok (.invokevirtual 177, 3) := by decide +kernel
theorem dX11_setting_167 : decode cX11_setting 167 = .ok (.ireturn, 1) := by decide +kernel
theorem dX11_setting_168 : decode cX11_setting 168 = .ok (.aload_n 0, 1) := by decide +kernel
theorem dX11_setting_169 : decode cX11_setting 169 = .ok (.invokevirtual 180, 3) := by decide +kernel
theorem dX11_setting_172 : decode cX11_setting 172 = .ok (.ireturn, 1) := by decide +kernel
theorem dX11_setting_173 : decode cX11_setting 173 = .ok (.aload_n 0, 1) := by decide +kernel
theorem dX11_setting_174 : decode cX11_setting 174 = .ok (.getfield 12, 3) := by decide +kernel
theorem dX11_setting_177 : decode cX11_setting 177 = .ok (.getfield 161, 3) := by decide +kernel
theorem dX11_setting_180 : decode cX11_setting 180 = .ok (.getfield 183, 3) := by decide +kernel
theorem dX11_setting_183 : decode cX11_setting 183 = .ok (.ireturn, 1) := by decide +kernel
theorem dX11_setting_184 : decode cX11_setting 184 = .ok (.aload_n 0, 1) := by decide +kernel
theorem dX11_setting_185 : decode cX11_setting 185 = .ok (.getfield 12, 3) := by decide +kernel
theorem dX11_setting_188 : decode cX11_setting 188 = .ok (.getfield 161, 3) := by decide +kernel
theorem dX11_setting_191 : decode cX11_setting 191 = .ok (.getfield 186, 3) := by decide +kernel
theorem dX11_setting_194 : decode cX11_setting 194 = .ok (.ireturn, 1) := by decide +kernel
theorem dX11_setting_195 : decode cX11_setting 195 = .ok (.aload_n 0, 1) := by decide +kernel
theorem dX11_setting_196 : decode cX11_setting 196 = .ok (.getfield 12, 3) := by decide +kernel
theorem dX11_setting_199 : decode cX11_setting 199 = .ok (.getfield 161, 3) := by decide +kernel
theorem dX11_setting_202 : decode cX11_setting 202 = .ok (.getfield 189, 3) := by decide +kernel
theorem dX11_setting_205 : decode cX11_setting 205 = .ok (.ireturn, 1) := by decide +kernel
theorem dX11_setting_206 : decode cX11_setting 206 = .ok (.aload_n 0, 1) := by decide +kernel
theorem dX11_setting_207 : decode cX11_setting 207 = .ok (.getfield 105, 3) := by decide +kernel
theorem dX11_setting_210 : decode cX11_setting 210 = .ok (.ireturn, 1) := by decide +kernel
theorem dX11_setting_211 : decode cX11_setting 211 = .ok (.new 90, 3) := by decide +kernel
theorem dX11_setting_214 : decode cX11_setting 214 = .ok (.dup, 1) := by decide +kernel
theorem dX11_setting_215 : decode cX11_setting 215 = .ok (.ldc 192, 2) := by decide +kernel
theorem dX11_setting_217 : decode cX11_setting 217 = .ok (.invokespecial 94, 3) := by decide +kernel
theorem dX11_setting_220 : decode cX11_setting 220 = .ok (.athrow, 1) := by decide +kernel
theorem dX11_letter_0 : decode cX11_letter 0 = .ok (.aload_n 0, 1) := by decide +kernel
theorem dX11_letter_1 : decode cX11_letter 1 = .ok (.getfield 12, 3) := by decide +kernel
theorem dX11_letter_4 : decode cX11_letter 4 = .ok (.iload_n 1, 1) := by decide +kernel
theorem dX11_letter_5 : decode cX11_letter 5 = .ok (.invokevirtual 229, 3) := by decide +kernel
theorem dX11_letter_8 : decode cX11_letter 8 = .ok (.ifCond .ne 13, 3) := by decide +kernel
theorem dX11_letter_11 : decode cX11_letter 11 = .ok (.new 198, 3) := by decide +kernel
theorem dX11_letter_14 : decode cX11_letter 14 = .ok (.dup, 1) := by decide +kernel
theorem dX11_letter_15 : decode cX11_letter 15 = .ok (.ldc 232, 2) := by decide +kernel
theorem dX11_letter_17 : decode cX11_letter 17 = .ok (.invokespecial 202, 3) := by decide +kernel
theorem dX11_letter_20 : decode cX11_letter 20 = .ok (.athrow, 1) := by decide +kernel
theorem dX11_letter_21 : decode cX11_letter 21 = .ok (.iload_n 2, 1) := by decide +kernel
theorem dX11_letter_22 : decode cX11_letter 22 = .ok (.tableswitch 227 0 12 #[66, 79, 91, 100, 109, 118, 127, 146, 155, 176, 190, 202, 215], 66) := by decide +kernel
theorem dX11_letter_88 : decode cX11_letter 88 = .ok (.aload_n 0, 1) := by decide +kernel
theorem dX11_letter_89 : decode cX11_letter 89 = .ok (.getfield 12, 3) := by decide +kernel
theorem dX11_letter_92 : decode cX11_letter 92 = .ok (.getfield 108, 3) := by decide +kernel
theorem dX11_letter_95 : decode cX11_letter 95 = .ok (.getfield 234, 3) := by decide +kernel
theorem dX11_letter_98 : decode cX11_letter 98 = .ok (.iload_n 1, 1) := by decide +kernel
theorem dX11_letter_99 : decode cX11_letter 99 = .ok (.iaload, 1) := by decide +kernel
theorem dX11_letter_100 : decode cX11_letter 100 = .ok (.ireturn, 1) := by decide +kernel
theorem dX11_letter_101 : decode cX11_letter 101 = .ok (.aload_n 0, 1) := by decide +kernel
theorem dX11_letter_102 : decode cX11_letter 102 = .ok (.getfield 12, 3) := by decide +kernel
theorem dX11_letter_105 : decode cX11_letter 105 = .ok (.getfield 108, 3) := by decide +kernel
theorem dX11_letter_108 : decode cX11_letter 108 = .ok (.iload_n 1, 1) := by decide +kernel
theorem dX11_letter_109 : decode cX11_letter 109 = .ok (.invokevirtual 237, 3) := by decide +kernel
theorem dX11_letter_112 : decode cX11_letter 112 = .ok (.ireturn, 1) := by decide +kernel
theorem dX11_letter_113 : decode cX11_letter 113 = .ok (.aload_n 0, 1) := by decide +kernel
theorem dX11_letter_114 : decode cX11_letter 114 = .ok (.getfield 12, 3) := by decide +kernel
theorem dX11_letter_117 : decode cX11_letter 117 = .ok (.iload_n 1, 1) := by decide +kernel
theorem dX11_letter_118 : decode cX11_letter 118 = .ok (.invokevirtual 240, 3) := by decide +kernel
theorem dX11_letter_121 : decode cX11_letter 121 = .ok (.ireturn, 1) := by decide +kernel
theorem dX11_letter_122 : decode cX11_letter 122 = .ok (.aload_n 0, 1) := by decide +kernel
theorem dX11_letter_123 : decode cX11_letter 123 = .ok (.getfield 12, 3) := by decide +kernel
theorem dX11_letter_126 : decode cX11_letter 126 = .ok (.iload_n 1, 1) := by decide +kernel
theorem dX11_letter_127 : decode cX11_letter 127 = .ok (.invokevirtual 243, 3) := by decide +kernel
theorem dX11_letter_130 : decode cX11_letter 130 = .ok (.ireturn, 1) := by decide +kernel
theorem dX11_letter_131 : decode cX11_letter 131 = .ok (.aload_n 0, 1) := by decide +kernel
theorem dX11_letter_132 : decode cX11_letter 132 = .ok (.getfield 12, 3) := by decide +kernel
theorem dX11_letter_135 : decode cX11_letter 135 = .ok (.iload_n 1, 1) := by decide +kernel
theorem dX11_letter_136 : decode cX11_letter 136 = .ok (.invokevirtual 246, 3) := by decide +kernel
theorem dX11_letter_139 : decode cX11_letter 139 = .ok (.ireturn, 1) := by decide +kernel
theorem dX11_letter_140 : decode cX11_letter 140 = .ok (.aload_n 0, 1) := by decide +kernel
theorem dX11_letter_141 : decode cX11_letter 141 = .ok (.getfield 12, 3) := by decide +kernel
theorem dX11_letter_144 : decode cX11_letter 144 = .ok (.iload_n 1, 1) := by decide +kernel
theorem dX11_letter_145 : decode cX11_letter 145 = .ok (.invokevirtual 249, 3) := by decide +kernel
theorem dX11_letter_148 : decode cX11_letter 148 = .ok (.ireturn, 1) := by decide +kernel
theorem dX11_letter_149 : decode cX11_letter 149 = .ok (.aload_n 0, 1) := by decide +kernel
theorem dX11_letter_150 : decode cX11_letter 150 = .ok (.getfield 12, 3) := by decide +kernel
theorem dX11_letter_153 : decode cX11_letter 153 = .ok (.getfield 136, 3) := by decide +kernel
theorem dX11_letter_156 : decode cX11_letter 156 = .ok (.aload_n 0, 1) := by decide +kernel
theorem dX11_letter_157 : decode cX11_letter 157 = .ok (.getfield 12, 3) := by decide +kernel
theorem dX11_letter_160 : decode cX11_letter 160 = .ok (.iload_n 1, 1) := by decide +kernel
theorem dX11_letter_161 : decode cX11_letter 161 = .ok (.invokevirtual 240, 3) := by decide +kernel
theorem dX11_letter_164 : decode cX11_letter 164 = .ok (.invokevirtual 252, 3) := by decide +kernel
theorem dX11_letter_167 : decode cX11_letter 167 = .ok (.ireturn, 1) := by decide +kernel
theorem dX11_letter_168 : decode cX11_letter 168 = .ok (.aload_n 0, 1) := by decide +kernel
theorem dX11_letter_169 : decode cX11_letter 169 = .ok (.getfield 12, 3) := by decide +kernel
theorem dX11_letter_172 : decode cX11_letter 172 = .ok (.iload_n 1, 1) := by decide +kernel
theorem dX11_letter_173 : decode cX11_letter 173 = .ok (.invokevirtual 255, 3) := by decide +kernel
theorem dX11_letter_176 : decode cX11_letter 176 = .ok (.ireturn, 1) := by decide +kernel
theorem dX11_letter_177 : decode cX11_letter 177 = .ok (.aload_n 0, 1) := by decide +kernel
theorem dX11_letter_178 : decode cX11_letter 178 = .ok (.getfield 12, 3) := by decide +kernel
theorem dX11_letter_181 : decode cX11_letter 181 = .ok (.getfield 108, 3) := by decide +kernel
theorem dX11_letter_184 : decode cX11_letter 184 = .ok (.getfield 258, 3) := by decide +kernel
theorem dX11_letter_187 : decode cX11_letter 187 = .ok (.iload_n 1, 1) := by decide +kernel
theorem dX11_letter_188 : decode cX11_letter 188 = .ok (.baload, 1) := by decide +kernel
theorem dX11_letter_189 : decode cX11_letter 189 = .ok (.ifCond .eq 7, 3) := by decide +kernel
theorem dX11_letter_192 : decode cX11_letter 192 = .ok (.iconst 1, 1) := by decide +kernel
theorem dX11_letter_193 : decode cX11_letter 193 = .ok (.goto 4, 3) := by decide +kernel
theorem dX11_letter_196 : decode cX11_letter 196 = .ok (.iconst 0, 1) := by decide +kernel
theorem dX11_letter_197 : decode cX11_letter 197 = .ok (.ireturn, 1) := by decide +kernel
theorem dX11_letter_198 : decode cX11_letter 198 = .ok (.aload_n 0, 1) := by decide +kernel
theorem dX11_letter_199 : decode cX11_letter 199 = .ok (.iload_n 1, 1) := by decide +kernel
theorem dX11_letter_200 : decode cX11_letter 200 = .ok (.invokevirtual 261, 3) := by decide +kernel
theorem dX11_letter_203 : decode cX11_letter 203 = .ok (.ifCond .eq 7, 3) := by decide +kernel
theorem dX11_letter_206 : decode cX11_letter 206 = .ok (.iconst 1, 1) := by decide +kernel
theorem dX11_letter_207 : decode cX11_letter 207 = .ok (.goto 4, 3) := by decide +kernel
theorem dX11_letter_210 : decode cX11_letter 210 = .ok (.iconst 0, 1) := by decide +kernel
theorem dX11_letter_211 : decode cX11_letter 211 = .ok (.ireturn, 1) := by decide +kernel
theorem dX11_letter_212 : decode cX11_letter 212 = .ok (.aload_n 0, 1) := by decide +kernel
theorem dX11_letter_213 : decode cX11_letter 213 = .ok (.getfield 12, 3) := by decide +kernel
theorem dX11_letter_216 : decode cX11_letter 216 = .ok (.getfield 108, 3) := by decide +kernel
theorem dX11_letter_219 : decode cX11_letter 219 = .ok (.iload_n 1, 1) := by decide +kernel
theorem dX11_letter_220 : decode cX11_letter 220 = .ok (.invokevirtual 264, 3) := by decide +kernel
theorem dX11_letter_223 : decode cX11_letter 223 = .ok (.ireturn, 1) := by decide +kernel
theorem dX11_letter_224 : decode cX11_letter 224 = .ok (.aload_n 0, 1) := by decide +kernel
theorem dX11_letter_225 : decode cX11_letter 225 = .ok (.getfield 12, 3) := by decide +kernel
theorem dX11_letter_228 : decode cX11_letter 228 = .ok (.getfield 108, 3) := by decide +kernel
theorem dX11_letter_231 : decode cX11_letter 231 = .ok (.getfield 267, 3) := by decide +kernel
theorem dX11_letter_234 : decode cX11_letter 234 = .ok (.iload_n 1, 1) := by decide +kernel
theorem dX11_letter_235 : decode cX11_letter 235 = .ok (.iaload, 1) := by decide +kernel
theorem dX11_letter_236 : decode cX11_letter 236 = .ok (.ireturn, 1) := by decide +kernel
theorem dX11_letter_237 : decode cX11_letter 237 = .ok (.aload_n 0, 1) := by decide +kernel
theorem dX11_letter_238 : decode cX11_letter 238 = .ok (.getfield 12, 3) := by decide +kernel
theorem dX11_letter_241 : decode cX11_letter 241 = .ok (.getfield 170, 3) := by decide +kernel
theorem dX11_letter_244 : decode cX11_letter 244 = .ok (.iload_n 1, 1) := by decide +kernel
theorem dX11_letter_245 : decode cX11_letter 245 = .ok (.invokevirtual 270, 3) := by decide +kernel
theorem dX11_letter_248 : decode cX11_letter 248 = .ok (.ireturn, 1) := by decide +kernel
theorem dX11_letter_249 : decode cX11_letter 249 = .ok (.new 90, 3) := by decide +kernel
theorem dX11_letter_252 : decode cX11_letter 252 = .ok (.dup, 1) := by decide +kernel
theorem dX11_letter_253 : decode cX11_letter 253 = .ok (.ldc_w 273, 3) := by decide +kernel
theorem dX11_letter_256 : decode cX11_letter 256 = .ok (.invokespecial 94, 3) := by decide +kernel
theorem dX11_letter_259 : decode cX11_letter 259 = .ok (.athrow, 1) := by decide +kernel
theorem dX11_scratch_0 : decode cX11_scratch 0 = .ok (.aload_n 0, 1) := by decide +kernel
theorem dX11_scratch_1 : decode cX11_scratch 1 = .ok (.getfield 12, 3) := by decide +kernel
theorem dX11_scratch_4 : decode cX11_scratch 4 = .ok (.iload_n 1, 1) := by decide +kernel
theorem dX11_scratch_5 : decode cX11_scratch 5 = .ok (.invokevirtual 275, 3) := by decide +kernel
theorem dX11_scratch_8 : decode cX11_scratch 8 = .ok (.ifCond .ne 14, 3) := by decide +kernel
theorem dX11_scratch_11 : decode cX11_scratch 11 = .ok (.new 198, 3) := by decide +kernel
theorem dX11_scratch_14 : decode cX11_scratch 14 = .ok (.dup, 1) := by decide +kernel
theorem dX11_scratch_15 : decode cX11_scratch 15 = .ok (.ldc_w 278, 3) := by decide +kernel
theorem dX11_scratch_18 : decode cX11_scratch 18 = .ok (.invokespecial 202, 3) := by decide +kernel
theorem dX11_scratch_21 : decode cX11_scratch 21 = .ok (.athrow, 1) := by decide +kernel
theorem dX11_scratch_22 : decode cX11_scratch 22 = .ok (.iload_n 2, 1) := by decide +kernel
theorem dX11_scratch_23 : decode cX11_scratch 23 = .ok (.tableswitch 57 0 2 #[25, 38, 51], 25) := by decide +kernel
theorem dX11_scratch_48 : decode cX11_scratch 48 = .ok (.aload_n 0, 1) := by decide +kernel
theorem dX11_scratch_49 : decode cX11_scratch 49 = .ok (.getfield 12, 3) := by decide +kernel
theorem dX11_scratch_52 : decode cX11_scratch 52 = .ok (.getfield 170, 3) := by decide +kernel
theorem dX11_scratch_55 : decode cX11_scratch 55 = .ok (.getfield 280, 3) := by decide +kernel
theorem dX11_scratch_58 : decode cX11_scratch 58 = .ok (.iload_n 1, 1) := by decide +kernel
theorem dX11_scratch_59 : decode cX11_scratch 59 = .ok (.iaload, 1) := by decide +kernel
theorem dX11_scratch_60 : decode cX11_scratch 60 = .ok (.ireturn, 1) := by decide +kernel
theorem dX11_scratch_61 : decode cX11_scratch 61 = .ok (.aload_n 0, 1) := by decide +kernel
theorem dX11_scratch_62 : decode cX11_scratch 62 = .ok (.getfield 12, 3) := by decide +kernel
theorem dX11_scratch_65 : decode cX11_scratch 65 = .ok (.getfield 170, 3) := by decide +kernel
theorem dX11_scratch_68 : decode cX11_scratch 68 = .ok (.getfield 282, 3) := by decide +kernel
theorem dX11_scratch_71 : decode cX11_scratch 71 = .ok (.iload_n 1, 1) := by decide +kernel
theorem dX11_scratch_72 : decode cX11_scratch 72 = .ok (.iaload, 1) := by decide +kernel
theorem dX11_scratch_73 : decode cX11_scratch 73 = .ok (.ireturn, 1) := by decide +kernel
theorem dX11_scratch_74 : decode cX11_scratch 74 = .ok (.aload_n 0, 1) := by decide +kernel
theorem dX11_scratch_75 : decode cX11_scratch 75 = .ok (.iload_n 1, 1) := by decide +kernel
theorem dX11_scratch_76 : decode cX11_scratch 76 = .ok (.invokevirtual 285, 3) := by decide +kernel
theorem dX11_scratch_79 : decode cX11_scratch 79 = .ok (.ireturn, 1) := by decide +kernel
theorem dX11_scratch_80 : decode cX11_scratch 80 = .ok (.new 90, 3) := by decide +kernel
theorem dX11_scratch_83 : decode cX11_scratch 83 = .ok (.dup, 1) := by decide +kernel
theorem dX11_scratch_84 : decode cX11_scratch 84 = .ok (.ldc_w 288, 3) := by decide +kernel
theorem dX11_scratch_87 : decode cX11_scratch 87 = .ok (.invokespecial 94, 3) := by decide +kernel
theorem dX11_scratch_90 : decode cX11_scratch 90 = .ok (.athrow, 1) := by decide +kernel
theorem dX11_partsAt_0 : decode cX11_partsAt 0 = .ok (.iload_n 1, 1) := by decide +kernel
theorem dX11_partsAt_1 : decode cX11_partsAt 1 = .ok (.iconst 0, 1) := by decide +kernel
theorem dX11_partsAt_2 : decode cX11_partsAt 2 = .ok (.aload_n 0, 1) := by decide +kernel
theorem dX11_partsAt_3 : decode cX11_partsAt 3 = .ok (.getfield 12, 3) := by decide +kernel
theorem dX11_partsAt_6 : decode cX11_partsAt 6 = .ok (.getfield 136, 3) := by decide +kernel
theorem dX11_partsAt_9 : decode cX11_partsAt 9 = .ok (.invokevirtual 154, 3) := by decide +kernel
theorem dX11_partsAt_12 : decode cX11_partsAt 12 = .ok (.invokestatic 86, 3) := by decide +kernel
theorem dX11_partsAt_15 : decode cX11_partsAt 15 = .ok (.ifCond .ne 14, 3) := by decide +kernel
theorem dX11_partsAt_18 : decode cX11_partsAt 18 = .ok (.new 90, 3) := by decide +kernel
theorem dX11_partsAt_21 : decode cX11_partsAt 21 = .ok (.dup, 1) := by decide +kernel
theorem dX11_partsAt_22 : decode cX11_partsAt 22 = .ok (.ldc_w 299, 3) := by decide +kernel
theorem dX11_partsAt_25 : decode cX11_partsAt 25 = .ok (.invokespecial 94, 3) := by decide +kernel
theorem dX11_partsAt_28 : decode cX11_partsAt 28 = .ok (.athrow, 1) := by decide +kernel
theorem dX11_partsAt_29 : decode cX11_partsAt 29 = .ok (.aload_n 0, 1) := by decide +kernel
theorem dX11_partsAt_30 : decode cX11_partsAt 30 = .ok (.getfield 12, 3) := by decide +kernel
theorem dX11_partsAt_33 : decode cX11_partsAt 33 = .ok (.getfield 136, 3) := by decide +kernel
theorem dX11_partsAt_36 : decode cX11_partsAt 36 = .ok (.iload_n 1, 1) := by decide +kernel
theorem dX11_partsAt_37 : decode cX11_partsAt 37 = .ok (.invokevirtual 301, 3) := by decide +kernel
theorem dX11_partsAt_40 : decode cX11_partsAt 40 = .ok (.ireturn, 1) := by decide +kernel
theorem dX11_heading_0 : decode cX11_heading 0 = .ok (.iload_n 1, 1) := by decide +kernel
theorem dX11_heading_1 : decode cX11_heading 1 = .ok (.iconst 0, 1) := by decide +kernel
theorem dX11_heading_2 : decode cX11_heading 2 = .ok (.aload_n 0, 1) := by decide +kernel
theorem dX11_heading_3 : decode cX11_heading 3 = .ok (.getfield 12, 3) := by decide +kernel
theorem dX11_heading_6 : decode cX11_heading 6 = .ok (.getfield 136, 3) := by decide +kernel
theorem dX11_heading_9 : decode cX11_heading 9 = .ok (.invokevirtual 154, 3) := by decide +kernel
theorem dX11_heading_12 : decode cX11_heading 12 = .ok (.invokestatic 86, 3) := by decide +kernel
theorem dX11_heading_15 : decode cX11_heading 15 = .ok (.ifCond .ne 14, 3) := by decide +kernel
theorem dX11_heading_18 : decode cX11_heading 18 = .ok (.new 90, 3) := by decide +kernel
theorem dX11_heading_21 : decode cX11_heading 21 = .ok (.dup, 1) := by decide +kernel
theorem dX11_heading_22 : decode cX11_heading 22 = .ok (.ldc_w 299, 3) := by decide +kernel
theorem dX11_heading_25 : decode cX11_heading 25 = .ok (.invokespecial 94, 3) := by decide +kernel
theorem dX11_heading_28 : decode cX11_heading 28 = .ok (.athrow, 1) := by decide +kernel
theorem dX11_heading_29 : decode cX11_heading 29 = .ok (.aload_n 0, 1) := by decide +kernel
theorem dX11_heading_30 : decode cX11_heading 30 = .ok (.getfield 12, 3) := by decide +kernel
theorem dX11_heading_33 : decode cX11_heading 33 = .ok (.getfield 136, 3) := by decide +kernel
theorem dX11_heading_36 : decode cX11_heading 36 = .ok (.iload_n 1, 1) := by decide +kernel
theorem dX11_heading_37 : decode cX11_heading 37 = .ok (.invokevirtual 252, 3) := by decide +kernel
theorem dX11_heading_40 : decode cX11_heading 40 = .ok (.ireturn, 1) := by decide +kernel
theorem dX11_room_0 : decode cX11_room 0 = .ok (.aload_n 0, 1) := by decide +kernel
theorem dX11_room_1 : decode cX11_room 1 = .ok (.getfield 12, 3) := by decide +kernel
theorem dX11_room_4 : decode cX11_room 4 = .ok (.iload_n 1, 1) := by decide +kernel
theorem dX11_room_5 : decode cX11_room 5 = .ok (.invokevirtual 312, 3) := by decide +kernel
theorem dX11_room_8 : decode cX11_room 8 = .ok (.ifCond .ne 14, 3) := by decide +kernel
theorem dX11_room_11 : decode cX11_room 11 = .ok (.new 198, 3) := by decide +kernel
theorem dX11_room_14 : decode cX11_room 14 = .ok (.dup, 1) := by decide +kernel
theorem dX11_room_15 : decode cX11_room 15 = .ok (.ldc_w 315, 3) := by decide +kernel
theorem dX11_room_18 : decode cX11_room 18 = .ok (.invokespecial 202, 3) := by decide +kernel
theorem dX11_room_21 : decode cX11_room 21 = .ok (.athrow, 1) := by decide +kernel
theorem dX11_room_22 : decode cX11_room 22 = .ok (.aload_n 0, 1) := by decide +kernel
theorem dX11_room_23 : decode cX11_room 23 = .ok (.getfield 39, 3) := by decide +kernel
theorem dX11_room_26 : decode cX11_room 26 = .ok (.aload_n 0, 1) := by decide +kernel
theorem dX11_room_27 : decode cX11_room 27 = .ok (.getfield 12, 3) := by decide +kernel
theorem dX11_room_30 : decode cX11_room 30 = .ok (.invokevirtual 317, 3) := by decide +kernel
theorem dX11_room_33 : decode cX11_room 33 = .ok (.aload_n 0, 1) := by decide +kernel
theorem dX11_room_34 : decode cX11_room 34 = .ok (.getfield 39, 3) := by decide +kernel
theorem dX11_room_37 : decode cX11_room 37 = .ok (.getfield 320, 3) := by decide +kernel
theorem dX11_room_40 : decode cX11_room 40 = .ok (.iload_n 1, 1) := by decide +kernel
theorem dX11_room_41 : decode cX11_room 41 = .ok (.iaload, 1) := by decide +kernel
theorem dX11_room_42 : decode cX11_room 42 = .ok (.ireturn, 1) := by decide +kernel
theorem dX11_crowded_0 : decode cX11_crowded 0 = .ok (.aload_n 0, 1) := by decide +kernel
theorem dX11_crowded_1 : decode cX11_crowded 1 = .ok (.getfield 39, 3) := by decide +kernel
theorem dX11_crowded_4 : decode cX11_crowded 4 = .ok (.aload_n 0, 1) := by decide +kernel
theorem dX11_crowded_5 : decode cX11_crowded 5 = .ok (.getfield 12, 3) := by decide +kernel
theorem dX11_crowded_8 : decode cX11_crowded 8 = .ok (.invokevirtual 317, 3) := by decide +kernel
theorem dX11_crowded_11 : decode cX11_crowded 11 = .ok (.aload_n 0, 1) := by decide +kernel
theorem dX11_crowded_12 : decode cX11_crowded 12 = .ok (.getfield 39, 3) := by decide +kernel
theorem dX11_crowded_15 : decode cX11_crowded 15 = .ok (.aload_n 0, 1) := by decide +kernel
theorem dX11_crowded_16 : decode cX11_crowded 16 = .ok (.getfield 12, 3) := by decide +kernel
theorem dX11_crowded_19 : decode cX11_crowded 19 = .ok (.getfield 167, 3) := by decide +kernel
theorem dX11_crowded_22 : decode cX11_crowded 22 = .ok (.invokevirtual 323, 3) := by decide +kernel
theorem dX11_crowded_25 : decode cX11_crowded 25 = .ok (.ireturn, 1) := by decide +kernel
theorem dX11_tightest_0 : decode cX11_tightest 0 = .ok (.aload_n 0, 1) := by decide +kernel
theorem dX11_tightest_1 : decode cX11_tightest 1 = .ok (.getfield 39, 3) := by decide +kernel
theorem dX11_tightest_4 : decode cX11_tightest 4 = .ok (.aload_n 0, 1) := by decide +kernel
theorem dX11_tightest_5 : decode cX11_tightest 5 = .ok (.getfield 12, 3) := by decide +kernel
theorem dX11_tightest_8 : decode cX11_tightest 8 = .ok (.invokevirtual 317, 3) := by decide +kernel
theorem dX11_tightest_11 : decode cX11_tightest 11 = .ok (.aload_n 0, 1) := by decide +kernel
theorem dX11_tightest_12 : decode cX11_tightest 12 = .ok (.getfield 39, 3) := by decide +kernel
theorem dX11_tightest_15 : decode cX11_tightest 15 = .ok (.invokevirtual 326, 3) := by decide +kernel
theorem dX11_tightest_18 : decode cX11_tightest 18 = .ok (.ireturn, 1) := by decide +kernel
theorem dX11_flourishIn_0 : decode cX11_flourishIn 0 = .ok (.aload_n 0, 1) := by decide +kernel
theorem dX11_flourishIn_1 : decode cX11_flourishIn 1 = .ok (.getfield 12, 3) := by decide +kernel
theorem dX11_flourishIn_4 : decode cX11_flourishIn 4 = .ok (.iload_n 1, 1) := by decide +kernel
theorem dX11_flourishIn_5 : decode cX11_flourishIn 5 = .ok (.invokevirtual 312, 3) := by decide +kernel
theorem dX11_flourishIn_8 : decode cX11_flourishIn 8 = .ok (.ifCond .ne 14, 3) := by decide +kernel
theorem dX11_flourishIn_11 : decode cX11_flourishIn 11 = .ok (.new 198, 3) := by decide +kernel
theorem dX11_flourishIn_14 : decode cX11_flourishIn 14 = .ok (.dup, 1) := by decide +kernel
theorem dX11_flourishIn_15 : decode cX11_flourishIn 15 = .ok (.ldc_w 315, 3) := by decide +kernel
theorem dX11_flourishIn_18 : decode cX11_flourishIn 18 = .ok (.invokespecial 202, 3) := by decide +kernel
theorem dX11_flourishIn_21 : decode cX11_flourishIn 21 = .ok (.athrow, 1) := by decide +kernel
theorem dX11_flourishIn_22 : decode cX11_flourishIn 22 = .ok (.aload_n 0, 1) := by decide +kernel
theorem dX11_flourishIn_23 : decode cX11_flourishIn 23 = .ok (.getfield 39, 3) := by decide +kernel
theorem dX11_flourishIn_26 : decode cX11_flourishIn 26 = .ok (.aload_n 0, 1) := by decide +kernel
theorem dX11_flourishIn_27 : decode cX11_flourishIn 27 = .ok (.getfield 12, 3) := by decide +kernel
theorem dX11_flourishIn_30 : decode cX11_flourishIn 30 = .ok (.invokevirtual 329, 3) := by decide +kernel
theorem dX11_flourishIn_33 : decode cX11_flourishIn 33 = .ok (.aload_n 0, 1) := by decide +kernel
theorem dX11_flourishIn_34 : decode cX11_flourishIn 34 = .ok (.getfield 39, 3) := by decide +kernel
theorem dX11_flourishIn_37 : decode cX11_flourishIn 37 = .ok (.getfield 332, 3) := by decide +kernel
theorem dX11_flourishIn_40 : decode cX11_flourishIn 40 = .ok (.iload_n 1, 1) := by decide +kernel
theorem dX11_flourishIn_41 : decode cX11_flourishIn 41 = .ok (.iaload, 1) := by decide +kernel
theorem dX11_flourishIn_42 : decode cX11_flourishIn 42 = .ok (.ireturn, 1) := by decide +kernel
theorem dX11_stockLeft_0 : decode cX11_stockLeft 0 = .ok (.aload_n 0, 1) := by decide +kernel
theorem dX11_stockLeft_1 : decode cX11_stockLeft 1 = .ok (.getfield 12, 3) := by decide +kernel
theorem dX11_stockLeft_4 : decode cX11_stockLeft 4 = .ok (.iload_n 1, 1) := by decide +kernel
theorem dX11_stockLeft_5 : decode cX11_stockLeft 5 = .ok (.invokevirtual 290, 3) := by decide +kernel
theorem dX11_stockLeft_8 : decode cX11_stockLeft 8 = .ok (.ifCond .ne 14, 3) := by decide +kernel
theorem dX11_stockLeft_11 : decode cX11_stockLeft 11 = .ok (.new 198, 3) := by decide +kernel
theorem dX11_stockLeft_14 : decode cX11_stockLeft 14 = .ok (.dup, 1) := by decide +kernel
theorem dX11_stockLeft_15 : decode cX11_stockLeft 15 = .ok (.ldc_w 293, 3) := by decide +kernel
theorem dX11_stockLeft_18 : decode cX11_stockLeft 18 = .ok (.invokespecial 202, 3) := by decide +kernel
theorem dX11_stockLeft_21 : decode cX11_stockLeft 21 = .ok (.athrow, 1) := by decide +kernel
theorem dX11_stockLeft_22 : decode cX11_stockLeft 22 = .ok (.aload_n 0, 1) := by decide +kernel
theorem dX11_stockLeft_23 : decode cX11_stockLeft 23 = .ok (.getfield 39, 3) := by decide +kernel
theorem dX11_stockLeft_26 : decode cX11_stockLeft 26 = .ok (.aload_n 0, 1) := by decide +kernel
theorem dX11_stockLeft_27 : decode cX11_stockLeft 27 = .ok (.getfield 12, 3) := by decide +kernel
theorem dX11_stockLeft_30 : decode cX11_stockLeft 30 = .ok (.invokevirtual 329, 3) := by decide +kernel
theorem dX11_stockLeft_33 : decode cX11_stockLeft 33 = .ok (.aload_n 0, 1) := by decide +kernel
theorem dX11_stockLeft_34 : decode cX11_stockLeft 34 = .ok (.getfield 39, 3) := by decide +kernel
theorem dX11_stockLeft_37 : decode cX11_stockLeft 37 = .ok (.getfield 335, 3) := by decide +kernel
theorem dX11_stockLeft_40 : decode cX11_stockLeft 40 = .ok (.iload_n 1, 1) := by decide +kernel
theorem dX11_stockLeft_41 : decode cX11_stockLeft 41 = .ok (.iaload, 1) := by decide +kernel
theorem dX11_stockLeft_42 : decode cX11_stockLeft 42 = .ok (.ireturn, 1) := by decide +kernel
theorem dX11_worth_0 : decode cX11_worth 0 = .ok (.aload_n 0, 1) := by decide +kernel
theorem dX11_worth_1 : decode cX11_worth 1 = .ok (.getfield 39, 3) := by decide +kernel
theorem dX11_worth_4 : decode cX11_worth 4 = .ok (.aload_n 0, 1) := by decide +kernel
theorem dX11_worth_5 : decode cX11_worth 5 = .ok (.getfield 12, 3) := by decide +kernel
theorem dX11_worth_8 : decode cX11_worth 8 = .ok (.invokevirtual 329, 3) := by decide +kernel
theorem dX11_worth_11 : decode cX11_worth 11 = .ok (.aload_n 0, 1) := by decide +kernel
theorem dX11_worth_12 : decode cX11_worth 12 = .ok (.getfield 39, 3) := by decide +kernel
theorem dX11_worth_15 : decode cX11_worth 15 = .ok (.aload_n 0, 1) := by decide +kernel
theorem dX11_worth_16 : decode cX11_worth 16 = .ok (.getfield 12, 3) := by decide +kernel
theorem dX11_worth_19 : decode cX11_worth 19 = .ok (.getfield 145, 3) := by decide +kernel
theorem dX11_worth_22 : decode cX11_worth 22 = .ok (.invokevirtual 338, 3) := by decide +kernel
theorem dX11_worth_25 : decode cX11_worth 25 = .ok (.ireturn, 1) := by decide +kernel
theorem dX11_danger_0 : decode cX11_danger 0 = .ok (.aload_n 0, 1) := by decide +kernel
theorem dX11_danger_1 : decode cX11_danger 1 = .ok (.getfield 12, 3) := by decide +kernel
theorem dX11_danger_4 : decode cX11_danger 4 = .ok (.iload_n 1, 1) := by decide +kernel
theorem dX11_danger_5 : decode cX11_danger 5 = .ok (.invokevirtual 229, 3) := by decide +kernel
theorem dX11_danger_8 : decode cX11_danger 8 = .ok (.ifCond .ne 13, 3) := by decide +kernel
theorem dX11_danger_11 : decode cX11_danger 11 = .ok (.new 198, 3) := by decide +kernel
theorem dX11_danger_14 : decode cX11_danger 14 = .ok (.dup, 1) := by decide +kernel
theorem dX11_danger_15 : decode cX11_danger 15 = .ok (.ldc 232, 2) := by decide +kernel
theorem dX11_danger_17 : decode cX11_danger 17 = .ok (.invokespecial 202, 3) := by decide +kernel
theorem dX11_danger_20 : decode cX11_danger 20 = .ok (.athrow, 1) := by decide +kernel
theorem dX11_danger_21 : decode cX11_danger 21 = .ok (.iconst 2, 1) := by decide +kernel
theorem dX11_danger_22 : decode cX11_danger 22 = .ok (.aload_n 0, 1) := by decide +kernel
theorem dX11_danger_23 : decode cX11_danger 23 = .ok (.getfield 12, 3) := by decide +kernel
theorem dX11_danger_26 : decode cX11_danger 26 = .ok (.iload_n 1, 1) := by decide +kernel
theorem dX11_danger_27 : decode cX11_danger 27 = .ok (.invokevirtual 349, 3) := by decide +kernel
theorem dX11_danger_30 : decode cX11_danger 30 = .ok (.aload_n 0, 1) := by decide +kernel
theorem dX11_danger_31 : decode cX11_danger 31 = .ok (.getfield 12, 3) := by decide +kernel
theorem dX11_danger_34 : decode cX11_danger 34 = .ok (.getfield 161, 3) := by decide +kernel
theorem dX11_danger_37 : decode cX11_danger 37 = .ok (.getfield 164, 3) := by decide +kernel
theorem dX11_danger_40 : decode cX11_danger 40 = .ok (.isub, 1) := by decide +kernel
theorem dX11_danger_41 : decode cX11_danger 41 = .ok (.imul, 1) := by decide +kernel
theorem dX11_danger_42 : decode cX11_danger 42 = .ok (.istore_n 2, 1) := by decide +kernel
theorem dX11_danger_43 : decode cX11_danger 43 = .ok (.iconst 0, 1) := by decide +kernel
theorem dX11_danger_44 : decode cX11_danger 44 = .ok (.bipush 100, 2) := by decide +kernel
theorem dX11_danger_46 : decode cX11_danger 46 = .ok (.iload_n 2, 1) := by decide +kernel
theorem dX11_danger_47 : decode cX11_danger 47 = .ok (.invokestatic 352, 3) := by decide +kernel
theorem dX11_danger_50 : decode cX11_danger 50 = .ok (.invokestatic 357, 3) := by decide +kernel
theorem dX11_danger_53 : decode cX11_danger 53 = .ok (.ireturn, 1) := by decide +kernel
theorem dX11_slipsIf_0 : decode cX11_slipsIf 0 = .ok (.aload_n 0, 1) := by decide +kernel
theorem dX11_slipsIf_1 : decode cX11_slipsIf 1 = .ok (.aload_n 0, 1) := by decide +kernel
theorem dX11_slipsIf_2 : decode cX11_slipsIf 2 = .ok (.getfield 12, 3) := by decide +kernel
theorem dX11_slipsIf_5 : decode cX11_slipsIf 5 = .ok (.getfield 161, 3) := by decide +kernel
theorem dX11_slipsIf_8 : decode cX11_slipsIf 8 = .ok (.getfield 164, 3) := by decide +kernel
theorem dX11_slipsIf_11 : decode cX11_slipsIf 11 = .ok (.invokevirtual 360, 3) := by decide +kernel
theorem dX11_slipsIf_14 : decode cX11_slipsIf 14 = .ok (.ireturn, 1) := by decide +kernel
theorem dX11_leastSharp_0 : decode cX11_leastSharp 0 = .ok (.iconst 1, 1) := by decide +kernel
theorem dX11_leastSharp_1 : decode cX11_leastSharp 1 = .ok (.istore_n 1, 1) := by decide +kernel
theorem dX11_leastSharp_2 : decode cX11_leastSharp 2 = .ok (.iload_n 1, 1) := by decide +kernel
theorem dX11_leastSharp_3 : decode cX11_leastSharp 3 = .ok (.bipush 99, 2) := by decide +kernel
theorem dX11_leastSharp_5 : decode cX11_leastSharp 5 = .ok (.if_icmp .gt 19, 3) := by decide +kernel
theorem dX11_leastSharp_8 : decode cX11_leastSharp 8 = .ok (.aload_n 0, 1) := by decide +kernel
theorem dX11_leastSharp_9 : decode cX11_leastSharp 9 = .ok (.iload_n 1, 1) := by decide +kernel
theorem dX11_leastSharp_10 : decode cX11_leastSharp 10 = .ok (.invokevirtual 360, 3) := by decide +kernel
theorem dX11_leastSharp_13 : decode cX11_leastSharp 13 = .ok (.ifCond .ne 5, 3) := by decide +kernel
theorem dX11_leastSharp_16 : decode cX11_leastSharp 16 = .ok (.iload_n 1, 1) := by decide +kernel
theorem dX11_leastSharp_17 : decode cX11_leastSharp 17 = .ok (.ireturn, 1) := by decide +kernel
theorem dX11_leastSharp_18 : decode cX11_leastSharp 18 = .ok (.iinc 1 1, 3) := by decide +kernel
theorem dX11_leastSharp_21 : decode cX11_leastSharp 21 = .ok (.goto (-19), 3) := by decide +kernel
theorem dX11_leastSharp_24 : decode cX11_leastSharp 24 = .ok (.iconst (-1), 1) := by decide +kernel
theorem dX11_leastSharp_25 : decode cX11_leastSharp 25 = .ok (.ireturn, 1) := by decide +kernel
theorem dX11_engrave_0 : decode cX11_engrave 0 = .ok (.aload_n 0, 1) := by decide +kernel
theorem dX11_engrave_1 : decode cX11_engrave 1 = .ok (.getfield 12, 3) := by decide +kernel
theorem dX11_engrave_4 : decode cX11_engrave 4 = .ok (.iload_n 1, 1) := by decide +kernel
theorem dX11_engrave_5 : decode cX11_engrave 5 = .ok (.invokevirtual 229, 3) := by decide +kernel
theorem dX11_engrave_8 : decode cX11_engrave 8 = .ok (.ifCond .ne 13, 3) := by decide +kernel
theorem dX11_engrave_11 : decode cX11_engrave 11 = .ok (.new 198, 3) := by decide +kernel
theorem dX11_engrave_14 : decode cX11_engrave 14 = .ok (.dup, 1) := by decide +kernel
theorem dX11_engrave_15 : decode cX11_engrave 15 = .ok (.ldc 232, 2) := by decide +kernel
theorem dX11_engrave_17 : decode cX11_engrave 17 = .ok (.invokespecial 202, 3) := by decide +kernel
theorem dX11_engrave_20 : decode cX11_engrave 20 = .ok (.athrow, 1) := by decide +kernel
theorem dX11_engrave_21 : decode cX11_engrave 21 = .ok (.aload_n 0, 1) := by decide +kernel
theorem dX11_engrave_22 : decode cX11_engrave 22 = .ok (.getfield 12, 3) := by decide +kernel
theorem dX11_engrave_25 : decode cX11_engrave 25 = .ok (.iload_n 1, 1) := by decide +kernel
theorem dX11_engrave_26 : decode cX11_engrave 26 = .ok (.invokevirtual 395, 3) := by decide +kernel
theorem dX11_engrave_29 : decode cX11_engrave 29 = .ok (.ifCond .ne 14, 3) := by decide +kernel
theorem dX11_engrave_32 : decode cX11_engrave 32 = .ok (.new 75, 3) := by decide +kernel
theorem dX11_engrave_35 : decode cX11_engrave 35 = .ok (.dup, 1) := by decide +kernel
theorem dX11_engrave_36 : decode cX11_engrave 36 = .ok (.ldc_w 398, 3) := by decide +kernel
theorem dX11_engrave_39 : decode cX11_engrave 39 = .ok (.invokespecial 79, 3) := by decide +kernel
theorem dX11_engrave_42 : decode cX11_engrave 42 = .ok (.athrow, 1) := by decide +kernel
theorem dX11_engrave_43 : decode cX11_engrave 43 = .ok (.aload_n 0, 1) := by decide +kernel
theorem dX11_engrave_44 : decode cX11_engrave 44 = .ok (.invokevirtual 123, 3) := by decide +kernel
theorem dX11_engrave_47 : decode cX11_engrave 47 = .ok (.aload_n 0, 1) := by decide +kernel
theorem dX11_engrave_48 : decode cX11_engrave 48 = .ok (.getfield 12, 3) := by decide +kernel
theorem dX11_engrave_51 : decode cX11_engrave 51 = .ok (.iload_n 1, 1) := by decide +kernel
theorem dX11_engrave_52 : decode cX11_engrave 52 = .ok (.invokevirtual 400, 3) := by decide +kernel
theorem dX11_engrave_55 : decode cX11_engrave 55 = .ok (.ireturn, 1) := by decide +kernel
theorem dX11_engraveAll_0 : decode cX11_engraveAll 0 = .ok (.aload_n 0, 1) := by decide +kernel
theorem dX11_engraveAll_1 : decode cX11_engraveAll 1 = .ok (.getfield 12, 3) := by decide +kernel
theorem dX11_engraveAll_4 : decode cX11_engraveAll 4 = .ok (.invokevirtual 403, 3) := by decide +kernel
theorem dX11_engraveAll_7 : decode cX11_engraveAll 7 = .ok (.ifCond .ne 14, 3) := by decide +kernel
theorem dX11_engraveAll_10 : decode cX11_engraveAll 10 = .ok (.new 75, 3) := by decide +kernel
theorem dX11_engraveAll_13 : decode cX11_engraveAll 13 = .ok (.dup, 1) := by decide +kernel
theorem dX11_engraveAll_14 : decode cX11_engraveAll 14 = .ok (.ldc_w 406, 3) := by decide +kernel
theorem dX11_engraveAll_17 : decode cX11_engraveAll 17 = .ok (.invokespecial 79, 3) := by decide +kernel
theorem dX11_engraveAll_20 : decode cX11_engraveAll 20 = .ok (.athrow, 1) := by decide +kernel
theorem dX11_engraveAll_21 : decode cX11_engraveAll 21 = .ok (.aload_n 0, 1) := by decide +kernel
theorem dX11_engraveAll_22 : decode cX11_engraveAll 22 = .ok (.invokevirtual 123, 3) := by decide +kernel
theorem dX11_engraveAll_25 : decode cX11_engraveAll 25 = .ok (.aload_n 0, 1) := by decide +kernel
theorem dX11_engraveAll_26 : decode cX11_engraveAll 26 = .ok (.getfield 12, 3) := by decide +kernel
theorem dX11_engraveAll_29 : decode cX11_engraveAll 29 = .ok (.invokevirtual 408, 3) := by decide +kernel
theorem dX11_engraveAll_32 : decode cX11_engraveAll 32 = .ok (.ireturn, 1) := by decide +kernel
theorem dX11_mend_0 : decode cX11_mend 0 = .ok (.aload_n 0, 1) := by decide +kernel
theorem dX11_mend_1 : decode cX11_mend 1 = .ok (.getfield 12, 3) := by decide +kernel
theorem dX11_mend_4 : decode cX11_mend 4 = .ok (.iload_n 1, 1) := by decide +kernel
theorem dX11_mend_5 : decode cX11_mend 5 = .ok (.invokevirtual 275, 3) := by decide +kernel
theorem dX11_mend_8 : decode cX11_mend 8 = .ok (.ifCond .ne 14, 3) := by decide +kernel
theorem dX11_mend_11 : decode cX11_mend 11 = .ok (.new 198, 3) := by decide +kernel
theorem dX11_mend_14 : decode cX11_mend 14 = .ok (.dup, 1) := by decide +kernel
theorem dX11_mend_15 : decode cX11_mend 15 = .ok (.ldc_w 278, 3) := by decide +kernel
theorem dX11_mend_18 : decode cX11_mend 18 = .ok (.invokespecial 202, 3) := by decide +kernel
theorem dX11_mend_21 : decode cX11_mend 21 = .ok (.athrow, 1) := by decide +kernel
theorem dX11_mend_22 : decode cX11_mend 22 = .ok (.aload_n 0, 1) := by decide +kernel
theorem dX11_mend_23 : decode cX11_mend 23 = .ok (.getfield 12, 3) := by decide +kernel
theorem dX11_mend_26 : decode cX11_mend 26 = .ok (.iload_n 1, 1) := by decide +kernel
theorem dX11_mend_27 : decode cX11_mend 27 = .ok (.invokevirtual 411, 3) := by decide +kernel
theorem dX11_mend_30 : decode cX11_mend 30 = .ok (.ifCond .ne 14, 3) := by decide +kernel
theorem dX11_mend_33 : decode cX11_mend 33 = .ok (.new 75, 3) := by decide +kernel
theorem dX11_mend_36 : decode cX11_mend 36 = .ok (.dup, 1) := by decide +kernel
theorem dX11_mend_37 : decode cX11_mend 37 = .ok (.ldc_w 414, 3) := by decide +kernel
theorem dX11_mend_40 : decode cX11_mend 40 = .ok (.invokespecial 79, 3) := by decide +kernel
theorem dX11_mend_43 : decode cX11_mend 43 = .ok (.athrow, 1) := by decide +kernel
theorem dX11_mend_44 : decode cX11_mend 44 = .ok (.aload_n 0, 1) := by decide +kernel
theorem dX11_mend_45 : decode cX11_mend 45 = .ok (.invokevirtual 123, 3) := by decide +kernel
theorem dX11_mend_48 : decode cX11_mend 48 = .ok (.aload_n 0, 1) := by decide +kernel
theorem dX11_mend_49 : decode cX11_mend 49 = .ok (.getfield 12, 3) := by decide +kernel
theorem dX11_mend_52 : decode cX11_mend 52 = .ok (.iload_n 1, 1) := by decide +kernel
theorem dX11_mend_53 : decode cX11_mend 53 = .ok (.invokevirtual 416, 3) := by decide +kernel
theorem dX11_mend_56 : decode cX11_mend 56 = .ok (.ireturn, 1) := by decide +kernel
theorem dX11_polish_0 : decode cX11_polish 0 = .ok (.aload_n 0, 1) := by decide +kernel
theorem dX11_polish_1 : decode cX11_polish 1 = .ok (.getfield 12, 3) := by decide +kernel
theorem dX11_polish_4 : decode cX11_polish 4 = .ok (.iload_n 1, 1) := by decide +kernel
theorem dX11_polish_5 : decode cX11_polish 5 = .ok (.invokevirtual 229, 3) := by decide +kernel
theorem dX11_polish_8 : decode cX11_polish 8 = .ok (.ifCond .ne 13, 3) := by decide +kernel
theorem dX11_polish_11 : decode cX11_polish 11 = .ok (.new 198, 3) := by decide +kernel
theorem dX11_polish_14 : decode cX11_polish 14 = .ok (.dup, 1) := by decide +kernel
theorem dX11_polish_15 : decode cX11_polish 15 = .ok (.ldc 232, 2) := by decide +kernel
theorem dX11_polish_17 : decode cX11_polish 17 = .ok (.invokespecial 202, 3) := by decide +kernel
theorem dX11_polish_20 : decode cX11_polish 20 = .ok (.athrow, 1) := by decide +kernel
theorem dX11_polish_21 : decode cX11_polish 21 = .ok (.aload_n 0, 1) := by decide +kernel
theorem dX11_polish_22 : decode cX11_polish 22 = .ok (.getfield 12, 3) := by decide +kernel
theorem dX11_polish_25 : decode cX11_polish 25 = .ok (.iload_n 1, 1) := by decide +kernel
theorem dX11_polish_26 : decode cX11_polish 26 = .ok (.invokevirtual 419, 3) := by decide +kernel
theorem dX11_polish_29 : decode cX11_polish 29 = .ok (.ifCond .ne 14, 3) := by decide +kernel
theorem dX11_polish_32 : decode cX11_polish 32 = .ok (.new 75, 3) := by decide +kernel
theorem dX11_polish_35 : decode cX11_polish 35 = .ok (.dup, 1) := by decide +kernel
theorem dX11_polish_36 : decode cX11_polish 36 = .ok (.ldc_w 422, 3) := by decide +kernel
theorem dX11_polish_39 : decode cX11_polish 39 = .ok (.invokespecial 79, 3) := by decide +kernel
theorem dX11_polish_42 : decode cX11_polish 42 = .ok (.athrow, 1) := by decide +kernel
theorem dX11_polish_43 : decode cX11_polish 43 = .ok (.aload_n 0, 1) := by decide +kernel
theorem dX11_polish_44 : decode cX11_polish 44 = .ok (.invokevirtual 123, 3) := by decide +kernel
theorem dX11_polish_47 : decode cX11_polish 47 = .ok (.aload_n 0, 1) := by decide +kernel
theorem dX11_polish_48 : decode cX11_polish 48 = .ok (.getfield 12, 3) := by decide +kernel
theorem dX11_polish_51 : decode cX11_polish 51 = .ok (.iload_n 1, 1) := by decide +kernel
theorem dX11_polish_52 : decode cX11_polish 52 = .ok (.invokevirtual 424, 3) := by decide +kernel
theorem dX11_polish_55 : decode cX11_polish 55 = .ok (.ireturn, 1) := by decide +kernel
theorem dX11_sharpen_0 : decode cX11_sharpen 0 = .ok (.iload_n 1, 1) := by decide +kernel
theorem dX11_sharpen_1 : decode cX11_sharpen 1 = .ok (.invokestatic 427, 3) := by decide +kernel
theorem dX11_sharpen_4 : decode cX11_sharpen 4 = .ok (.ifCond .ne 14, 3) := by decide +kernel
theorem dX11_sharpen_7 : decode cX11_sharpen 7 = .ok (.new 90, 3) := by decide +kernel
theorem dX11_sharpen_10 : decode cX11_sharpen 10 = .ok (.dup, 1) := by decide +kernel
theorem dX11_sharpen_11 : decode cX11_sharpen 11 = .ok (.ldc_w 430, 3) := by decide +kernel
theorem dX11_sharpen_14 : decode cX11_sharpen 14 = .ok (.invokespecial 94, 3) := by decide +kernel
theorem dX11_sharpen_17 : decode cX11_sharpen 17 = .ok (.athrow, 1) := by decide +kernel
theorem dX11_sharpen_18 : decode cX11_sharpen 18 = .ok (.aload_n 0, 1) := by decide +kernel
theorem dX11_sharpen_19 : decode cX11_sharpen 19 = .ok (.invokevirtual 123, 3) := by decide +kernel
theorem dX11_sharpen_22 : decode cX11_sharpen 22 = .ok (.aload_n 0, 1) := by decide +kernel
theorem dX11_sharpen_23 : decode cX11_sharpen 23 = .ok (.getfield 12, 3) := by decide +kernel
theorem dX11_sharpen_26 : decode cX11_sharpen 26 = .ok (.getfield 161, 3) := by decide +kernel
theorem dX11_sharpen_29 : decode cX11_sharpen 29 = .ok (.iload_n 1, 1) := by decide +kernel
theorem dX11_sharpen_30 : decode cX11_sharpen 30 = .ok (.invokevirtual 432, 3) := by decide +kernel
theorem dX11_sharpen_33 : decode cX11_sharpen 33 = .ok (.ireturn, 1) := by decide +kernel
theorem dX11_setMargin_0 : decode cX11_setMargin 0 = .ok (.iload_n 1, 1) := by decide +kernel
theorem dX11_setMargin_1 : decode cX11_setMargin 1 = .ok (.invokestatic 435, 3) := by decide +kernel
theorem dX11_setMargin_4 : decode cX11_setMargin 4 = .ok (.ifCond .ne 14, 3) := by decide +kernel
theorem dX11_setMargin_7 : decode cX11_setMargin 7 = .ok (.new 90, 3) := by decide +kernel
theorem dX11_setMargin_10 : decode cX11_setMargin 10 = .ok (.dup, 1) := by decide +kernel
theorem dX11_setMargin_11 : decode cX11_setMargin 11 = .ok (.ldc_w 438, 3) := by decide +kernel
theorem dX11_setMargin_14 : decode cX11_setMargin 14 = .ok (.invokespecial 94, 3) := by decide +kernel
theorem dX11_setMargin_17 : decode cX11_setMargin 17 = .ok (.athrow, 1) := by decide +kernel
theorem dX11_setMargin_18 : decode cX11_setMargin 18 = .ok (.aload_n 0, 1) := by decide +kernel
theorem dX11_setMargin_19 : decode cX11_setMargin 19 = .ok (.invokevirtual 123, 3) := by decide +kernel
theorem dX11_setMargin_22 : decode cX11_setMargin 22 = .ok (.aload_n 0, 1) := by decide +kernel
theorem dX11_setMargin_23 : decode cX11_setMargin 23 = .ok (.getfield 12, 3) := by decide +kernel
theorem dX11_setMargin_26 : decode cX11_setMargin 26 = .ok (.getfield 167, 3) := by decide +kernel
theorem dX11_setMargin_29 : decode cX11_setMargin 29 = .ok (.istore_n 2, 1) := by decide +kernel
theorem dX11_setMargin_30 : decode cX11_setMargin 30 = .ok (.aload_n 0, 1) := by decide +kernel
theorem dX11_setMargin_31 : decode cX11_setMargin 31 = .ok (.getfield 12, 3) := by decide +kernel
theorem dX11_setMargin_34 : decode cX11_setMargin 34 = .ok (.iload_n 1, 1) := by decide +kernel
theorem dX11_setMargin_35 : decode cX11_setMargin 35 = .ok (.putfield 167, 3) := by decide +kernel
theorem dX11_setMargin_38 : decode cX11_setMargin 38 = .ok (.iload_n 2, 1) := by decide +kernel
theorem dX11_setMargin_39 : decode cX11_setMargin 39 = .ok (.ireturn, 1) := by decide +kernel
theorem dX11_setRadius_0 : decode cX11_setRadius 0 = .ok (.aload_n 0, 1) := by decide +kernel
theorem dX11_setRadius_1 : decode cX11_setRadius 1 = .ok (.getfield 12, 3) := by decide +kernel
theorem dX11_setRadius_4 : decode cX11_setRadius 4 = .ok (.iload_n 1, 1) := by decide +kernel
theorem dX11_setRadius_5 : decode cX11_setRadius 5 = .ok (.invokevirtual 194, 3) := by decide +kernel
theorem dX11_setRadius_8 : decode cX11_setRadius 8 = .ok (.ifCond .ne 13, 3) := by decide +kernel
theorem dX11_setRadius_11 : decode cX11_setRadius 11 = .ok (.new 198, 3) := by decide +kernel
theorem dX11_setRadius_14 : decode cX11_setRadius 14 = .ok (.dup, 1) := by decide +kernel
theorem dX11_setRadius_15 : decode cX11_setRadius 15 = .ok (.ldc 200, 2) := by decide +kernel
theorem dX11_setRadius_17 : decode cX11_setRadius 17 = .ok (.invokespecial 202, 3) := by decide +kernel
theorem dX11_setRadius_20 : decode cX11_setRadius 20 = .ok (.athrow, 1) := by decide +kernel
theorem dX11_setRadius_21 : decode cX11_setRadius 21 = .ok (.iload_n 2, 1) := by decide +kernel
theorem dX11_setRadius_22 : decode cX11_setRadius 22 = .ok (.iconst 1, 1) := by decide +kernel
theorem dX11_setRadius_23 : decode cX11_setRadius 23 = .ok (.bipush 99, 2) := by decide +kernel
theorem dX11_setRadius_25 : decode cX11_setRadius 25 = .ok (.invokestatic 86, 3) := by decide +kernel
theorem dX11_setRadius_28 : decode cX11_setRadius 28 = .ok (.ifCond .ne 14, 3) := by decide +kernel
theorem dX11_setRadius_31 : decode cX11_setRadius 31 = .ok (.new 90, 3) := by decide +kernel
theorem dX11_setRadius_34 : decode cX11_setRadius 34 = .ok (.dup, 1) := by decide +kernel
theorem dX11_setRadius_35 : decode cX11_setRadius 35 = .ok (.ldc_w 440, 3) := by decide +kernel
theorem dX11_setRadius_38 : decode cX11_setRadius 38 = .ok (.invokespecial 94, 3) := by decide +kernel
theorem dX11_setRadius_41 : decode cX11_setRadius 41 = .ok (.athrow, 1) := by decide +kernel
theorem dX11_setRadius_42 : decode cX11_setRadius 42 = .ok (.aload_n 0, 1) := by decide +kernel
theorem dX11_setRadius_43 : decode cX11_setRadius 43 = .ok (.invokevirtual 123, 3) := by decide +kernel
theorem dX11_setRadius_46 : decode cX11_setRadius 46 = .ok (.aload_n 0, 1) := by decide +kernel
theorem dX11_setRadius_47 : decode cX11_setRadius 47 = .ok (.getfield 12, 3) := by decide +kernel
theorem dX11_setRadius_50 : decode cX11_setRadius 50 = .ok (.getfield 136, 3) := by decide +kernel
theorem dX11_setRadius_53 : decode cX11_setRadius 53 = .ok (.getfield 203, 3) := by decide +kernel
theorem dX11_setRadius_56 : decode cX11_setRadius 56 = .ok (.iload_n 1, 1) := by decide +kernel
theorem dX11_setRadius_57 : decode cX11_setRadius 57 = .ok (.iaload, 1) := by decide +kernel
theorem dX11_setRadius_58 : decode cX11_setRadius 58 = .ok (.istore_n 3, 1) := by decide +kernel
theorem dX11_setRadius_59 : decode cX11_setRadius 59 = .ok (.aload_n 0, 1) := by decide +kernel
theorem dX11_setRadius_60 : decode cX11_setRadius 60 = .ok (.getfield 12, 3) := by decide +kernel
theorem dX11_setRadius_63 : decode cX11_setRadius 63 = .ok (.getfield 136, 3) := by decide +kernel
theorem dX11_setRadius_66 : decode cX11_setRadius 66 = .ok (.getfield 203, 3) := by decide +kernel
theorem dX11_setRadius_69 : decode cX11_setRadius 69 = .ok (.iload_n 1, 1) := by decide +kernel
theorem dX11_setRadius_70 : decode cX11_setRadius 70 = .ok (.iload_n 2, 1) := by decide +kernel
theorem dX11_setRadius_71 : decode cX11_setRadius 71 = .ok (.iastore, 1) := by decide +kernel
theorem dX11_setRadius_72 : decode cX11_setRadius 72 = .ok (.iload_n 3, 1) := by decide +kernel
theorem dX11_setRadius_73 : decode cX11_setRadius 73 = .ok (.ireturn, 1) := by decide +kernel
theorem dX11_setWidth_0 : decode cX11_setWidth 0 = .ok (.iload_n 1, 1) := by decide +kernel
theorem dX11_setWidth_1 : decode cX11_setWidth 1 = .ok (.invokestatic 369, 3) := by decide +kernel
theorem dX11_setWidth_4 : decode cX11_setWidth 4 = .ok (.ifCond .eq 13, 3) := by decide +kernel
theorem dX11_setWidth_7 : decode cX11_setWidth 7 = .ok (.iload_n 2, 1) := by decide +kernel
theorem dX11_setWidth_8 : decode cX11_setWidth 8 = .ok (.iconst 1, 1) := by decide +kernel
theorem dX11_setWidth_9 : decode cX11_setWidth 9 = .ok (.bipush 99, 2) := by decide +kernel
theorem dX11_setWidth_11 : decode cX11_setWidth 11 = .ok (.invokestatic 86, 3) := by decide +kernel
theorem dX11_setWidth_14 : decode cX11_setWidth 14 = .ok (.ifCond .ne 14, 3) := by decide +kernel
theorem dX11_setWidth_17 : decode cX11_setWidth 17 = .ok (.new 90, 3) := by decide +kernel
theorem dX11_setWidth_20 : decode cX11_setWidth 20 = .ok (.dup, 1) := by decide +kernel
theorem dX11_setWidth_21 : decode cX11_setWidth 21 = .ok (.ldc_w 442, 3) := by decide +kernel
theorem dX11_setWidth_24 : decode cX11_setWidth 24 = .ok (.invokespecial 94, 3) := by decide +kernel
theorem dX11_setWidth_27 : decode cX11_setWidth 27 = .ok (.athrow, 1) := by decide +kernel
theorem dX11_setWidth_28 : decode cX11_setWidth 28 = .ok (.aload_n 0, 1) := by decide +kernel
theorem dX11_setWidth_29 : decode cX11_setWidth 29 = .ok (.invokevirtual 123, 3) := by decide +kernel
theorem dX11_setWidth_32 : decode cX11_setWidth 32 = .ok (.aload_n 0, 1) := by decide +kernel
theorem dX11_setWidth_33 : decode cX11_setWidth 33 = .ok (.getfield 12, 3) := by decide +kernel
theorem dX11_setWidth_36 : decode cX11_setWidth 36 = .ok (.getfield 108, 3) := by decide +kernel
theorem dX11_setWidth_39 : decode cX11_setWidth 39 = .ok (.getfield 374, 3) := by decide +kernel
theorem dX11_setWidth_42 : decode cX11_setWidth 42 = .ok (.iload_n 1, 1) := by decide +kernel
theorem dX11_setWidth_43 : decode cX11_setWidth 43 = .ok (.iaload, 1) := by decide +kernel
theorem dX11_setWidth_44 : decode cX11_setWidth 44 = .ok (.istore_n 3, 1) := by decide +kernel
theorem dX11_setWidth_45 : decode cX11_setWidth 45 = .ok (.aload_n 0, 1) := by decide +kernel
theorem dX11_setWidth_46 : decode cX11_setWidth 46 = .ok (.getfield 12, 3) := by decide +kernel
theorem dX11_setWidth_49 : decode cX11_setWidth 49 = .ok (.getfield 108, 3) := by decide +kernel
theorem dX11_setWidth_52 : decode cX11_setWidth 52 = .ok (.getfield 374, 3) := by decide +kernel
theorem dX11_setWidth_55 : decode cX11_setWidth 55 = .ok (.iload_n 1, 1) := by decide +kernel
theorem dX11_setWidth_56 : decode cX11_setWidth 56 = .ok (.iload_n 2, 1) := by decide +kernel
theorem dX11_setWidth_57 : decode cX11_setWidth 57 = .ok (.iastore, 1) := by decide +kernel
theorem dX11_setWidth_58 : decode cX11_setWidth 58 = .ok (.iload_n 3, 1) := by decide +kernel
theorem dX11_setWidth_59 : decode cX11_setWidth 59 = .ok (.ireturn, 1) := by decide +kernel
theorem dX11_undo_0 : decode cX11_undo 0 = .ok (.aload_n 0, 1) := by decide +kernel
theorem dX11_undo_1 : decode cX11_undo 1 = .ok (.getfield 105, 3) := by decide +kernel
theorem dX11_undo_4 : decode cX11_undo 4 = .ok (.ifCond .gt 5, 3) := by decide +kernel
theorem dX11_undo_7 : decode cX11_undo 7 = .ok (.iconst (-1), 1) := by decide +kernel
theorem dX11_undo_8 : decode cX11_undo 8 = .ok (.ireturn, 1) := by decide +kernel
theorem dX11_undo_9 : decode cX11_undo 9 = .ok (.aload_n 0, 1) := by decide +kernel
theorem dX11_undo_10 : decode cX11_undo 10 = .ok (.dup, 1) := by decide +kernel
theorem dX11_undo_11 : decode cX11_undo 11 = .ok (.getfield 105, 3) := by decide +kernel
theorem dX11_undo_14 : decode cX11_undo 14 = .ok (.iconst 1, 1) := by decide +kernel
theorem dX11_undo_15 : decode cX11_undo 15 = .ok (.isub, 1) := by decide +kernel
theorem dX11_undo_16 : decode cX11_undo 16 = .ok (.putfield 105, 3) := by decide +kernel
theorem dX11_undo_19 : decode cX11_undo 19 = .ok (.aload_n 0, 1) := by decide +kernel
theorem dX11_undo_20 : decode cX11_undo 20 = .ok (.getfield 12, 3) := by decide +kernel
theorem dX11_undo_23 : decode cX11_undo 23 = .ok (.aload_n 0, 1) := by decide +kernel
theorem dX11_undo_24 : decode cX11_undo 24 = .ok (.getfield 25, 3) := by decide +kernel
theorem dX11_undo_27 : decode cX11_undo 27 = .ok (.aload_n 0, 1) := by decide +kernel
theorem dX11_undo_28 : decode cX11_undo 28 = .ok (.getfield 105, 3) := by decide +kernel
theorem dX11_undo_31 : decode cX11_undo 31 = .ok (.aaload, 1) := by decide +kernel
theorem dX11_undo_32 : decode cX11_undo 32 = .ok (.invokevirtual 101, 3) := by decide +kernel
theorem dX11_undo_35 : decode cX11_undo 35 = .ok (.aload_n 0, 1) := by decide +kernel
theorem dX11_undo_36 : decode cX11_undo 36 = .ok (.getfield 105, 3) := by decide +kernel
theorem dX11_undo_39 : decode cX11_undo 39 = .ok (.ireturn, 1) := by decide +kernel
theorem dX11_isWithin_0 : decode cX11_isWithin 0 = .ok (.iload_n 0, 1) := by decide +kernel
theorem dX11_isWithin_1 : decode cX11_isWithin 1 = .ok (.iload_n 1, 1) := by decide +kernel
theorem dX11_isWithin_2 : decode cX11_isWithin 2 = .ok (.if_icmp .lt 12, 3) := by decide +kernel
theorem dX11_isWithin_5 : decode cX11_isWithin 5 = .ok (.iload_n 0, 1) := by decide +kernel
theorem dX11_isWithin_6 : decode cX11_isWithin 6 = .ok (.iload_n 2, 1) := by decide +kernel
theorem dX11_isWithin_7 : decode cX11_isWithin 7 = .ok (.if_icmp .gt 7, 3) := by decide +kernel
theorem dX11_isWithin_10 : decode cX11_isWithin 10 = .ok (.iconst 1, 1) := by decide +kernel
theorem dX11_isWithin_11 : decode cX11_isWithin 11 = .ok (.goto 4, 3) := by decide +kernel
theorem dX11_isWithin_14 : decode cX11_isWithin 14 = .ok (.iconst 0, 1) := by decide +kernel
theorem dX11_isWithin_15 : decode cX11_isWithin 15 = .ok (.ireturn, 1) := by decide +kernel
theorem dX11_isPlace_0 : decode cX11_isPlace 0 = .ok (.iload_n 0, 1) := by decide +kernel
theorem dX11_isPlace_1 : decode cX11_isPlace 1 = .ok (.iconst 0, 1) := by decide +kernel
theorem dX11_isPlace_2 : decode cX11_isPlace 2 = .ok (.bipush 25, 2) := by decide +kernel
theorem dX11_isPlace_4 : decode cX11_isPlace 4 = .ok (.invokestatic 86, 3) := by decide +kernel
theorem dX11_isPlace_7 : decode cX11_isPlace 7 = .ok (.ireturn, 1) := by decide +kernel
theorem dX11_keepForUndo_0 : decode cX11_keepForUndo 0 = .ok (.aload_n 0, 1) := by decide +kernel
theorem dX11_keepForUndo_1 : decode cX11_keepForUndo 1 = .ok (.getfield 105, 3) := by decide +kernel
theorem dX11_keepForUndo_4 : decode cX11_keepForUndo 4 = .ok (.bipush 6, 2) := by decide +kernel
theorem dX11_keepForUndo_6 : decode cX11_keepForUndo 6 = .ok (.if_icmp .lt 50, 3) := by decide +kernel
theorem dX11_keepForUndo_9 : decode cX11_keepForUndo 9 = .ok (.aload_n 0, 1) := by decide +kernel
theorem dX11_keepForUndo_10 : decode cX11_keepForUndo 10 = .ok (.getfield 25, 3) := by decide +kernel
theorem dX11_keepForUndo_13 : decode cX11_keepForUndo 13 = .ok (.iconst 0, 1) := by decide +kernel
theorem dX11_keepForUndo_14 : decode cX11_keepForUndo 14 = .ok (.aaload, 1) := by decide +kernel
theorem dX11_keepForUndo_15 : decode cX11_keepForUndo 15 = .ok (.astore_n 1, 1) := by decide +kernel
theorem dX11_keepForUndo_16 : decode cX11_keepForUndo 16 = .ok (.iconst 1, 1) := by decide +kernel
theorem dX11_keepForUndo_17 : decode cX11_keepForUndo 17 = .ok (.istore_n 2, 1) := by decide +kernel
theorem dX11_keepForUndo_18 : decode cX11_keepForUndo 18 = .ok (.iload_n 2, 1) := by decide +kernel
theorem dX11_keepForUndo_19 : decode cX11_keepForUndo 19 = .ok (.bipush 6, 2) := by decide +kernel
theorem dX11_keepForUndo_21 : decode cX11_keepForUndo 21 = .ok (.if_icmp .ge 23, 3) := by decide +kernel
theorem dX11_keepForUndo_24 : decode cX11_keepForUndo 24 = .ok (.aload_n 0, 1) := by decide +kernel
theorem dX11_keepForUndo_25 : decode cX11_keepForUndo 25 = .ok (.getfield 25, 3) := by decide +kernel
theorem dX11_keepForUndo_28 : decode cX11_keepForUndo 28 = .ok (.iload_n 2, 1) := by decide +kernel
theorem dX11_keepForUndo_29 : decode cX11_keepForUndo 29 = .ok (.iconst 1, 1) := by decide +kernel
theorem dX11_keepForUndo_30 : decode cX11_keepForUndo 30 = .ok (.isub, 1) := by decide +kernel
theorem dX11_keepForUndo_31 : decode cX11_keepForUndo 31 = .ok (.aload_n 0, 1) := by decide +kernel
theorem dX11_keepForUndo_32 : decode cX11_keepForUndo 32 = .ok (.getfield 25, 3) := by decide +kernel
theorem dX11_keepForUndo_35 : decode cX11_keepForUndo 35 = .ok (.iload_n 2, 1) := by decide +kernel
theorem dX11_keepForUndo_36 : decode cX11_keepForUndo 36 = .ok (.aaload, 1) := by decide +kernel
theorem dX11_keepForUndo_37 : decode cX11_keepForUndo 37 = .ok (.aastore, 1) := by decide +kernel
theorem dX11_keepForUndo_38 : decode cX11_keepForUndo 38 = .ok (.iinc 2 1, 3) := by decide +kernel
theorem dX11_keepForUndo_41 : decode cX11_keepForUndo 41 = .ok (.goto (-23), 3) := by decide +kernel
theorem dX11_keepForUndo_44 : decode cX11_keepForUndo 44 = .ok (.aload_n 0, 1) := by decide +kernel
theorem dX11_keepForUndo_45 : decode cX11_keepForUndo 45 = .ok (.getfield 25, 3) := by decide +kernel
theorem dX11_keepForUndo_48 : decode cX11_keepForUndo 48 = .ok (.iconst 5, 1) := by decide +kernel
theorem dX11_keepForUndo_49 : decode cX11_keepForUndo 49 = .ok (.aload_n 1, 1) := by decide +kernel
theorem dX11_keepForUndo_50 : decode cX11_keepForUndo 50 = .ok (.aastore, 1) := by decide +kernel
theorem dX11_keepForUndo_51 : decode cX11_keepForUndo 51 = .ok (.aload_n 0, 1) := by decide +kernel
theorem dX11_keepForUndo_52 : decode cX11_keepForUndo 52 = .ok (.iconst 5, 1) := by decide +kernel
theorem dX11_keepForUndo_53 : decode cX11_keepForUndo 53 = .ok (.putfield 105, 3) := by decide +kernel
theorem dX11_keepForUndo_56 : decode cX11_keepForUndo 56 = .ok (.aload_n 0, 1) := by decide +kernel
theorem dX11_keepForUndo_57 : decode cX11_keepForUndo 57 = .ok (.getfield 25, 3) := by decide +kernel
theorem dX11_keepForUndo_60 : decode cX11_keepForUndo 60 = .ok (.aload_n 0, 1) := by decide +kernel
theorem dX11_keepForUndo_61 : decode cX11_keepForUndo 61 = .ok (.getfield 105, 3) := by decide +kernel
theorem dX11_keepForUndo_64 : decode cX11_keepForUndo 64 = .ok (.aaload, 1) := by decide +kernel
theorem dX11_keepForUndo_65 : decode cX11_keepForUndo 65 = .ok (.aload_n 0, 1) := by decide +kernel
theorem dX11_keepForUndo_66 : decode cX11_keepForUndo 66 = .ok (.getfield 12, 3) := by decide +kernel
theorem dX11_keepForUndo_69 : decode cX11_keepForUndo 69 = .ok (.invokevirtual 101, 3) := by decide +kernel
theorem dX11_keepForUndo_72 : decode cX11_keepForUndo 72 = .ok (.aload_n 0, 1) := by decide +kernel
theorem dX11_keepForUndo_73 : decode cX11_keepForUndo 73 = .ok (.dup, 1) := by decide +kernel
theorem dX11_keepForUndo_74 : decode cX11_keepForUndo 74 = .ok (.getfield 105, 3) := by decide +kernel
theorem dX11_keepForUndo_77 : decode cX11_keepForUndo 77 = .ok (.iconst 1, 1) := by decide +kernel
theorem dX11_keepForUndo_78 : decode cX11_keepForUndo 78 = .ok (.iadd, 1) := by decide +kernel
theorem dX11_keepForUndo_79 : decode cX11_keepForUndo 79 = .ok (.putfield 105, 3) := by decide +kernel
theorem dX11_keepForUndo_82 : decode cX11_keepForUndo 82 = .ok (.return_, 1) := by decide +kernel
theorem dX11_isSpoiled_0 : decode cX11_isSpoiled 0 = .ok (.aload_n 0, 1) := by decide +kernel
theorem dX11_isSpoiled_1 : decode cX11_isSpoiled 1 = .ok (.getfield 39, 3) := by decide +kernel
theorem dX11_isSpoiled_4 : decode cX11_isSpoiled 4 = .ok (.aload_n 0, 1) := by decide +kernel
theorem dX11_isSpoiled_5 : decode cX11_isSpoiled 5 = .ok (.getfield 12, 3) := by decide +kernel
theorem dX11_isSpoiled_8 : decode cX11_isSpoiled 8 = .ok (.invokevirtual 317, 3) := by decide +kernel
theorem dX11_isSpoiled_11 : decode cX11_isSpoiled 11 = .ok (.aload_n 0, 1) := by decide +kernel
theorem dX11_isSpoiled_12 : decode cX11_isSpoiled 12 = .ok (.getfield 39, 3) := by decide +kernel
theorem dX11_isSpoiled_15 : decode cX11_isSpoiled 15 = .ok (.aload_n 0, 1) := by decide +kernel
theorem dX11_isSpoiled_16 : decode cX11_isSpoiled 16 = .ok (.getfield 12, 3) := by decide +kernel
theorem dX11_isSpoiled_19 : decode cX11_isSpoiled 19 = .ok (.iload_n 1, 1) := by decide +kernel
theorem dX11_isSpoiled_20 : decode cX11_isSpoiled 20 = .ok (.invokevirtual 452, 3) := by decide +kernel
theorem dX11_isSpoiled_23 : decode cX11_isSpoiled 23 = .ok (.ireturn, 1) := by decide +kernel
theorem dX11_letterSpoiledBy_0 : decode cX11_letterSpoiledBy 0 = .ok (.aload_n 0, 1) := by decide +kernel
theorem dX11_letterSpoiledBy_1 : decode cX11_letterSpoiledBy 1 = .ok (.getfield 39, 3) := by decide +kernel
theorem dX11_letterSpoiledBy_4 : decode cX11_letterSpoiledBy 4 = .ok (.aload_n 0, 1) := by decide +kernel
theorem dX11_letterSpoiledBy_5 : decode cX11_letterSpoiledBy 5 = .ok (.getfield 12, 3) := by decide +kernel
theorem dX11_letterSpoiledBy_8 : decode cX11_letterSpoiledBy 8 = .ok (.invokevirtual 317, 3) := by decide +kernel
theorem dX11_letterSpoiledBy_11 : decode cX11_letterSpoiledBy 11 = .ok (.aload_n 0, 1) := by decide +kernel
theorem dX11_letterSpoiledBy_12 : decode cX11_letterSpoiledBy 12 = .ok (.getfield 39, 3) := by decide +kernel
theorem dX11_letterSpoiledBy_15 : decode cX11_letterSpoiledBy 15 = .ok (.aload_n 0, 1) := by decide +kernel
theorem dX11_letterSpoiledBy_16 : decode cX11_letterSpoiledBy 16 = .ok (.getfield 12, 3) := by decide +kernel
theorem dX11_letterSpoiledBy_19 : decode cX11_letterSpoiledBy 19 = .ok (.iload_n 1, 1) := by decide +kernel
theorem dX11_letterSpoiledBy_20 : decode cX11_letterSpoiledBy 20 = .ok (.invokevirtual 471, 3) := by decide +kernel
theorem dX11_letterSpoiledBy_23 : decode cX11_letterSpoiledBy 23 = .ok (.ireturn, 1) := by decide +kernel
theorem dX11_spoiledLetters_0 : decode cX11_spoiledLetters 0 = .ok (.aload_n 0, 1) := by decide +kernel
theorem dX11_spoiledLetters_1 : decode cX11_spoiledLetters 1 = .ok (.getfield 39, 3) := by decide +kernel
theorem dX11_spoiledLetters_4 : decode cX11_spoiledLetters 4 = .ok (.aload_n 0, 1) := by decide +kernel
theorem dX11_spoiledLetters_5 : decode cX11_spoiledLetters 5 = .ok (.getfield 12, 3) := by decide +kernel
theorem dX11_spoiledLetters_8 : decode cX11_spoiledLetters 8 = .ok (.invokevirtual 317, 3) := by decide +kernel
theorem dX11_spoiledLetters_11 : decode cX11_spoiledLetters 11 = .ok (.iconst 0, 1) := by decide +kernel
theorem dX11_spoiledLetters_12 : decode cX11_spoiledLetters 12 = .ok (.istore_n 1, 1) := by decide +kernel
theorem dX11_spoiledLetters_13 : decode cX11_spoiledLetters 13 = .ok (.iconst 0, 1) := by decide +kernel
theorem dX11_spoiledLetters_14 : decode cX11_spoiledLetters 14 = .ok (.istore_n 2, 1) := by decide +kernel
theorem dX11_spoiledLetters_15 : decode cX11_spoiledLetters 15 = .ok (.iload_n 2, 1) := by decide +kernel
theorem dX11_spoiledLetters_16 : decode cX11_spoiledLetters 16 = .ok (.aload_n 0, 1) := by decide +kernel
theorem dX11_spoiledLetters_17 : decode cX11_spoiledLetters 17 = .ok (.getfield 12, 3) := by decide +kernel
theorem dX11_spoiledLetters_20 : decode cX11_spoiledLetters 20 = .ok (.getfield 108, 3) := by decide +kernel
theorem dX11_spoiledLetters_23 : decode cX11_spoiledLetters 23 = .ok (.getfield 112, 3) := by decide +kernel
theorem dX11_spoiledLetters_26 : decode cX11_spoiledLetters 26 = .ok (.if_icmp .ge 27, 3) := by decide +kernel
theorem dX11_spoiledLetters_29 : decode cX11_spoiledLetters 29 = .ok (.aload_n 0, 1) := by decide +kernel
theorem dX11_spoiledLetters_30 : decode cX11_spoiledLetters 30 = .ok (.getfield 39, 3) := by decide +kernel
theorem dX11_spoiledLetters_33 : decode cX11_spoiledLetters 33 = .ok (.aload_n 0, 1) := by decide +kernel
theorem dX11_spoiledLetters_34 : decode cX11_spoiledLetters 34 = .ok (.getfield 12, 3) := by decide +kernel
theorem dX11_spoiledLetters_37 : decode cX11_spoiledLetters 37 = .ok (.iload_n 2, 1) := by decide +kernel
theorem dX11_spoiledLetters_38 : decode cX11_spoiledLetters 38 = .ok (.invokevirtual 452, 3) := by decide +kernel
theorem dX11_spoiledLetters_41 : decode cX11_spoiledLetters 41 = .ok (.ifCond .eq 6, 3) := by decide +kernel
theorem dX11_spoiledLetters_44 : decode cX11_spoiledLetters 44 = .ok (.iinc 1 1, 3) := by decide +kernel
theorem dX11_spoiledLetters_47 : decode cX11_spoiledLetters 47 = .ok (.iinc 2 1, 3) := by decide +kernel
theorem dX11_spoiledLetters_50 : decode cX11_spoiledLetters 50 = .ok (.goto (-35), 3) := by decide +kernel
theorem dX11_spoiledLetters_53 : decode cX11_spoiledLetters 53 = .ok (.iload_n 1, 1) := by decide +kernel
theorem dX11_spoiledLetters_54 : decode cX11_spoiledLetters 54 = .ok (.ireturn, 1) := by decide +kernel
theorem dX11_slipsWith_0 : decode cX11_slipsWith 0 = .ok (.aload_n 0, 1) := by decide +kernel
theorem dX11_slipsWith_1 : decode cX11_slipsWith 1 = .ok (.getfield 32, 3) := by decide +kernel
theorem dX11_slipsWith_4 : decode cX11_slipsWith 4 = .ok (.aload_n 0, 1) := by decide +kernel
theorem dX11_slipsWith_5 : decode cX11_slipsWith 5 = .ok (.getfield 12, 3) := by decide +kernel
theorem dX11_slipsWith_8 : decode cX11_slipsWith 8 = .ok (.getfield 161, 3) := by decide +kernel
theorem dX11_slipsWith_11 : decode cX11_slipsWith 11 = .ok (.invokevirtual 474, 3) := by decide +kernel
theorem dX11_slipsWith_14 : decode cX11_slipsWith 14 = .ok (.aload_n 0, 1) := by decide +kernel
theorem dX11_slipsWith_15 : decode cX11_slipsWith 15 = .ok (.getfield 32, 3) := by decide +kernel
theorem dX11_slipsWith_18 : decode cX11_slipsWith 18 = .ok (.iload_n 1, 1) := by decide +kernel
theorem dX11_slipsWith_19 : decode cX11_slipsWith 19 = .ok (.putfield 164, 3) := by decide +kernel
theorem dX11_slipsWith_22 : decode cX11_slipsWith 22 = .ok (.aload_n 0, 1) := by decide +kernel
theorem dX11_slipsWith_23 : decode cX11_slipsWith 23 = .ok (.getfield 12, 3) := by decide +kernel
theorem dX11_slipsWith_26 : decode cX11_slipsWith 26 = .ok (.aload_n 0, 1) := by decide +kernel
theorem dX11_slipsWith_27 : decode cX11_slipsWith 27 = .ok (.getfield 32, 3) := by decide +kernel
theorem dX11_slipsWith_30 : decode cX11_slipsWith 30 = .ok (.invokevirtual 477, 3) := by decide +kernel
theorem dX11_slipsWith_33 : decode cX11_slipsWith 33 = .ok (.ireturn, 1) := by decide +kernel
theorem dJ5_init_d00df_0 : decode cJ5_init_d00df 0 = .ok (.aload_n 0, 1) := by decide +kernel
theorem dJ5_init_d00df_1 : decode cJ5_init_d00df 1 = .ok (.invokespecial 3, 3) := by decide +kernel
theorem dJ5_init_d00df_4 : decode cJ5_init_d00df 4 = .ok (.getstatic 18, 3) := by decide +kernel
theorem dJ5_init_d00df_7 : decode cJ5_init_d00df 7 = .ok (.ifCond .eq 18, 3) := by decide +kernel
theorem dJ5_init_d00df_10 : decode cJ5_init_d00df 10 = .ok (.aload_n 0, 1) := by decide +kernel
theorem dJ5_init_d00df_11 : decode cJ5_init_d00df 11 = .ok (.iload_n 1, 1) := by decide +kernel
theorem dJ5_init_d00df_12 : decode cJ5_init_d00df 12 = .ok (.newarray .byte, 2) := by decide +kernel
theorem dJ5_init_d00df_14 : decode cJ5_init_d00df 14 = .ok (.putfield 15, 3) := by decide +kernel
theorem dJ5_init_d00df_17 : decode cJ5_init_d00df 17 = .ok (.aload_n 0, 1) := by decide +kernel
theorem dJ5_init_d00df_18 : decode cJ5_init_d00df 18 = .ok (.iconst 0, 1) := by decide +kernel
theorem dJ5_init_d00df_19 : decode cJ5_init_d00df 19 = .ok (.putfield 22, 3) := by decide +kernel
theorem dJ5_init_d00df_22 : decode cJ5_init_d00df 22 = .ok (.goto 16, 3) := by decide +kernel
theorem dJ5_init_d00df_25 : decode cJ5_init_d00df 25 = .ok (.aload_n 0, 1) := by decide +kernel
theorem dJ5_init_d00df_26 : decode cJ5_init_d00df 26 = .ok (.iload_n 1, 1) := by decide +kernel
theorem dJ5_init_d00df_27 : decode cJ5_init_d00df 27 = .ok (.invokestatic 26, 3) := by decide +kernel
theorem dJ5_init_d00df_30 : decode cJ5_init_d00df 30 = .ok (.putfield 15, 3) := by decide +kernel
theorem dJ5_init_d00df_33 : decode cJ5_init_d00df 33 = .ok (.aload_n 0, 1) := by decide +kernel
theorem dJ5_init_d00df_34 : decode cJ5_init_d00df 34 = .ok (.iconst 1, 1) := by decide +kernel
theorem dJ5_init_d00df_35 : decode cJ5_init_d00df 35 = .ok (.putfield 22, 3) := by decide +kernel
theorem dJ5_init_d00df_38 : decode cJ5_init_d00df 38 = .ok (.return_, 1) := by decide +kernel
theorem dJ5_length_8abf5_0 : decode cJ5_length_8abf5 0 = .ok (.aload_n 0, 1) := by decide +kernel
theorem dJ5_length_8abf5_1 : decode cJ5_length_8abf5 1 = .ok (.getfield 79, 3) := by decide +kernel
theorem dJ5_length_8abf5_4 : decode cJ5_length_8abf5 4 = .ok (.ireturn, 1) := by decide +kernel
theorem dJ5_ensureCapacityInternal_d00df_0 : decode cJ5_ensureCapacityInternal_d00df 0 = .ok (.aload_n 0, 1) := by decide +kernel
theorem dJ5_ensureCapacityInternal_d00df_1 : decode cJ5_ensureCapacityInternal_d00df 1 = .ok (.getfield 15, 3) := by decide +kernel
theorem dJ5_ensureCapacityInternal_d00df_4 : decode cJ5_ensureCapacityInternal_d00df 4 = .ok (.arraylength, 1) := by decide +kernel
theorem dJ5_ensureCapacityInternal_d00df_5 : decode cJ5_ensureCapacityInternal_d00df 5 = .ok (.aload_n 0, 1) := by decide +kernel
theorem dJ5_ensureCapacityInternal_d00df_6 : decode cJ5_ensureCapacityInternal_d00df 6 = .ok (.getfield 22, 3) := by decide +kernel
theorem dJ5_ensureCapacityInternal_d00df_9 : decode cJ5_ensureCapacityInternal_d00df 9 = .ok (.ishr, 1) := by decide +kernel
theorem dJ5_ensureCapacityInternal_d00df_10 : decode cJ5_ensureCapacityInternal_d00df 10 = .ok (.istore_n 2, 1) := by decide +kernel
theorem dJ5_ensureCapacityInternal_d00df_11 : decode cJ5_ensureCapacityInternal_d00df 11 = .ok (.iload_n 1, 1) := by decide +kernel
theorem dJ5_ensureCapacityInternal_d00df_12 : decode cJ5_ensureCapacityInternal_d00df 12 = .ok (.iload_n 2, 1) := by decide +kernel
theorem dJ5_ensureCapacityInternal_d00df_13 : decode cJ5_ensureCapacityInternal_d00df 13 = .ok (.isub, 1) := by decide +kernel
theorem dJ5_ensureCapacityInternal_d00df_14 : decode cJ5_ensureCapacityInternal_d00df 14 = .ok (.ifCond .le 24, 3) := by decide +kernel
theorem dJ5_ensureCapacityInternal_d00df_17 : decode cJ5_ensureCapacityInternal_d00df 17 = .ok (.aload_n 0, 1) := by decide +kernel
theorem dJ5_ensureCapacityInternal_d00df_18 : decode cJ5_ensureCapacityInternal_d00df 18 = .ok (.aload_n 0, 1) := by decide +kernel
theorem dJ5_ensureCapacityInternal_d00df_19 : decode cJ5_ensureCapacityInternal_d00df 19 = .ok (.getfield 15, 3) := by decide +kernel
theorem dJ5_ensureCapacityInternal_d00df_22 : decode cJ5_ensureCapacityInternal_d00df 22 = .ok (.aload_n 0, 1) := by decide +kernel
theorem dJ5_ensureCapacityInternal_d00df_23 : decode cJ5_ensureCapacityInternal_d00df 23 = .ok (.iload_n 1, 1) := by decide +kernel
theorem dJ5_ensureCapacityInternal_d00df_24 : decode cJ5_ensureCapacityInternal_d00df 24 = .ok (.invokevirtual 104, 3) := by decide +kernel
theorem dJ5_ensureCapacityInternal_d00df_27 : decode cJ5_ensureCapacityInternal_d00df 27 = .ok (.aload_n 0, 1) := by decide +kernel
theorem dJ5_ensureCapacityInternal_d00df_28 : decode cJ5_ensureCapacityInternal_d00df 28 = .ok (.getfield 22, 3) := by decide +kernel
theorem dJ5_ensureCapacityInternal_d00df_31 : decode cJ5_ensureCapacityInternal_d00df 31 = .ok (.ishl, 1) := by decide +kernel
theorem dJ5_ensureCapacityInternal_d00df_32 : decode cJ5_ensureCapacityInternal_d00df 32 = .ok (.invokestatic 108, 3) := by decide +kernel
theorem dJ5_ensureCapacityInternal_d00df_35 : decode cJ5_ensureCapacityInternal_d00df 35 = .ok (.putfield 15, 3) := by decide +kernel
theorem dJ5_ensureCapacityInternal_d00df_38 : decode cJ5_ensureCapacityInternal_d00df 38 = .ok (.return_, 1) := by decide +kernel
theorem dJ5_newCapacity_0f7a4_0 : decode cJ5_newCapacity_0f7a4 0 = .ok (.aload_n 0, 1) := by decide +kernel
theorem dJ5_newCapacity_0f7a4_1 : decode cJ5_newCapacity_0f7a4 1 = .ok (.getfield 15, 3) := by decide +kernel
theorem dJ5_newCapacity_0f7a4_4 : decode cJ5_newCapacity_0f7a4 4 = .ok (.arraylength, 1) := by decide +kernel
theorem dJ5_newCapacity_0f7a4_5 : decode cJ5_newCapacity_0f7a4 5 = .ok (.istore_n 2, 1) := by decide +kernel
theorem dJ5_newCapacity_0f7a4_6 : decode cJ5_newCapacity_0f7a4 6 = .ok (.iload_n 1, 1) := by decide +kernel
theorem dJ5_newCapacity_0f7a4_7 : decode cJ5_newCapacity_0f7a4 7 = .ok (.aload_n 0, 1) := by decide +kernel
theorem dJ5_newCapacity_0f7a4_8 : decode cJ5_newCapacity_0f7a4 8 = .ok (.getfield 22, 3) := by decide +kernel
theorem dJ5_newCapacity_0f7a4_11 : decode cJ5_newCapacity_0f7a4 11 = .ok (.ishl, 1) := by decide +kernel
theorem dJ5_newCapacity_0f7a4_12 : decode cJ5_newCapacity_0f7a4 12 = .ok (.istore_n 3, 1) := by decide +kernel
theorem dJ5_newCapacity_0f7a4_13 : decode cJ5_newCapacity_0f7a4 13 = .ok (.iload_n 3, 1) := by decide +kernel
theorem dJ5_newCapacity_0f7a4_14 : decode cJ5_newCapacity_0f7a4 14 = .ok (.iload_n 2, 1) := by decide +kernel
theorem dJ5_newCapacity_0f7a4_15 : decode cJ5_newCapacity_0f7a4 15 = .ok (.isub, 1) := by decide +kernel
theorem dJ5_newCapacity_0f7a4_16 : decode cJ5_newCapacity_0f7a4 16 = .ok (.istore 4, 2) := by decide +kernel
theorem dJ5_newCapacity_0f7a4_18 : decode cJ5_newCapacity_0f7a4 18 = .ok (.iload_n 2, 1) := by decide +kernel
theorem dJ5_newCapacity_0f7a4_19 : decode cJ5_newCapacity_0f7a4 19 = .ok (.iload 4, 2) := by decide +kernel
theorem dJ5_newCapacity_0f7a4_21 : decode cJ5_newCapacity_0f7a4 21 = .ok (.iload_n 2, 1) := by decide +kernel
theorem dJ5_newCapacity_0f7a4_22 : decode cJ5_newCapacity_0f7a4 22 = .ok (.iconst 2, 1) := by decide +kernel
theorem dJ5_newCapacity_0f7a4_23 : decode cJ5_newCapacity_0f7a4 23 = .ok (.aload_n 0, 1) := by decide +kernel
theorem dJ5_newCapacity_0f7a4_24 : decode cJ5_newCapacity_0f7a4 24 = .ok (.getfield 22, 3) := by decide +kernel
theorem dJ5_newCapacity_0f7a4_27 : decode cJ5_newCapacity_0f7a4 27 = .ok (.ishl, 1) := by decide +kernel
theorem dJ5_newCapacity_0f7a4_28 : decode cJ5_newCapacity_0f7a4 28 = .ok (.iadd, 1) := by decide +kernel
theorem dJ5_newCapacity_0f7a4_29 : decode cJ5_newCapacity_0f7a4 29 = .ok (.invokestatic 114, 3) := by decide +kernel
theorem dJ5_newCapacity_0f7a4_32 : decode cJ5_newCapacity_0f7a4 32 = .ok (.istore 5, 2) := by decide +kernel
theorem dJ5_newCapacity_0f7a4_34 : decode cJ5_newCapacity_0f7a4 34 = .ok (.iload 5, 2) := by decide +kernel
theorem dJ5_newCapacity_0f7a4_36 : decode cJ5_newCapacity_0f7a4 36 = .ok (.ldc 39, 2) := by decide +kernel
theorem dJ5_newCapacity_0f7a4_38 : decode cJ5_newCapacity_0f7a4 38 = .ok (.if_icmp .ne 13, 3) := by decide +kernel
theorem dJ5_newCapacity_0f7a4_41 : decode cJ5_newCapacity_0f7a4 41 = .ok (.new 120, 3) := by decide +kernel
theorem dJ5_newCapacity_0f7a4_44 : decode cJ5_newCapacity_0f7a4 44 = .ok (.dup, 1) := by decide +kernel
theorem dJ5_newCapacity_0f7a4_45 : decode cJ5_newCapacity_0f7a4 45 = .ok (.ldc 122, 2) := by decide +kernel
theorem dJ5_newCapacity_0f7a4_47 : decode cJ5_newCapacity_0f7a4 47 = .ok (.invokespecial 124, 3) := by decide +kernel
theorem dJ5_newCapacity_0f7a4_50 : decode cJ5_newCapacity_0f7a4 50 = .ok (.athrow, 1) := by decide +kernel
theorem dJ5_newCapacity_0f7a4_51 : decode cJ5_newCapacity_0f7a4 51 = .ok (.iload 5, 2) := by decide +kernel
theorem dJ5_newCapacity_0f7a4_53 : decode cJ5_newCapacity_0f7a4 53 = .ok (.aload_n 0, 1) := by decide +kernel
theorem dJ5_newCapacity_0f7a4_54 : decode cJ5_newCapacity_0f7a4 54 = .ok (.getfield 22, 3) := by decide +kernel
theorem dJ5_newCapacity_0f7a4_57 : decode cJ5_newCapacity_0f7a4 57 = .ok (.ishr, 1) := by decide +kernel
theorem dJ5_newCapacity_0f7a4_58 : decode cJ5_newCapacity_0f7a4 58 = .ok (.ireturn, 1) := by decide +kernel
theorem dJ5_inflate_da8c8_0 : decode cJ5_inflate_da8c8 0 = .ok (.aload_n 0, 1) := by decide +kernel
theorem dJ5_inflate_da8c8_1 : decode cJ5_inflate_da8c8 1 = .ok (.invokevirtual 83, 3) := by decide +kernel
theorem dJ5_inflate_da8c8_4 : decode cJ5_inflate_da8c8 4 = .ok (.ifCond .ne 4, 3) := by decide +kernel
theorem dJ5_inflate_da8c8_7 : decode cJ5_inflate_da8c8 7 = .ok (.return_, 1) := by decide +kernel
theorem dJ5_inflate_da8c8_8 : decode cJ5_inflate_da8c8 8 = .ok (.aload_n 0, 1) := by decide +kernel
theorem dJ5_inflate_da8c8_9 : decode cJ5_inflate_da8c8 9 = .ok (.getfield 15, 3) := by decide +kernel
theorem dJ5_inflate_da8c8_12 : decode cJ5_inflate_da8c8 12 = .ok (.arraylength, 1) := by decide +kernel
theorem dJ5_inflate_da8c8_13 : decode cJ5_inflate_da8c8 13 = .ok (.invokestatic 26, 3) := by decide +kernel
theorem dJ5_inflate_da8c8_16 : decode cJ5_inflate_da8c8 16 = .ok (.astore_n 1, 1) := by decide +kernel
theorem dJ5_inflate_da8c8_17 : decode cJ5_inflate_da8c8 17 = .ok (.aload_n 0, 1) := by decide +kernel
theorem dJ5_inflate_da8c8_18 : decode cJ5_inflate_da8c8 18 = .ok (.getfield 15, 3) := by decide +kernel
theorem dJ5_inflate_da8c8_21 : decode cJ5_inflate_da8c8 21 = .ok (.iconst 0, 1) := by decide +kernel
theorem dJ5_inflate_da8c8_22 : decode cJ5_inflate_da8c8 22 = .ok (.aload_n 1, 1) := by decide +kernel
theorem dJ5_inflate_da8c8_23 : decode cJ5_inflate_da8c8 23 = .ok (.iconst 0, 1) := by decide +kernel
theorem dJ5_inflate_da8c8_24 : decode cJ5_inflate_da8c8 24 = .ok (.aload_n 0, 1) := by decide +kernel
theorem dJ5_inflate_da8c8_25 : decode cJ5_inflate_da8c8 25 = .ok (.getfield 79, 3) := by decide +kernel
theorem dJ5_inflate_da8c8_28 : decode cJ5_inflate_da8c8 28 = .ok (.invokestatic 125, 3) := by decide +kernel
theorem dJ5_inflate_da8c8_31 : decode cJ5_inflate_da8c8 31 = .ok (.aload_n 0, 1) := by decide +kernel
theorem dJ5_inflate_da8c8_32 : decode cJ5_inflate_da8c8 32 = .ok (.aload_n 1, 1) := by decide +kernel
theorem dJ5_inflate_da8c8_33 : decode cJ5_inflate_da8c8 33 = .ok (.putfield 15, 3) := by decide +kernel
theorem dJ5_inflate_da8c8_36 : decode cJ5_inflate_da8c8 36 = .ok (.aload_n 0, 1) := by decide +kernel
theorem dJ5_inflate_da8c8_37 : decode cJ5_inflate_da8c8 37 = .ok (.iconst 1, 1) := by decide +kernel
theorem dJ5_inflate_da8c8_38 : decode cJ5_inflate_da8c8 38 = .ok (.putfield 22, 3) := by decide +kernel
theorem dJ5_inflate_da8c8_41 : decode cJ5_inflate_da8c8 41 = .ok (.return_, 1) := by decide +kernel
theorem dJ5_append_cf1ce_0 : decode cJ5_append_cf1ce 0 = .ok (.aload_n 1, 1) := by decide +kernel
theorem dJ5_append_cf1ce_1 : decode cJ5_append_cf1ce 1 = .ok (.ifnonnull 8, 3) := by decide +kernel
theorem dJ5_append_cf1ce_4 : decode cJ5_append_cf1ce 4 = .ok (.aload_n 0, 1) := by decide +kernel
theorem dJ5_append_cf1ce_5 : decode cJ5_append_cf1ce 5 = .ok (.invokevirtual 204, 3) := by decide +kernel
theorem dJ5_append_cf1ce_8 : decode cJ5_append_cf1ce 8 = .ok (.areturn, 1) := by decide +kernel
theorem dJ5_append_cf1ce_9 : decode cJ5_append_cf1ce 9 = .ok (.aload_n 1, 1) := by decide +kernel
theorem dJ5_append_cf1ce_10 : decode cJ5_append_cf1ce 10 = .ok (.invokevirtual 32, 3) := by decide +kernel
theorem dJ5_append_cf1ce_13 : decode cJ5_append_cf1ce 13 = .ok (.istore_n 2, 1) := by decide +kernel
theorem dJ5_append_cf1ce_14 : decode cJ5_append_cf1ce 14 = .ok (.aload_n 0, 1) := by decide +kernel
theorem dJ5_append_cf1ce_15 : decode cJ5_append_cf1ce 15 = .ok (.aload_n 0, 1) := by decide +kernel
theorem dJ5_append_cf1ce_16 : decode cJ5_append_cf1ce 16 = .ok (.getfield 79, 3) := by decide +kernel
theorem dJ5_append_cf1ce_19 : decode cJ5_append_cf1ce 19 = .ok (.iload_n 2, 1) := by decide +kernel
theorem dJ5_append_cf1ce_20 : decode cJ5_append_cf1ce 20 = .ok (.iadd, 1) := by decide +kernel
theorem dJ5_append_cf1ce_21 : decode cJ5_append_cf1ce 21 = .ok (.invokevirtual 100, 3) := by decide +kernel
theorem dJ5_append_cf1ce_24 : decode cJ5_append_cf1ce 24 = .ok (.aload_n 0, 1) := by decide +kernel
theorem dJ5_append_cf1ce_25 : decode cJ5_append_cf1ce 25 = .ok (.aload_n 0, 1) := by decide +kernel
theorem dJ5_append_cf1ce_26 : decode cJ5_append_cf1ce 26 = .ok (.getfield 79, 3) := by decide +kernel
theorem dJ5_append_cf1ce_29 : decode cJ5_append_cf1ce 29 = .ok (.aload_n 1, 1) := by decide +kernel
theorem dJ5_append_cf1ce_30 : decode cJ5_append_cf1ce 30 = .ok (.invokevirtual 208, 3) := by decide +kernel
theorem dJ5_append_cf1ce_33 : decode cJ5_append_cf1ce 33 = .ok (.aload_n 0, 1) := by decide +kernel
theorem dJ5_append_cf1ce_34 : decode cJ5_append_cf1ce 34 = .ok (.dup, 1) := by decide +kernel
theorem dJ5_append_cf1ce_35 : decode cJ5_append_cf1ce 35 = .ok (.getfield 79, 3) := by decide +kernel
theorem dJ5_append_cf1ce_38 : decode cJ5_append_cf1ce 38 = .ok (.iload_n 2, 1) := by decide +kernel
theorem dJ5_append_cf1ce_39 : decode cJ5_append_cf1ce 39 = .ok (.iadd, 1) := by decide +kernel
theorem dJ5_append_cf1ce_40 : decode cJ5_append_cf1ce 40 = .ok (.putfield 79, 3) := by decide +kernel
theorem dJ5_append_cf1ce_43 : decode cJ5_append_cf1ce 43 = .ok (.aload_n 0, 1) := by decide +kernel
theorem dJ5_append_cf1ce_44 : decode cJ5_append_cf1ce 44 = .ok (.areturn, 1) := by decide +kernel
theorem dJ5_appendNull_278bc_0 : decode cJ5_appendNull_278bc 0 = .ok (.aload_n 0, 1) := by decide +kernel
theorem dJ5_appendNull_278bc_1 : decode cJ5_appendNull_278bc 1 = .ok (.aload_n 0, 1) := by decide +kernel
theorem dJ5_appendNull_278bc_2 : decode cJ5_appendNull_278bc 2 = .ok (.getfield 79, 3) := by decide +kernel
theorem dJ5_appendNull_278bc_5 : decode cJ5_appendNull_278bc 5 = .ok (.iconst 4, 1) := by decide +kernel
theorem dJ5_appendNull_278bc_6 : decode cJ5_appendNull_278bc 6 = .ok (.iadd, 1) := by decide +kernel
theorem dJ5_appendNull_278bc_7 : decode cJ5_appendNull_278bc 7 = .ok (.invokevirtual 100, 3) := by decide +kernel
theorem dJ5_appendNull_278bc_10 : decode cJ5_appendNull_278bc 10 = .ok (.aload_n 0, 1) := by decide +kernel
theorem dJ5_appendNull_278bc_11 : decode cJ5_appendNull_278bc 11 = .ok (.getfield 79, 3) := by decide +kernel
theorem dJ5_appendNull_278bc_14 : decode cJ5_appendNull_278bc 14 = .ok (.istore_n 1, 1) := by decide +kernel
theorem dJ5_appendNull_278bc_15 : decode cJ5_appendNull_278bc 15 = .ok (.aload_n 0, 1) := by decide +kernel
theorem dJ5_appendNull_278bc_16 : decode cJ5_appendNull_278bc 16 = .ok (.getfield 15, 3) := by decide +kernel
theorem dJ5_appendNull_278bc_19 : decode cJ5_appendNull_278bc 19 = .ok (.astore_n 2, 1) := by decide +kernel
theorem dJ5_appendNull_278bc_20 : decode cJ5_appendNull_278bc 20 = .ok (.aload_n 0, 1) := by decide +kernel
theorem dJ5_appendNull_278bc_21 : decode cJ5_appendNull_278bc 21 = .ok (.invokevirtual 83, 3) := by decide +kernel
theorem dJ5_appendNull_278bc_24 : decode cJ5_appendNull_278bc 24 = .ok (.ifCond .eq 38, 3) := by decide +kernel
theorem dJ5_appendNull_278bc_27 : decode cJ5_appendNull_278bc 27 = .ok (.aload_n 2, 1) := by decide +kernel
theorem dJ5_appendNull_278bc_28 : decode cJ5_appendNull_278bc 28 = .ok (.iload_n 1, 1) := by decide +kernel
theorem dJ5_appendNull_278bc_29 : decode cJ5_appendNull_278bc 29 = .ok (.iinc 1 1, 3) := by decide +kernel
theorem dJ5_appendNull_278bc_32 : decode cJ5_appendNull_278bc 32 = .ok (.bipush 110, 2) := by decide +kernel
theorem dJ5_appendNull_278bc_34 : decode cJ5_appendNull_278bc 34 = .ok (.bastore, 1) := by decide +kernel
theorem dJ5_appendNull_278bc_35 : decode cJ5_appendNull_278bc 35 = .ok (.aload_n 2, 1) := by decide +kernel
theorem dJ5_appendNull_278bc_36 : decode cJ5_appendNull_278bc 36 = .ok (.iload_n 1, 1) := by decide +kernel
theorem dJ5_appendNull_278bc_37 : decode cJ5_appendNull_278bc 37 = .ok (.iinc 1 1, 3) := by decide +kernel
theorem dJ5_appendNull_278bc_40 : decode cJ5_appendNull_278bc 40 = .ok (.bipush 117, 2) := by decide +kernel
theorem dJ5_appendNull_278bc_42 : decode cJ5_appendNull_278bc 42 = .ok (.bastore, 1) := by decide +kernel
theorem dJ5_appendNull_278bc_43 : decode cJ5_appendNull_278bc 43 = .ok (.aload_n 2, 1) := by decide +kernel
theorem dJ5_appendNull_278bc_44 : decode cJ5_appendNull_278bc 44 = .ok (.iload_n 1, 1) := by decide +kernel
theorem dJ5_appendNull_278bc_45 : decode cJ5_appendNull_278bc 45 = .ok (.iinc 1 1, 3) := by decide +kernel
theorem dJ5_appendNull_278bc_48 : decode cJ5_appendNull_278bc 48 = .ok (.bipush 108, 2) := by decide +kernel
theorem dJ5_appendNull_278bc_50 : decode cJ5_appendNull_278bc 50 = .ok (.bastore, 1) := by decide +kernel
theorem dJ5_appendNull_278bc_51 : decode cJ5_appendNull_278bc 51 = .ok (.aload_n 2, 1) := by decide +kernel
theorem dJ5_appendNull_278bc_52 : decode cJ5_appendNull_278bc 52 = .ok (.iload_n 1, 1) := by decide +kernel
theorem dJ5_appendNull_278bc_53 : decode cJ5_appendNull_278bc 53 = .ok (.iinc 1 1, 3) := by decide +kernel
theorem dJ5_appendNull_278bc_56 : decode cJ5_appendNull_278bc 56 = .ok (.bipush 108, 2) := by decide +kernel
theorem dJ5_appendNull_278bc_58 : decode cJ5_appendNull_278bc 58 = .ok (.bastore, 1) := by decide +kernel
theorem dJ5_appendNull_278bc_59 : decode cJ5_appendNull_278bc 59 = .ok (.goto 17, 3) := by decide +kernel
theorem dJ5_appendNull_278bc_62 : decode cJ5_appendNull_278bc 62 = .ok (.aload_n 2, 1) := by decide +kernel
theorem dJ5_appendNull_278bc_63 : decode cJ5_appendNull_278bc 63 = .ok (.iload_n 1, 1) := by decide +kernel
theorem dJ5_appendNull_278bc_64 : decode cJ5_appendNull_278bc 64 = .ok (.bipush 110, 2) := by decide +kernel
theorem dJ5_appendNull_278bc_66 : decode cJ5_appendNull_278bc 66 = .ok (.bipush 117, 2) := by decide +kernel
theorem dJ5_appendNull_278bc_68 : decode cJ5_appendNull_278bc 68 = .ok (.bipush 108, 2) := by decide +kernel
theorem dJ5_appendNull_278bc_70 : decode cJ5_appendNull_278bc 70 = .ok (.bipush 108, 2) := by decide +kernel
theorem dJ5_appendNull_278bc_72 : decode cJ5_appendNull_278bc 72 = .ok (.invokestatic 226, 3) := by decide +kernel
theorem dJ5_appendNull_278bc_75 : decode cJ5_appendNull_278bc 75 = .ok (.istore_n 1, 1) := by decide +kernel
theorem dJ5_appendNull_278bc_76 : decode cJ5_appendNull_278bc 76 = .ok (.aload_n 0, 1) := by decide +kernel
theorem dJ5_appendNull_278bc_77 : decode cJ5_appendNull_278bc 77 = .ok (.iload_n 1, 1) := by decide +kernel
theorem dJ5_appendNull_278bc_78 : decode cJ5_appendNull_278bc 78 = .ok (.putfield 79, 3) := by decide +kernel
theorem dJ5_appendNull_278bc_81 : decode cJ5_appendNull_278bc 81 = .ok (.aload_n 0, 1) := by decide +kernel
theorem dJ5_appendNull_278bc_82 : decode cJ5_appendNull_278bc 82 = .ok (.areturn, 1) := by decide +kernel
theorem dJ5_append_3fe6f_0 : decode cJ5_append_3fe6f 0 = .ok (.aload_n 0, 1) := by decide +kernel
theorem dJ5_append_3fe6f_1 : decode cJ5_append_3fe6f 1 = .ok (.aload_n 0, 1) := by decide +kernel
theorem dJ5_append_3fe6f_2 : decode cJ5_append_3fe6f 2 = .ok (.getfield 79, 3) := by decide +kernel
theorem dJ5_append_3fe6f_5 : decode cJ5_append_3fe6f 5 = .ok (.iconst 1, 1) := by decide +kernel
theorem dJ5_append_3fe6f_6 : decode cJ5_append_3fe6f 6 = .ok (.iadd, 1) := by decide +kernel
theorem dJ5_append_3fe6f_7 : decode cJ5_append_3fe6f 7 = .ok (.invokevirtual 100, 3) := by decide +kernel
theorem dJ5_append_3fe6f_10 : decode cJ5_append_3fe6f 10 = .ok (.aload_n 0, 1) := by decide +kernel
theorem dJ5_append_3fe6f_11 : decode cJ5_append_3fe6f 11 = .ok (.invokevirtual 83, 3) := by decide +kernel
theorem dJ5_append_3fe6f_14 : decode cJ5_append_3fe6f 14 = .ok (.ifCond .eq 31, 3) := by decide +kernel
theorem dJ5_append_3fe6f_17 : decode cJ5_append_3fe6f 17 = .ok (.iload_n 1, 1) := by decide +kernel
theorem dJ5_append_3fe6f_18 : decode cJ5_append_3fe6f 18 = .ok (.invokestatic 191, 3) := by decide +kernel
theorem dJ5_append_3fe6f_21 : decode cJ5_append_3fe6f 21 = .ok (.ifCond .eq 24, 3) := by decide +kernel
theorem dJ5_append_3fe6f_24 : decode cJ5_append_3fe6f 24 = .ok (.aload_n 0, 1) := by decide +kernel
theorem dJ5_append_3fe6f_25 : decode cJ5_append_3fe6f 25 = .ok (.getfield 15, 3) := by decide +kernel
theorem dJ5_append_3fe6f_28 : decode cJ5_append_3fe6f 28 = .ok (.aload_n 0, 1) := by decide +kernel
theorem dJ5_append_3fe6f_29 : decode cJ5_append_3fe6f 29 = .ok (.dup, 1) := by decide +kernel
theorem dJ5_append_3fe6f_30 : decode cJ5_append_3fe6f 30 = .ok (.getfield 79, 3) := by decide +kernel
theorem dJ5_append_3fe6f_33 : decode cJ5_append_3fe6f 33 = .ok (.dup_x1, 1) := by decide +kernel
theorem dJ5_append_3fe6f_34 : decode cJ5_append_3fe6f 34 = .ok (.iconst 1, 1) := by decide +kernel
theorem dJ5_append_3fe6f_35 : decode cJ5_append_3fe6f 35 = .ok (.iadd, 1) := by decide +kernel
theorem dJ5_append_3fe6f_36 : decode cJ5_append_3fe6f 36 = .ok (.putfield 79, 3) := by decide +kernel
theorem dJ5_append_3fe6f_39 : decode cJ5_append_3fe6f 39 = .ok (.iload_n 1, 1) := by decide +kernel
theorem dJ5_append_3fe6f_40 : decode cJ5_append_3fe6f 40 = .ok (.i2b, 1) := by decide +kernel
theorem dJ5_append_3fe6f_41 : decode cJ5_append_3fe6f 41 = .ok (.bastore, 1) := by decide +kernel
theorem dJ5_append_3fe6f_42 : decode cJ5_append_3fe6f 42 = .ok (.goto 33, 3) := by decide +kernel
theorem dJ5_append_3fe6f_45 : decode cJ5_append_3fe6f 45 = .ok (.aload_n 0, 1) := by decide +kernel
theorem dJ5_append_3fe6f_46 : decode cJ5_append_3fe6f 46 = .ok (.invokevirtual 83, 3) := by decide +kernel
theorem dJ5_append_3fe6f_49 : decode cJ5_append_3fe6f 49 = .ok (.ifCond .eq 7, 3) := by decide +kernel
theorem dJ5_append_3fe6f_52 : decode cJ5_append_3fe6f 52 = .ok (.aload_n 0, 1) := by decide +kernel
theorem dJ5_append_3fe6f_53 : decode cJ5_append_3fe6f 53 = .ok (.invokevirtual 195, 3) := by decide +kernel
theorem dJ5_append_3fe6f_56 : decode cJ5_append_3fe6f 56 = .ok (.aload_n 0, 1) := by decide +kernel
theorem dJ5_append_3fe6f_57 : decode cJ5_append_3fe6f 57 = .ok (.getfield 15, 3) := by decide +kernel
theorem dJ5_append_3fe6f_60 : decode cJ5_append_3fe6f 60 = .ok (.aload_n 0, 1) := by decide +kernel
theorem dJ5_append_3fe6f_61 : decode cJ5_append_3fe6f 61 = .ok (.dup, 1) := by decide +kernel
theorem dJ5_append_3fe6f_62 : decode cJ5_append_3fe6f 62 = .ok (.getfield 79, 3) := by decide +kernel
theorem dJ5_append_3fe6f_65 : decode cJ5_append_3fe6f 65 = .ok (.dup_x1, 1) := by decide +kernel
theorem dJ5_append_3fe6f_66 : decode cJ5_append_3fe6f 66 = .ok (.iconst 1, 1) := by decide +kernel
theorem dJ5_append_3fe6f_67 : decode cJ5_append_3fe6f 67 = .ok (.iadd, 1) := by decide +kernel
theorem dJ5_append_3fe6f_68 : decode cJ5_append_3fe6f 68 = .ok (.putfield 79, 3) := by decide +kernel
theorem dJ5_append_3fe6f_71 : decode cJ5_append_3fe6f 71 = .ok (.iload_n 1, 1) := by decide +kernel
theorem dJ5_append_3fe6f_72 : decode cJ5_append_3fe6f 72 = .ok (.invokestatic 197, 3) := by decide +kernel
theorem dJ5_append_3fe6f_75 : decode cJ5_append_3fe6f 75 = .ok (.aload_n 0, 1) := by decide +kernel
theorem dJ5_append_3fe6f_76 : decode cJ5_append_3fe6f 76 = .ok (.areturn, 1) := by decide +kernel
theorem dJ5_append_c97b9_0 : decode cJ5_append_c97b9 0 = .ok (.aload_n 0, 1) := by decide +kernel
theorem dJ5_append_c97b9_1 : decode cJ5_append_c97b9 1 = .ok (.getfield 79, 3) := by decide +kernel
theorem dJ5_append_c97b9_4 : decode cJ5_append_c97b9 4 = .ok (.istore_n 2, 1) := by decide +kernel
theorem dJ5_append_c97b9_5 : decode cJ5_append_c97b9 5 = .ok (.iload_n 2, 1) := by decide +kernel
theorem dJ5_append_c97b9_6 : decode cJ5_append_c97b9 6 = .ok (.iload_n 1, 1) := by decide +kernel
theorem dJ5_append_c97b9_7 : decode cJ5_append_c97b9 7 = .ok (.invokestatic 245, 3) := by decide +kernel
theorem dJ5_append_c97b9_10 : decode cJ5_append_c97b9 10 = .ok (.iadd, 1) := by decide +kernel
theorem dJ5_append_c97b9_11 : decode cJ5_append_c97b9 11 = .ok (.istore_n 3, 1) := by decide +kernel
theorem dJ5_append_c97b9_12 : decode cJ5_append_c97b9 12 = .ok (.aload_n 0, 1) := by decide +kernel
theorem dJ5_append_c97b9_13 : decode cJ5_append_c97b9 13 = .ok (.iload_n 3, 1) := by decide +kernel
theorem dJ5_append_c97b9_14 : decode cJ5_append_c97b9 14 = .ok (.invokevirtual 100, 3) := by decide +kernel
theorem dJ5_append_c97b9_17 : decode cJ5_append_c97b9 17 = .ok (.aload_n 0, 1) := by decide +kernel
theorem dJ5_append_c97b9_18 : decode cJ5_append_c97b9 18 = .ok (.invokevirtual 83, 3) := by decide +kernel
theorem dJ5_append_c97b9_21 : decode cJ5_append_c97b9 21 = .ok (.ifCond .eq 16, 3) := by decide +kernel
theorem dJ5_append_c97b9_24 : decode cJ5_append_c97b9 24 = .ok (.iload_n 1, 1) := by decide +kernel
theorem dJ5_append_c97b9_25 : decode cJ5_append_c97b9 25 = .ok (.iload_n 3, 1) := by decide +kernel
theorem dJ5_append_c97b9_26 : decode cJ5_append_c97b9 26 = .ok (.aload_n 0, 1) := by decide +kernel
theorem dJ5_append_c97b9_27 : decode cJ5_append_c97b9 27 = .ok (.getfield 15, 3) := by decide +kernel
theorem dJ5_append_c97b9_30 : decode cJ5_append_c97b9 30 = .ok (.invokestatic 248, 3) := by decide +kernel
theorem dJ5_append_c97b9_33 : decode cJ5_append_c97b9 33 = .ok (.pop, 1) := by decide +kernel
theorem dJ5_append_c97b9_34 : decode cJ5_append_c97b9 34 = .ok (.goto 14, 3) := by decide +kernel
theorem dJ5_append_c97b9_37 : decode cJ5_append_c97b9 37 = .ok (.iload_n 1, 1) := by decide +kernel
theorem dJ5_append_c97b9_38 : decode cJ5_append_c97b9 38 = .ok (.iload_n 2, 1) := by decide +kernel
theorem dJ5_append_c97b9_39 : decode cJ5_append_c97b9 39 = .ok (.iload_n 3, 1) := by decide +kernel
theorem dJ5_append_c97b9_40 : decode cJ5_append_c97b9 40 = .ok (.aload_n 0, 1) := by decide +kernel
theorem dJ5_append_c97b9_41 : decode cJ5_append_c97b9 41 = .ok (.getfield 15, 3) := by decide +kernel
theorem dJ5_append_c97b9_44 : decode cJ5_append_c97b9 44 = .ok (.invokestatic 251, 3) := by decide +kernel
theorem dJ5_append_c97b9_47 : decode cJ5_append_c97b9 47 = .ok (.pop, 1) := by decide +kernel
theorem dJ5_append_c97b9_48 : decode cJ5_append_c97b9 48 = .ok (.aload_n 0, 1) := by decide +kernel
theorem dJ5_append_c97b9_49 : decode cJ5_append_c97b9 49 = .ok (.iload_n 3, 1) := by decide +kernel
theorem dJ5_append_c97b9_50 : decode cJ5_append_c97b9 50 = .ok (.putfield 79, 3) := by decide +kernel
theorem dJ5_append_c97b9_53 : decode cJ5_append_c97b9 53 = .ok (.aload_n 0, 1) := by decide +kernel
theorem dJ5_append_c97b9_54 : decode cJ5_append_c97b9 54 = .ok (.areturn, 1) := by decide +kernel
theorem dJ5_getValue_6d5f1_0 : decode cJ5_getValue_6d5f1 0 = .ok (.aload_n 0, 1) := by decide +kernel
theorem dJ5_getValue_6d5f1_1 : decode cJ5_getValue_6d5f1 1 = .ok (.getfield 15, 3) := by decide +kernel
theorem dJ5_getValue_6d5f1_4 : decode cJ5_getValue_6d5f1 4 = .ok (.areturn, 1) := by decide +kernel
theorem dJ5_isLatin1_aae02_0 : decode cJ5_isLatin1_aae02 0 = .ok (.getstatic 18, 3) := by decide +kernel
theorem dJ5_isLatin1_aae02_3 : decode cJ5_isLatin1_aae02 3 = .ok (.ifCond .eq 14, 3) := by decide +kernel
theorem dJ5_isLatin1_aae02_6 : decode cJ5_isLatin1_aae02 6 = .ok (.aload_n 0, 1) := by decide +kernel
theorem dJ5_isLatin1_aae02_7 : decode cJ5_isLatin1_aae02 7 = .ok (.getfield 22, 3) := by decide +kernel
theorem dJ5_isLatin1_aae02_10 : decode cJ5_isLatin1_aae02 10 = .ok (.ifCond .ne 7, 3) := by decide +kernel
theorem dJ5_isLatin1_aae02_13 : decode cJ5_isLatin1_aae02 13 = .ok (.iconst 1, 1) := by decide +kernel
theorem dJ5_isLatin1_aae02_14 : decode cJ5_isLatin1_aae02 14 = .ok (.goto 4, 3) := by decide +kernel
theorem dJ5_isLatin1_aae02_17 : decode cJ5_isLatin1_aae02 17 = .ok (.iconst 0, 1) := by decide +kernel
theorem dJ5_isLatin1_aae02_18 : decode cJ5_isLatin1_aae02 18 = .ok (.ireturn, 1) := by decide +kernel
theorem dJ5_inflateIfNeededFor_a7421_0 : decode cJ5_inflateIfNeededFor_a7421 0 = .ok (.getstatic 18, 3) := by decide +kernel
theorem dJ5_inflateIfNeededFor_a7421_3 : decode cJ5_inflateIfNeededFor_a7421 3 = .ok (.ifCond .eq 18, 3) := by decide +kernel
theorem dJ5_inflateIfNeededFor_a7421_6 : decode cJ5_inflateIfNeededFor_a7421 6 = .ok (.aload_n 0, 1) := by decide +kernel
theorem dJ5_inflateIfNeededFor_a7421_7 : decode cJ5_inflateIfNeededFor_a7421 7 = .ok (.getfield 22, 3) := by decide +kernel
theorem dJ5_inflateIfNeededFor_a7421_10 : decode cJ5_inflateIfNeededFor_a7421 10 = .ok (.aload_n 1, 1) := by decide +kernel
theorem dJ5_inflateIfNeededFor_a7421_11 : decode cJ5_inflateIfNeededFor_a7421 11 = .ok (.invokevirtual 40, 3) := by decide +kernel
theorem dJ5_inflateIfNeededFor_a7421_14 : decode cJ5_inflateIfNeededFor_a7421 14 = .ok (.if_icmp .eq 7, 3) := by decide +kernel
theorem dJ5_inflateIfNeededFor_a7421_17 : decode cJ5_inflateIfNeededFor_a7421 17 = .ok (.aload_n 0, 1) := by decide +kernel
theorem dJ5_inflateIfNeededFor_a7421_18 : decode cJ5_inflateIfNeededFor_a7421 18 = .ok (.invokevirtual 195, 3) := by decide +kernel
theorem dJ5_inflateIfNeededFor_a7421_21 : decode cJ5_inflateIfNeededFor_a7421 21 = .ok (.return_, 1) := by decide +kernel
theorem dJ5_putStringAt_47b60_0 : decode cJ5_putStringAt_47b60 0 = .ok (.aload_n 0, 1) := by decide +kernel
theorem dJ5_putStringAt_47b60_1 : decode cJ5_putStringAt_47b60 1 = .ok (.aload_n 2, 1) := by decide +kernel
theorem dJ5_putStringAt_47b60_2 : decode cJ5_putStringAt_47b60 2 = .ok (.invokevirtual 397, 3) := by decide +kernel
theorem dJ5_putStringAt_47b60_5 : decode cJ5_putStringAt_47b60 5 = .ok (.aload_n 2, 1) := by decide +kernel
theorem dJ5_putStringAt_47b60_6 : decode cJ5_putStringAt_47b60 6 = .ok (.aload_n 0, 1) := by decide +kernel
theorem dJ5_putStringAt_47b60_7 : decode cJ5_putStringAt_47b60 7 = .ok (.getfield 15, 3) := by decide +kernel
theorem dJ5_putStringAt_47b60_10 : decode cJ5_putStringAt_47b60 10 = .ok (.iload_n 1, 1) := by decide +kernel
theorem dJ5_putStringAt_47b60_11 : decode cJ5_putStringAt_47b60 11 = .ok (.aload_n 0, 1) := by decide +kernel
theorem dJ5_putStringAt_47b60_12 : decode cJ5_putStringAt_47b60 12 = .ok (.getfield 22, 3) := by decide +kernel
theorem dJ5_putStringAt_47b60_15 : decode cJ5_putStringAt_47b60 15 = .ok (.invokevirtual 399, 3) := by decide +kernel
theorem dJ5_putStringAt_47b60_18 : decode cJ5_putStringAt_47b60 18 = .ok (.return_, 1) := by decide +kernel
theorem dJ6_getChars_ba4f3_0 : decode cJ6_getChars_ba4f3 0 = .ok (.iload_n 1, 1) := by decide +kernel
theorem dJ6_getChars_ba4f3_1 : decode cJ6_getChars_ba4f3 1 = .ok (.istore 5, 2) := by decide +kernel
theorem dJ6_getChars_ba4f3_3 : decode cJ6_getChars_ba4f3 3 = .ok (.iload_n 0, 1) := by decide +kernel
theorem dJ6_getChars_ba4f3_4 : decode cJ6_getChars_ba4f3 4 = .ok (.ifCond .ge 7, 3) := by decide +kernel
theorem dJ6_getChars_ba4f3_7 : decode cJ6_getChars_ba4f3 7 = .ok (.iconst 1, 1) := by decide +kernel
theorem dJ6_getChars_ba4f3_8 : decode cJ6_getChars_ba4f3 8 = .ok (.goto 4, 3) := by decide +kernel
theorem dJ6_getChars_ba4f3_11 : decode cJ6_getChars_ba4f3 11 = .ok (.iconst 0, 1) := by decide +kernel
theorem dJ6_getChars_ba4f3_12 : decode cJ6_getChars_ba4f3 12 = .ok (.istore 6, 2) := by decide +kernel
theorem dJ6_getChars_ba4f3_14 : decode cJ6_getChars_ba4f3 14 = .ok (.iload 6, 2) := by decide +kernel
theorem dJ6_getChars_ba4f3_16 : decode cJ6_getChars_ba4f3 16 = .ok (.ifCond .ne 6, 3) := by decide +kernel
theorem dJ6_getChars_ba4f3_19 : decode cJ6_getChars_ba4f3 19 = .ok (.iload_n 0, 1) := by decide +kernel
theorem dJ6_getChars_ba4f3_20 : decode cJ6_getChars_ba4f3 20 = .ok (.ineg, 1) := by decide +kernel
theorem dJ6_getChars_ba4f3_21 : decode cJ6_getChars_ba4f3 21 = .ok (.istore_n 0, 1) := by decide +kernel
theorem dJ6_getChars_ba4f3_22 : decode cJ6_getChars_ba4f3 22 = .ok (.iload_n 0, 1) := by decide +kernel
theorem dJ6_getChars_ba4f3_23 : decode cJ6_getChars_ba4f3 23 = .ok (.bipush (-100), 2) := by decide +kernel
theorem dJ6_getChars_ba4f3_25 : decode cJ6_getChars_ba4f3 25 = .ok (.if_icmp .gt 47, 3) := by decide +kernel
theorem dJ6_getChars_ba4f3_28 : decode cJ6_getChars_ba4f3 28 = .ok (.iload_n 0, 1) := by decide +kernel
theorem dJ6_getChars_ba4f3_29 : decode cJ6_getChars_ba4f3 29 = .ok (.bipush 100, 2) := by decide +kernel
theorem dJ6_getChars_ba4f3_31 : decode cJ6_getChars_ba4f3 31 = .ok (.idiv, 1) := by decide +kernel
theorem dJ6_getChars_ba4f3_32 : decode cJ6_getChars_ba4f3 32 = .ok (.istore_n 3, 1) := by decide +kernel
theorem dJ6_getChars_ba4f3_33 : decode cJ6_getChars_ba4f3 33 = .ok (.iload_n 3, 1) := by decide +kernel
theorem dJ6_getChars_ba4f3_34 : decode cJ6_getChars_ba4f3 34 = .ok (.bipush 100, 2) := by decide +kernel
theorem dJ6_getChars_ba4f3_36 : decode cJ6_getChars_ba4f3 36 = .ok (.imul, 1) := by decide +kernel
theorem dJ6_getChars_ba4f3_37 : decode cJ6_getChars_ba4f3 37 = .ok (.iload_n 0, 1) := by decide +kernel
theorem dJ6_getChars_ba4f3_38 : decode cJ6_getChars_ba4f3 38 = .ok (.isub, 1) := by decide +kernel
theorem dJ6_getChars_ba4f3_39 : decode cJ6_getChars_ba4f3 39 = .ok (.istore 4, 2) := by decide +kernel
theorem dJ6_getChars_ba4f3_41 : decode cJ6_getChars_ba4f3 41 = .ok (.iload_n 3, 1) := by decide +kernel
theorem dJ6_getChars_ba4f3_42 : decode cJ6_getChars_ba4f3 42 = .ok (.istore_n 0, 1) := by decide +kernel
theorem dJ6_getChars_ba4f3_43 : decode cJ6_getChars_ba4f3 43 = .ok (.aload_n 2, 1) := by decide +kernel
theorem dJ6_getChars_ba4f3_44 : decode cJ6_getChars_ba4f3 44 = .ok (.iinc 5 (-1), 3) := by decide +kernel
theorem dJ6_getChars_ba4f3_47 : decode cJ6_getChars_ba4f3 47 = .ok (.iload 5, 2) := by decide +kernel
theorem dJ6_getChars_ba4f3_49 : decode cJ6_getChars_ba4f3 49 = .ok (.getstatic 83, 3) := by decide +kernel
theorem dJ6_getChars_ba4f3_52 : decode cJ6_getChars_ba4f3 52 = .ok (.iload 4, 2) := by decide +kernel
theorem dJ6_getChars_ba4f3_54 : decode cJ6_getChars_ba4f3 54 = .ok (.baload, 1) := by decide +kernel
theorem dJ6_getChars_ba4f3_55 : decode cJ6_getChars_ba4f3 55 = .ok (.bastore, 1) := by decide +kernel
theorem dJ6_getChars_ba4f3_56 : decode cJ6_getChars_ba4f3 56 = .ok (.aload_n 2, 1) := by decide +kernel
theorem dJ6_getChars_ba4f3_57 : decode cJ6_getChars_ba4f3 57 = .ok (.iinc 5 (-1), 3) := by decide +kernel
theorem dJ6_getChars_ba4f3_60 : decode cJ6_getChars_ba4f3 60 = .ok (.iload 5, 2) := by decide +kernel
theorem dJ6_getChars_ba4f3_62 : decode cJ6_getChars_ba4f3 62 = .ok (.getstatic 87, 3) := by decide +kernel
theorem dJ6_getChars_ba4f3_65 : decode cJ6_getChars_ba4f3 65 = .ok (.iload 4, 2) := by decide +kernel
theorem dJ6_getChars_ba4f3_67 : decode cJ6_getChars_ba4f3 67 = .ok (.baload, 1) := by decide +kernel
theorem dJ6_getChars_ba4f3_68 : decode cJ6_getChars_ba4f3 68 = .ok (.bastore, 1) := by decide +kernel
theorem dJ6_getChars_ba4f3_69 : decode cJ6_getChars_ba4f3 69 = .ok (.goto (-47), 3) := by decide +kernel
theorem dJ6_getChars_ba4f3_72 : decode cJ6_getChars_ba4f3 72 = .ok (.aload_n 2, 1) := by decide +kernel
theorem dJ6_getChars_ba4f3_73 : decode cJ6_getChars_ba4f3 73 = .ok (.iinc 5 (-1), 3) := by decide +kernel
theorem dJ6_getChars_ba4f3_76 : decode cJ6_getChars_ba4f3 76 = .ok (.iload 5, 2) := by decide +kernel
theorem dJ6_getChars_ba4f3_78 : decode cJ6_getChars_ba4f3 78 = .ok (.getstatic 83, 3) := by decide +kernel
theorem dJ6_getChars_ba4f3_81 : decode cJ6_getChars_ba4f3 81 = .ok (.iload_n 0, 1) := by decide +kernel
theorem dJ6_getChars_ba4f3_82 : decode cJ6_getChars_ba4f3 82 = .ok (.ineg, 1) := by decide +kernel
theorem dJ6_getChars_ba4f3_83 : decode cJ6_getChars_ba4f3 83 = .ok (.baload, 1) := by decide +kernel
theorem dJ6_getChars_ba4f3_84 : decode cJ6_getChars_ba4f3 84 = .ok (.bastore, 1) := by decide +kernel
theorem dJ6_getChars_ba4f3_85 : decode cJ6_getChars_ba4f3 85 = .ok (.iload_n 0, 1) := by decide +kernel
theorem dJ6_getChars_ba4f3_86 : decode cJ6_getChars_ba4f3 86 = .ok (.bipush (-9), 2) := by decide +kernel
theorem dJ6_getChars_ba4f3_88 : decode cJ6_getChars_ba4f3 88 = .ok (.if_icmp .ge 16, 3) := by decide +kernel
theorem dJ6_getChars_ba4f3_91 : decode cJ6_getChars_ba4f3 91 = .ok (.aload_n 2, 1) := by decide +kernel
theorem dJ6_getChars_ba4f3_92 : decode cJ6_getChars_ba4f3 92 = .ok (.iinc 5 (-1), 3) := by decide +kernel
theorem dJ6_getChars_ba4f3_95 : decode cJ6_getChars_ba4f3 95 = .ok (.iload 5, 2) := by decide +kernel
theorem dJ6_getChars_ba4f3_97 : decode cJ6_getChars_ba4f3 97 = .ok (.getstatic 87, 3) := by decide +kernel
theorem dJ6_getChars_ba4f3_100 : decode cJ6_getChars_ba4f3 100 = .ok (.iload_n 0, 1) := by decide +kernel
theorem dJ6_getChars_ba4f3_101 : decode cJ6_getChars_ba4f3 101 = .ok (.ineg, 1) := by decide +kernel
theorem dJ6_getChars_ba4f3_102 : decode cJ6_getChars_ba4f3 102 = .ok (.baload, 1) := by decide +kernel
theorem dJ6_getChars_ba4f3_103 : decode cJ6_getChars_ba4f3 103 = .ok (.bastore, 1) := by decide +kernel
theorem dJ6_getChars_ba4f3_104 : decode cJ6_getChars_ba4f3 104 = .ok (.iload 6, 2) := by decide +kernel
theorem dJ6_getChars_ba4f3_106 : decode cJ6_getChars_ba4f3 106 = .ok (.ifCond .eq 12, 3) := by decide +kernel
theorem dJ6_getChars_ba4f3_109 : decode cJ6_getChars_ba4f3 109 = .ok (.aload_n 2, 1) := by decide +kernel
theorem dJ6_getChars_ba4f3_110 : decode cJ6_getChars_ba4f3 110 = .ok (.iinc 5 (-1), 3) := by decide +kernel
theorem dJ6_getChars_ba4f3_113 : decode cJ6_getChars_ba4f3 113 = .ok (.iload 5, 2) := by decide +kernel
theorem dJ6_getChars_ba4f3_115 : decode cJ6_getChars_ba4f3 115 = .ok (.bipush 45, 2) := by decide +kernel
theorem dJ6_getChars_ba4f3_117 : decode cJ6_getChars_ba4f3 117 = .ok (.bastore, 1) := by decide +kernel
theorem dJ6_getChars_ba4f3_118 : decode cJ6_getChars_ba4f3 118 = .ok (.iload 5, 2) := by decide +kernel
theorem dJ6_getChars_ba4f3_120 : decode cJ6_getChars_ba4f3 120 = .ok (.ireturn, 1) := by decide +kernel
theorem dJ6_stringSize_0f7a4_0 : decode cJ6_stringSize_0f7a4 0 = .ok (.iconst 1, 1) := by decide +kernel
theorem dJ6_stringSize_0f7a4_1 : decode cJ6_stringSize_0f7a4 1 = .ok (.istore_n 1, 1) := by decide +kernel
theorem dJ6_stringSize_0f7a4_2 : decode cJ6_stringSize_0f7a4 2 = .ok (.iload_n 0, 1) := by decide +kernel
theorem dJ6_stringSize_0f7a4_3 : decode cJ6_stringSize_0f7a4 3 = .ok (.ifCond .lt 8, 3) := by decide +kernel
theorem dJ6_stringSize_0f7a4_6 : decode cJ6_stringSize_0f7a4 6 = .ok (.iconst 0, 1) := by decide +kernel
theorem dJ6_stringSize_0f7a4_7 : decode cJ6_stringSize_0f7a4 7 = .ok (.istore_n 1, 1) := by decide +kernel
theorem dJ6_stringSize_0f7a4_8 : decode cJ6_stringSize_0f7a4 8 = .ok (.iload_n 0, 1) := by decide +kernel
theorem dJ6_stringSize_0f7a4_9 : decode cJ6_stringSize_0f7a4 9 = .ok (.ineg, 1) := by decide +kernel
theorem dJ6_stringSize_0f7a4_10 : decode cJ6_stringSize_0f7a4 10 = .ok (.istore_n 0, 1) := by decide +kernel
theorem dJ6_stringSize_0f7a4_11 : decode cJ6_stringSize_0f7a4 11 = .ok (.bipush (-10), 2) := by decide +kernel
theorem dJ6_stringSize_0f7a4_13 : decode cJ6_stringSize_0f7a4 13 = .ok (.istore_n 2, 1) := by decide +kernel
theorem dJ6_stringSize_0f7a4_14 : decode cJ6_stringSize_0f7a4 14 = .ok (.iconst 1, 1) := by decide +kernel
theorem dJ6_stringSize_0f7a4_15 : decode cJ6_stringSize_0f7a4 15 = .ok (.istore_n 3, 1) := by decide +kernel
theorem dJ6_stringSize_0f7a4_16 : decode cJ6_stringSize_0f7a4 16 = .ok (.iload_n 3, 1) := by decide +kernel
theorem dJ6_stringSize_0f7a4_17 : decode cJ6_stringSize_0f7a4 17 = .ok (.bipush 10, 2) := by decide +kernel
theorem dJ6_stringSize_0f7a4_19 : decode cJ6_stringSize_0f7a4 19 = .ok (.if_icmp .ge 23, 3) := by decide +kernel
theorem dJ6_stringSize_0f7a4_22 : decode cJ6_stringSize_0f7a4 22 = .ok (.iload_n 0, 1) := by decide +kernel
theorem dJ6_stringSize_0f7a4_23 : decode cJ6_stringSize_0f7a4 23 = .ok (.iload_n 2, 1) := by decide +kernel
theorem dJ6_stringSize_0f7a4_24 : decode cJ6_stringSize_0f7a4 24 = .ok (.if_icmp .le 7, 3) := by decide +kernel
theorem dJ6_stringSize_0f7a4_27 : decode cJ6_stringSize_0f7a4 27 = .ok (.iload_n 3, 1) := by decide +kernel
theorem dJ6_stringSize_0f7a4_28 : decode cJ6_stringSize_0f7a4 28 = .ok (.iload_n 1, 1) := by decide +kernel
theorem dJ6_stringSize_0f7a4_29 : decode cJ6_stringSize_0f7a4 29 = .ok (.iadd, 1) := by decide +kernel
theorem dJ6_stringSize_0f7a4_30 : decode cJ6_stringSize_0f7a4 30 = .ok (.ireturn, 1) := by decide +kernel
theorem dJ6_stringSize_0f7a4_31 : decode cJ6_stringSize_0f7a4 31 = .ok (.bipush 10, 2) := by decide +kernel
theorem dJ6_stringSize_0f7a4_33 : decode cJ6_stringSize_0f7a4 33 = .ok (.iload_n 2, 1) := by decide +kernel
theorem dJ6_stringSize_0f7a4_34 : decode cJ6_stringSize_0f7a4 34 = .ok (.imul, 1) := by decide +kernel
theorem dJ6_stringSize_0f7a4_35 : decode cJ6_stringSize_0f7a4 35 = .ok (.istore_n 2, 1) := by decide +kernel
theorem dJ6_stringSize_0f7a4_36 : decode cJ6_stringSize_0f7a4 36 = .ok (.iinc 3 1, 3) := by decide +kernel
theorem dJ6_stringSize_0f7a4_39 : decode cJ6_stringSize_0f7a4 39 = .ok (.goto (-23), 3) := by decide +kernel
theorem dJ6_stringSize_0f7a4_42 : decode cJ6_stringSize_0f7a4 42 = .ok (.bipush 10, 2) := by decide +kernel
theorem dJ6_stringSize_0f7a4_44 : decode cJ6_stringSize_0f7a4 44 = .ok (.iload_n 1, 1) := by decide +kernel
theorem dJ6_stringSize_0f7a4_45 : decode cJ6_stringSize_0f7a4 45 = .ok (.iadd, 1) := by decide +kernel
theorem dJ6_stringSize_0f7a4_46 : decode cJ6_stringSize_0f7a4 46 = .ok (.ireturn, 1) := by decide +kernel
theorem dJ9_floorMod_7cf53_0 : decode cJ9_floorMod_7cf53 0 = .ok (.iload_n 0, 1) := by decide +kernel
theorem dJ9_floorMod_7cf53_1 : decode cJ9_floorMod_7cf53 1 = .ok (.iload_n 1, 1) := by decide +kernel
theorem dJ9_floorMod_7cf53_2 : decode cJ9_floorMod_7cf53 2 = .ok (.irem, 1) := by decide +kernel
theorem dJ9_floorMod_7cf53_3 : decode cJ9_floorMod_7cf53 3 = .ok (.istore_n 2, 1) := by decide +kernel
theorem dJ9_floorMod_7cf53_4 : decode cJ9_floorMod_7cf53 4 = .ok (.iload_n 0, 1) := by decide +kernel
theorem dJ9_floorMod_7cf53_5 : decode cJ9_floorMod_7cf53 5 = .ok (.iload_n 1, 1) := by decide +kernel
theorem dJ9_floorMod_7cf53_6 : decode cJ9_floorMod_7cf53 6 = .ok (.ixor, 1) := by decide +kernel
theorem dJ9_floorMod_7cf53_7 : decode cJ9_floorMod_7cf53 7 = .ok (.ifCond .ge 11, 3) := by decide +kernel
theorem dJ9_floorMod_7cf53_10 : decode cJ9_floorMod_7cf53 10 = .ok (.iload_n 2, 1) := by decide +kernel
theorem dJ9_floorMod_7cf53_11 : decode cJ9_floorMod_7cf53 11 = .ok (.ifCond .eq 7, 3) := by decide +kernel
theorem dJ9_floorMod_7cf53_14 : decode cJ9_floorMod_7cf53 14 = .ok (.iload_n 2, 1) := by decide +kernel
theorem dJ9_floorMod_7cf53_15 : decode cJ9_floorMod_7cf53 15 = .ok (.iload_n 1, 1) := by decide +kernel
theorem dJ9_floorMod_7cf53_16 : decode cJ9_floorMod_7cf53 16 = .ok (.iadd, 1) := by decide +kernel
theorem dJ9_floorMod_7cf53_17 : decode cJ9_floorMod_7cf53 17 = .ok (.ireturn, 1) := by decide +kernel
theorem dJ9_floorMod_7cf53_18 : decode cJ9_floorMod_7cf53 18 = .ok (.iload_n 2, 1) := by decide +kernel
theorem dJ9_floorMod_7cf53_19 : decode cJ9_floorMod_7cf53 19 = .ok (.ireturn, 1) := by decide +kernel
theorem dJ9_max_7cf53_0 : decode cJ9_max_7cf53 0 = .ok (.iload_n 0, 1) := by decide +kernel
theorem dJ9_max_7cf53_1 : decode cJ9_max_7cf53 1 = .ok (.iload_n 1, 1) := by decide +kernel
theorem dJ9_max_7cf53_2 : decode cJ9_max_7cf53 2 = .ok (.if_icmp .lt 7, 3) := by decide +kernel
theorem dJ9_max_7cf53_5 : decode cJ9_max_7cf53 5 = .ok (.iload_n 0, 1) := by decide +kernel
theorem dJ9_max_7cf53_6 : decode cJ9_max_7cf53 6 = .ok (.goto 4, 3) := by decide +kernel
theorem dJ9_max_7cf53_9 : decode cJ9_max_7cf53 9 = .ok (.iload_n 1, 1) := by decide +kernel
theorem dJ9_max_7cf53_10 : decode cJ9_max_7cf53 10 = .ok (.ireturn, 1) := by decide +kernel
theorem dJ9_min_7cf53_0 : decode cJ9_min_7cf53 0 = .ok (.iload_n 0, 1) := by decide +kernel
theorem dJ9_min_7cf53_1 : decode cJ9_min_7cf53 1 = .ok (.iload_n 1, 1) := by decide +kernel
theorem dJ9_min_7cf53_2 : decode cJ9_min_7cf53 2 = .ok (.if_icmp .gt 7, 3) := by decide +kernel
theorem dJ9_min_7cf53_5 : decode cJ9_min_7cf53 5 = .ok (.iload_n 0, 1) := by decide +kernel
theorem dJ9_min_7cf53_6 : decode cJ9_min_7cf53 6 = .ok (.goto 4, 3) := by decide +kernel
theorem dJ9_min_7cf53_9 : decode cJ9_min_7cf53 9 = .ok (.iload_n 1, 1) := by decide +kernel
theorem dJ9_min_7cf53_10 : decode cJ9_min_7cf53 10 = .ok (.ireturn, 1) := by decide +kernel
theorem dJ0_init_81219_0 : decode cJ0_init_81219 0 = .ok (.aload_n 0, 1) := by decide +kernel
theorem dJ0_init_81219_1 : decode cJ0_init_81219 1 = .ok (.aload_n 1, 1) := by decide +kernel
theorem dJ0_init_81219_2 : decode cJ0_init_81219 2 = .ok (.aconst_null, 1) := by decide +kernel
theorem dJ0_init_81219_3 : decode cJ0_init_81219 3 = .ok (.invokespecial 489, 3) := by decide +kernel
theorem dJ0_init_81219_6 : decode cJ0_init_81219 6 = .ok (.return_, 1) := by decide +kernel
theorem dJ0_length_8abf5_0 : decode cJ0_length_8abf5 0 = .ok (.aload_n 0, 1) := by decide +kernel
theorem dJ0_length_8abf5_1 : decode cJ0_length_8abf5 1 = .ok (.getfield 9, 3) := by decide +kernel
theorem dJ0_length_8abf5_4 : decode cJ0_length_8abf5 4 = .ok (.arraylength, 1) := by decide +kernel
theorem dJ0_length_8abf5_5 : decode cJ0_length_8abf5 5 = .ok (.aload_n 0, 1) := by decide +kernel
theorem dJ0_length_8abf5_6 : decode cJ0_length_8abf5 6 = .ok (.invokevirtual 335, 3) := by decide +kernel
theorem dJ0_length_8abf5_9 : decode cJ0_length_8abf5 9 = .ok (.ishr, 1) := by decide +kernel
theorem dJ0_length_8abf5_10 : decode cJ0_length_8abf5 10 = .ok (.ireturn, 1) := by decide +kernel
theorem dJ0_isEmpty_aae02_0 : decode cJ0_isEmpty_aae02 0 = .ok (.aload_n 0, 1) := by decide +kernel
theorem dJ0_isEmpty_aae02_1 : decode cJ0_isEmpty_aae02 1 = .ok (.getfield 9, 3) := by decide +kernel
theorem dJ0_isEmpty_aae02_4 : decode cJ0_isEmpty_aae02 4 = .ok (.arraylength, 1) := by decide +kernel
theorem dJ0_isEmpty_aae02_5 : decode cJ0_isEmpty_aae02 5 = .ok (.ifCond .ne 7, 3) := by decide +kernel
theorem dJ0_isEmpty_aae02_8 : decode cJ0_isEmpty_aae02 8 = .ok (.iconst 1, 1) := by decide +kernel
theorem dJ0_isEmpty_aae02_9 : decode cJ0_isEmpty_aae02 9 = .ok (.goto 4, 3) := by decide +kernel
theorem dJ0_isEmpty_aae02_12 : decode cJ0_isEmpty_aae02 12 = .ok (.iconst 0, 1) := by decide +kernel
theorem dJ0_isEmpty_aae02_13 : decode cJ0_isEmpty_aae02 13 = .ok (.ireturn, 1) := by decide +kernel
theorem dJ0_charAt_5068e_0 : decode cJ0_charAt_5068e 0 = .ok (.aload_n 0, 1) := by decide +kernel
theorem dJ0_charAt_5068e_1 : decode cJ0_charAt_5068e 1 = .ok (.invokevirtual 492, 3) := by decide +kernel
theorem dJ0_charAt_5068e_4 : decode cJ0_charAt_5068e 4 = .ok (.ifCond .eq 12, 3) := by decide +kernel
theorem dJ0_charAt_5068e_7 : decode cJ0_charAt_5068e 7 = .ok (.aload_n 0, 1) := by decide +kernel
theorem dJ0_charAt_5068e_8 : decode cJ0_charAt_5068e 8 = .ok (.getfield 9, 3) := by decide +kernel
theorem dJ0_charAt_5068e_11 : decode cJ0_charAt_5068e 11 = .ok (.iload_n 1, 1) := by decide +kernel
theorem dJ0_charAt_5068e_12 : decode cJ0_charAt_5068e 12 = .ok (.invokestatic 495, 3) := by decide +kernel
theorem dJ0_charAt_5068e_15 : decode cJ0_charAt_5068e 15 = .ok (.ireturn, 1) := by decide +kernel
theorem dJ0_charAt_5068e_16 : decode cJ0_charAt_5068e 16 = .ok (.aload_n 0, 1) := by decide +kernel
theorem dJ0_charAt_5068e_17 : decode cJ0_charAt_5068e 17 = .ok (.getfield 9, 3) := by decide +kernel
theorem dJ0_charAt_5068e_20 : decode cJ0_charAt_5068e 20 = .ok (.iload_n 1, 1) := by decide +kernel
theorem dJ0_charAt_5068e_21 : decode cJ0_charAt_5068e 21 = .ok (.invokestatic 498, 3) := by decide +kernel
theorem dJ0_charAt_5068e_24 : decode cJ0_charAt_5068e 24 = .ok (.ireturn, 1) := by decide +kernel
theorem dJ0_getBytes_840e7_0 : decode cJ0_getBytes_840e7 0 = .ok (.aload_n 0, 1) := by decide +kernel
theorem dJ0_getBytes_840e7_1 : decode cJ0_getBytes_840e7 1 = .ok (.invokevirtual 335, 3) := by decide +kernel
theorem dJ0_getBytes_840e7_4 : decode cJ0_getBytes_840e7 4 = .ok (.iload_n 3, 1) := by decide +kernel
theorem dJ0_getBytes_840e7_5 : decode cJ0_getBytes_840e7 5 = .ok (.if_icmp .ne 23, 3) := by decide +kernel
theorem dJ0_getBytes_840e7_8 : decode cJ0_getBytes_840e7 8 = .ok (.aload_n 0, 1) := by decide +kernel
theorem dJ0_getBytes_840e7_9 : decode cJ0_getBytes_840e7 9 = .ok (.getfield 9, 3) := by decide +kernel
theorem dJ0_getBytes_840e7_12 : decode cJ0_getBytes_840e7 12 = .ok (.iconst 0, 1) := by decide +kernel
theorem dJ0_getBytes_840e7_13 : decode cJ0_getBytes_840e7 13 = .ok (.aload_n 1, 1) := by decide +kernel
theorem dJ0_getBytes_840e7_14 : decode cJ0_getBytes_840e7 14 = .ok (.iload_n 2, 1) := by decide +kernel
theorem dJ0_getBytes_840e7_15 : decode cJ0_getBytes_840e7 15 = .ok (.iload_n 3, 1) := by decide +kernel
theorem dJ0_getBytes_840e7_16 : decode cJ0_getBytes_840e7 16 = .ok (.ishl, 1) := by decide +kernel
theorem dJ0_getBytes_840e7_17 : decode cJ0_getBytes_840e7 17 = .ok (.aload_n 0, 1) := by decide +kernel
theorem dJ0_getBytes_840e7_18 : decode cJ0_getBytes_840e7 18 = .ok (.getfield 9, 3) := by decide +kernel
theorem dJ0_getBytes_840e7_21 : decode cJ0_getBytes_840e7 21 = .ok (.arraylength, 1) := by decide +kernel
theorem dJ0_getBytes_840e7_22 : decode cJ0_getBytes_840e7 22 = .ok (.invokestatic 212, 3) := by decide +kernel
theorem dJ0_getBytes_840e7_25 : decode cJ0_getBytes_840e7 25 = .ok (.goto 18, 3) := by decide +kernel
theorem dJ0_getBytes_840e7_28 : decode cJ0_getBytes_840e7 28 = .ok (.aload_n 0, 1) := by decide +kernel
theorem dJ0_getBytes_840e7_29 : decode cJ0_getBytes_840e7 29 = .ok (.getfield 9, 3) := by decide +kernel
theorem dJ0_getBytes_840e7_32 : decode cJ0_getBytes_840e7 32 = .ok (.iconst 0, 1) := by decide +kernel
theorem dJ0_getBytes_840e7_33 : decode cJ0_getBytes_840e7 33 = .ok (.aload_n 1, 1) := by decide +kernel
theorem dJ0_getBytes_840e7_34 : decode cJ0_getBytes_840e7 34 = .ok (.iload_n 2, 1) := by decide +kernel
theorem dJ0_getBytes_840e7_35 : decode cJ0_getBytes_840e7 35 = .ok (.aload_n 0, 1) := by decide +kernel
theorem dJ0_getBytes_840e7_36 : decode cJ0_getBytes_840e7 36 = .ok (.getfield 9, 3) := by decide +kernel
theorem dJ0_getBytes_840e7_39 : decode cJ0_getBytes_840e7 39 = .ok (.arraylength, 1) := by decide +kernel
theorem dJ0_getBytes_840e7_40 : decode cJ0_getBytes_840e7 40 = .ok (.invokestatic 106, 3) := by decide +kernel
theorem dJ0_getBytes_840e7_43 : decode cJ0_getBytes_840e7 43 = .ok (.return_, 1) := by decide +kernel
theorem dJ0_init_db425_0 : decode cJ0_init_db425 0 = .ok (.aload_n 0, 1) := by decide +kernel
theorem dJ0_init_db425_1 : decode cJ0_init_db425 1 = .ok (.invokespecial 1, 3) := by decide +kernel
theorem dJ0_init_db425_4 : decode cJ0_init_db425 4 = .ok (.aload_n 1, 1) := by decide +kernel
theorem dJ0_init_db425_5 : decode cJ0_init_db425 5 = .ok (.invokevirtual 552, 3) := by decide +kernel
theorem dJ0_init_db425_8 : decode cJ0_init_db425 8 = .ok (.astore_n 3, 1) := by decide +kernel
theorem dJ0_init_db425_9 : decode cJ0_init_db425 9 = .ok (.aload_n 1, 1) := by decide +kernel
theorem dJ0_init_db425_10 : decode cJ0_init_db425 10 = .ok (.invokevirtual 549, 3) := by decide +kernel
theorem dJ0_init_db425_13 : decode cJ0_init_db425 13 = .ok (.istore 4, 2) := by decide +kernel
theorem dJ0_init_db425_15 : decode cJ0_init_db425 15 = .ok (.aload_n 1, 1) := by decide +kernel
theorem dJ0_init_db425_16 : decode cJ0_init_db425 16 = .ok (.invokevirtual 1047, 3) := by decide +kernel
theorem dJ0_init_db425_19 : decode cJ0_init_db425 19 = .ok (.ifCond .eq 22, 3) := by decide +kernel
theorem dJ0_init_db425_22 : decode cJ0_init_db425 22 = .ok (.aload_n 0, 1) := by decide +kernel
theorem dJ0_init_db425_23 : decode cJ0_init_db425 23 = .ok (.iconst 0, 1) := by decide +kernel
theorem dJ0_init_db425_24 : decode cJ0_init_db425 24 = .ok (.putfield 15, 3) := by decide +kernel
theorem dJ0_init_db425_27 : decode cJ0_init_db425 27 = .ok (.aload_n 0, 1) := by decide +kernel
theorem dJ0_init_db425_28 : decode cJ0_init_db425 28 = .ok (.aload_n 3, 1) := by decide +kernel
theorem dJ0_init_db425_29 : decode cJ0_init_db425 29 = .ok (.iconst 0, 1) := by decide +kernel
theorem dJ0_init_db425_30 : decode cJ0_init_db425 30 = .ok (.iload 4, 2) := by decide +kernel
theorem dJ0_init_db425_32 : decode cJ0_init_db425 32 = .ok (.invokestatic 54, 3) := by decide +kernel
theorem dJ0_init_db425_35 : decode cJ0_init_db425 35 = .ok (.putfield 9, 3) := by decide +kernel
theorem dJ0_init_db425_38 : decode cJ0_init_db425 38 = .ok (.goto 59, 3) := by decide +kernel
theorem dJ0_init_db425_41 : decode cJ0_init_db425 41 = .ok (.getstatic 38, 3) := by decide +kernel
theorem dJ0_init_db425_44 : decode cJ0_init_db425 44 = .ok (.ifCond .eq 35, 3) := by decide +kernel
theorem dJ0_init_db425_47 : decode cJ0_init_db425 47 = .ok (.aload_n 1, 1) := by decide +kernel
theorem dJ0_init_db425_48 : decode cJ0_init_db425 48 = .ok (.getfield 1048, 3) := by decide +kernel
theorem dJ0_init_db425_51 : decode cJ0_init_db425 51 = .ok (.ifCond .eq 28, 3) := by decide +kernel
theorem dJ0_init_db425_54 : decode cJ0_init_db425 54 = .ok (.aload_n 0, 1) := by decide +kernel
theorem dJ0_init_db425_55 : decode cJ0_init_db425 55 = .ok (.aload_n 3, 1) := by decide +kernel
theorem dJ0_init_db425_56 : decode cJ0_init_db425 56 = .ok (.iconst 0, 1) := by decide +kernel
theorem dJ0_init_db425_57 : decode cJ0_init_db425 57 = .ok (.iload 4, 2) := by decide +kernel
theorem dJ0_init_db425_59 : decode cJ0_init_db425 59 = .ok (.invokestatic 1051, 3) := by decide +kernel
theorem dJ0_init_db425_62 : decode cJ0_init_db425 62 = .ok (.putfield 9, 3) := by decide +kernel
theorem dJ0_init_db425_65 : decode cJ0_init_db425 65 = .ok (.aload_n 0, 1) := by decide +kernel
theorem dJ0_init_db425_66 : decode cJ0_init_db425 66 = .ok (.aload_n 0, 1) := by decide +kernel
theorem dJ0_init_db425_67 : decode cJ0_init_db425 67 = .ok (.getfield 9, 3) := by decide +kernel
theorem dJ0_init_db425_70 : decode cJ0_init_db425 70 = .ok (.iload 4, 2) := by decide +kernel
theorem dJ0_init_db425_72 : decode cJ0_init_db425 72 = .ok (.invokestatic 47, 3) := by decide +kernel
theorem dJ0_init_db425_75 : decode cJ0_init_db425 75 = .ok (.putfield 15, 3) := by decide +kernel
theorem dJ0_init_db425_78 : decode cJ0_init_db425 78 = .ok (.return_, 1) := by decide +kernel
theorem dJ0_init_db425_79 : decode cJ0_init_db425 79 = .ok (.aload_n 0, 1) := by decide +kernel
theorem dJ0_init_db425_80 : decode cJ0_init_db425 80 = .ok (.iconst 1, 1) := by decide +kernel
theorem dJ0_init_db425_81 : decode cJ0_init_db425 81 = .ok (.putfield 15, 3) := by decide +kernel
theorem dJ0_init_db425_84 : decode cJ0_init_db425 84 = .ok (.aload_n 0, 1) := by decide +kernel
theorem dJ0_init_db425_85 : decode cJ0_init_db425 85 = .ok (.aload_n 3, 1) := by decide +kernel
theorem dJ0_init_db425_86 : decode cJ0_init_db425 86 = .ok (.iconst 0, 1) := by decide +kernel
theorem dJ0_init_db425_87 : decode cJ0_init_db425 87 = .ok (.iload 4, 2) := by decide +kernel
theorem dJ0_init_db425_89 : decode cJ0_init_db425 89 = .ok (.iconst 1, 1) := by decide +kernel
theorem dJ0_init_db425_90 : decode cJ0_init_db425 90 = .ok (.ishl, 1) := by decide +kernel
theorem dJ0_init_db425_91 : decode cJ0_init_db425 91 = .ok (.invokestatic 54, 3) := by decide +kernel
theorem dJ0_init_db425_94 : decode cJ0_init_db425 94 = .ok (.putfield 9, 3) := by decide +kernel
theorem dJ0_init_db425_97 : decode cJ0_init_db425 97 = .ok (.return_, 1) := by decide +kernel
theorem dJ0_coder_7d493_0 : decode cJ0_coder_7d493 0 = .ok (.getstatic 38, 3) := by decide +kernel
theorem dJ0_coder_7d493_3 : decode cJ0_coder_7d493 3 = .ok (.ifCond .eq 10, 3) := by decide +kernel
theorem dJ0_coder_7d493_6 : decode cJ0_coder_7d493 6 = .ok (.aload_n 0, 1) := by decide +kernel
theorem dJ0_coder_7d493_7 : decode cJ0_coder_7d493 7 = .ok (.getfield 15, 3) := by decide +kernel
theorem dJ0_coder_7d493_10 : decode cJ0_coder_7d493 10 = .ok (.goto 4, 3) := by decide +kernel
theorem dJ0_coder_7d493_13 : decode cJ0_coder_7d493 13 = .ok (.iconst 1, 1) := by decide +kernel
theorem dJ0_coder_7d493_14 : decode cJ0_coder_7d493 14 = .ok (.ireturn, 1) := by decide +kernel
theorem dJ0_isLatin1_aae02_0 : decode cJ0_isLatin1_aae02 0 = .ok (.getstatic 38, 3) := by decide +kernel
theorem dJ0_isLatin1_aae02_3 : decode cJ0_isLatin1_aae02 3 = .ok (.ifCond .eq 14, 3) := by decide +kernel
theorem dJ0_isLatin1_aae02_6 : decode cJ0_isLatin1_aae02 6 = .ok (.aload_n 0, 1) := by decide +kernel
theorem dJ0_isLatin1_aae02_7 : decode cJ0_isLatin1_aae02 7 = .ok (.getfield 15, 3) := by decide +kernel
theorem dJ0_isLatin1_aae02_10 : decode cJ0_isLatin1_aae02 10 = .ok (.ifCond .ne 7, 3) := by decide +kernel
theorem dJ0_isLatin1_aae02_13 : decode cJ0_isLatin1_aae02 13 = .ok (.iconst 1, 1) := by decide +kernel
theorem dJ0_isLatin1_aae02_14 : decode cJ0_isLatin1_aae02 14 = .ok (.goto 4, 3) := by decide +kernel
theorem dJ0_isLatin1_aae02_17 : decode cJ0_isLatin1_aae02 17 = .ok (.iconst 0, 1) := by decide +kernel
theorem dJ0_isLatin1_aae02_18 : decode cJ0_isLatin1_aae02 18 = .ok (.ireturn, 1) := by decide +kernel
theorem dJ0_checkIndex_df160_0 : decode cJ0_checkIndex_df160 0 = .ok (.iload_n 0, 1) := by decide +kernel
theorem dJ0_checkIndex_df160_1 : decode cJ0_checkIndex_df160 1 = .ok (.iload_n 1, 1) := by decide +kernel
theorem dJ0_checkIndex_df160_2 : decode cJ0_checkIndex_df160 2 = .ok (.getstatic 1053, 3) := by decide +kernel
theorem dJ0_checkIndex_df160_5 : decode cJ0_checkIndex_df160 5 = .ok (.invokestatic 1059, 3) := by decide +kernel
theorem dJ0_checkIndex_df160_8 : decode cJ0_checkIndex_df160 8 = .ok (.pop, 1) := by decide +kernel
theorem dJ0_checkIndex_df160_9 : decode cJ0_checkIndex_df160 9 = .ok (.return_, 1) := by decide +kernel
theorem dJ0_checkBoundsOffCount_cabcc_0 : decode cJ0_checkBoundsOffCount_cabcc 0 = .ok (.iload_n 0, 1) := by decide +kernel
theorem dJ0_checkBoundsOffCount_cabcc_1 : decode cJ0_checkBoundsOffCount_cabcc 1 = .ok (.iload_n 1, 1) := by decide +kernel
theorem dJ0_checkBoundsOffCount_cabcc_2 : decode cJ0_checkBoundsOffCount_cabcc 2 = .ok (.iload_n 2, 1) := by decide +kernel
theorem dJ0_checkBoundsOffCount_cabcc_3 : decode cJ0_checkBoundsOffCount_cabcc 3 = .ok (.getstatic 1053, 3) := by decide +kernel
theorem dJ0_checkBoundsOffCount_cabcc_6 : decode cJ0_checkBoundsOffCount_cabcc 6 = .ok (.invokestatic 1065, 3) := by decide +kernel
theorem dJ0_checkBoundsOffCount_cabcc_9 : decode cJ0_checkBoundsOffCount_cabcc 9 = .ok (.ireturn, 1) := by decide +kernel
theorem dJ0_checkBoundsBeginEnd_23922_0 : decode cJ0_checkBoundsBeginEnd_23922 0 = .ok (.iload_n 0, 1) := by decide +kernel
theorem dJ0_checkBoundsBeginEnd_23922_1 : decode cJ0_checkBoundsBeginEnd_23922 1 = .ok (.iload_n 1, 1) := by decide +kernel
theorem dJ0_checkBoundsBeginEnd_23922_2 : decode cJ0_checkBoundsBeginEnd_23922 2 = .ok (.iload_n 2, 1) := by decide +kernel
theorem dJ0_checkBoundsBeginEnd_23922_3 : decode cJ0_checkBoundsBeginEnd_23922 3 = .ok (.getstatic 1053, 3) := by decide +kernel
theorem dJ0_checkBoundsBeginEnd_23922_6 : decode cJ0_checkBoundsBeginEnd_23922 6 = .ok (.invokestatic 1062, 3) := by decide +kernel
theorem dJ0_checkBoundsBeginEnd_23922_9 : decode cJ0_checkBoundsBeginEnd_23922 9 = .ok (.pop, 1) := by decide +kernel
theorem dJ0_checkBoundsBeginEnd_23922_10 : decode cJ0_checkBoundsBeginEnd_23922 10 = .ok (.return_, 1) := by decide +kernel
theorem dJ4_init_da8c8_0 : decode cJ4_init_da8c8 0 = .ok (.aload_n 0, 1) := by decide +kernel
theorem dJ4_init_da8c8_1 : decode cJ4_init_da8c8 1 = .ok (.bipush 16, 2) := by decide +kernel
theorem dJ4_init_da8c8_3 : decode cJ4_init_da8c8 3 = .ok (.invokespecial 1, 3) := by decide +kernel
theorem dJ4_init_da8c8_6 : decode cJ4_init_da8c8 6 = .ok (.return_, 1) := by decide +kernel
theorem dJ4_append_15ec4_0 : decode cJ4_append_15ec4 0 = .ok (.aload_n 0, 1) := by decide +kernel
theorem dJ4_append_15ec4_1 : decode cJ4_append_15ec4 1 = .ok (.aload_n 1, 1) := by decide +kernel
theorem dJ4_append_15ec4_2 : decode cJ4_append_15ec4 2 = .ok (.invokespecial 29, 3) := by decide +kernel
theorem dJ4_append_15ec4_5 : decode cJ4_append_15ec4 5 = .ok (.pop, 1) := by decide +kernel
theorem dJ4_append_15ec4_6 : decode cJ4_append_15ec4 6 = .ok (.aload_n 0, 1) := by decide +kernel
theorem dJ4_append_15ec4_7 : decode cJ4_append_15ec4 7 = .ok (.areturn, 1) := by decide +kernel
theorem dJ4_append_cf468_0 : decode cJ4_append_cf468 0 = .ok (.aload_n 0, 1) := by decide +kernel
theorem dJ4_append_cf468_1 : decode cJ4_append_cf468 1 = .ok (.iload_n 1, 1) := by decide +kernel
theorem dJ4_append_cf468_2 : decode cJ4_append_cf468 2 = .ok (.invokespecial 50, 3) := by decide +kernel
theorem dJ4_append_cf468_5 : decode cJ4_append_cf468 5 = .ok (.pop, 1) := by decide +kernel
theorem dJ4_append_cf468_6 : decode cJ4_append_cf468 6 = .ok (.aload_n 0, 1) := by decide +kernel
theorem dJ4_append_cf468_7 : decode cJ4_append_cf468 7 = .ok (.areturn, 1) := by decide +kernel
theorem dJ4_append_bf812_0 : decode cJ4_append_bf812 0 = .ok (.aload_n 0, 1) := by decide +kernel
theorem dJ4_append_bf812_1 : decode cJ4_append_bf812 1 = .ok (.iload_n 1, 1) := by decide +kernel
theorem dJ4_append_bf812_2 : decode cJ4_append_bf812 2 = .ok (.invokespecial 53, 3) := by decide +kernel
theorem dJ4_append_bf812_5 : decode cJ4_append_bf812 5 = .ok (.pop, 1) := by decide +kernel
theorem dJ4_append_bf812_6 : decode cJ4_append_bf812 6 = .ok (.aload_n 0, 1) := by decide +kernel
theorem dJ4_append_bf812_7 : decode cJ4_append_bf812 7 = .ok (.areturn, 1) := by decide +kernel
theorem dJ4_toString_0e30d_0 : decode cJ4_toString_0e30d 0 = .ok (.new 18, 3) := by decide +kernel
theorem dJ4_toString_0e30d_3 : decode cJ4_toString_0e30d 3 = .ok (.dup, 1) := by decide +kernel
theorem dJ4_toString_0e30d_4 : decode cJ4_toString_0e30d 4 = .ok (.aload_n 0, 1) := by decide +kernel
theorem dJ4_toString_0e30d_5 : decode cJ4_toString_0e30d 5 = .ok (.invokespecial 137, 3) := by decide +kernel
theorem dJ4_toString_0e30d_8 : decode cJ4_toString_0e30d 8 = .ok (.areturn, 1) := by decide +kernel
theorem dJ4_length_8abf5_0 : decode cJ4_length_8abf5 0 = .ok (.aload_n 0, 1) := by decide +kernel
theorem dJ4_length_8abf5_1 : decode cJ4_length_8abf5 1 = .ok (.invokespecial 343, 3) := by decide +kernel
theorem dJ4_length_8abf5_4 : decode cJ4_length_8abf5 4 = .ok (.ireturn, 1) := by decide +kernel
theorem dJ1_charAt_3b067_0 : decode cJ1_charAt_3b067 0 = .ok (.iload_n 1, 1) := by decide +kernel
theorem dJ1_charAt_3b067_1 : decode cJ1_charAt_3b067 1 = .ok (.aload_n 0, 1) := by decide +kernel
theorem dJ1_charAt_3b067_2 : decode cJ1_charAt_3b067 2 = .ok (.arraylength, 1) := by decide +kernel
theorem dJ1_charAt_3b067_3 : decode cJ1_charAt_3b067 3 = .ok (.invokestatic 9, 3) := by decide +kernel
theorem dJ1_charAt_3b067_6 : decode cJ1_charAt_3b067 6 = .ok (.aload_n 0, 1) := by decide +kernel
theorem dJ1_charAt_3b067_7 : decode cJ1_charAt_3b067 7 = .ok (.iload_n 1, 1) := by decide +kernel
theorem dJ1_charAt_3b067_8 : decode cJ1_charAt_3b067 8 = .ok (.baload, 1) := by decide +kernel
theorem dJ1_charAt_3b067_9 : decode cJ1_charAt_3b067 9 = .ok (.sipush 255, 3) := by decide +kernel
theorem dJ1_charAt_3b067_12 : decode cJ1_charAt_3b067 12 = .ok (.iand, 1) := by decide +kernel
theorem dJ1_charAt_3b067_13 : decode cJ1_charAt_3b067 13 = .ok (.i2c, 1) := by decide +kernel
theorem dJ1_charAt_3b067_14 : decode cJ1_charAt_3b067 14 = .ok (.ireturn, 1) := by decide +kernel
theorem dJ1_canEncode_fc78d_0 : decode cJ1_canEncode_fc78d 0 = .ok (.iload_n 0, 1) := by decide +kernel
theorem dJ1_canEncode_fc78d_1 : decode cJ1_canEncode_fc78d 1 = .ok (.sipush 255, 3) := by decide +kernel
theorem dJ1_canEncode_fc78d_4 : decode cJ1_canEncode_fc78d 4 = .ok (.if_icmp .gt 7, 3) := by decide +kernel
theorem dJ1_canEncode_fc78d_7 : decode cJ1_canEncode_fc78d 7 = .ok (.iconst 1, 1) := by decide +kernel
theorem dJ1_canEncode_fc78d_8 : decode cJ1_canEncode_fc78d 8 = .ok (.goto 4, 3) := by decide +kernel
theorem dJ1_canEncode_fc78d_11 : decode cJ1_canEncode_fc78d 11 = .ok (.iconst 0, 1) := by decide +kernel
theorem dJ1_canEncode_fc78d_12 : decode cJ1_canEncode_fc78d 12 = .ok (.ireturn, 1) := by decide +kernel
theorem dJ1_inflate_0e8fd_0 : decode cJ1_inflate_0e8fd 0 = .ok (.aload_n 0, 1) := by decide +kernel
theorem dJ1_inflate_0e8fd_1 : decode cJ1_inflate_0e8fd 1 = .ok (.iload_n 1, 1) := by decide +kernel
theorem dJ1_inflate_0e8fd_2 : decode cJ1_inflate_0e8fd 2 = .ok (.aload_n 2, 1) := by decide +kernel
theorem dJ1_inflate_0e8fd_3 : decode cJ1_inflate_0e8fd 3 = .ok (.iload_n 3, 1) := by decide +kernel
theorem dJ1_inflate_0e8fd_4 : decode cJ1_inflate_0e8fd 4 = .ok (.iload 4, 2) := by decide +kernel
theorem dJ1_inflate_0e8fd_6 : decode cJ1_inflate_0e8fd 6 = .ok (.invokestatic 240, 3) := by decide +kernel
theorem dJ1_inflate_0e8fd_9 : decode cJ1_inflate_0e8fd 9 = .ok (.return_, 1) := by decide +kernel
theorem dJ2_newBytesFor_77867_0 : decode cJ2_newBytesFor_77867 0 = .ok (.iload_n 0, 1) := by decide +kernel
theorem dJ2_newBytesFor_77867_1 : decode cJ2_newBytesFor_77867 1 = .ok (.invokestatic 11, 3) := by decide +kernel
theorem dJ2_newBytesFor_77867_4 : decode cJ2_newBytesFor_77867 4 = .ok (.newarray .byte, 2) := by decide +kernel
theorem dJ2_newBytesFor_77867_6 : decode cJ2_newBytesFor_77867 6 = .ok (.areturn, 1) := by decide +kernel
theorem dJ2_newBytesLength_0f7a4_0 : decode cJ2_newBytesLength_0f7a4 0 = .ok (.iload_n 0, 1) := by decide +kernel
theorem dJ2_newBytesLength_0f7a4_1 : decode cJ2_newBytesLength_0f7a4 1 = .ok (.ifCond .ge 11, 3) := by decide +kernel
theorem dJ2_newBytesLength_0f7a4_4 : decode cJ2_newBytesLength_0f7a4 4 = .ok (.new 17, 3) := by decide +kernel
theorem dJ2_newBytesLength_0f7a4_7 : decode cJ2_newBytesLength_0f7a4 7 = .ok (.dup, 1) := by decide +kernel
theorem dJ2_newBytesLength_0f7a4_8 : decode cJ2_newBytesLength_0f7a4 8 = .ok (.invokespecial 19, 3) := by decide +kernel
theorem dJ2_newBytesLength_0f7a4_11 : decode cJ2_newBytesLength_0f7a4 11 = .ok (.athrow, 1) := by decide +kernel
theorem dJ2_newBytesLength_0f7a4_12 : decode cJ2_newBytesLength_0f7a4 12 = .ok (.iload_n 0, 1) := by decide +kernel
theorem dJ2_newBytesLength_0f7a4_13 : decode cJ2_newBytesLength_0f7a4 13 = .ok (.ldc 20, 2) := by decide +kernel
theorem dJ2_newBytesLength_0f7a4_15 : decode cJ2_newBytesLength_0f7a4 15 = .ok (.if_icmp .lt 40, 3) := by decide +kernel
theorem dJ2_newBytesLength_0f7a4_18 : decode cJ2_newBytesLength_0f7a4 18 = .ok (.new 21, 3) := by decide +kernel
theorem dJ2_newBytesLength_0f7a4_21 : decode cJ2_newBytesLength_0f7a4 21 = .ok (.dup, 1) := by decide +kernel
theorem dJ2_newBytesLength_0f7a4_22 : decode cJ2_newBytesLength_0f7a4 22 = .ok (.new 23, 3) := by decide +kernel
theorem dJ2_newBytesLength_0f7a4_25 : decode cJ2_newBytesLength_0f7a4 25 = .ok (.dup, 1) := by decide +kernel
theorem dJ2_newBytesLength_0f7a4_26 : decode cJ2_newBytesLength_0f7a4 26 = .ok (.invokespecial 25, 3) := by decide +kernel
theorem dJ2_newBytesLength_0f7a4_29 : decode cJ2_newBytesLength_0f7a4 29 = .ok (.ldc 26, 2) := by decide +kernel
theorem dJ2_newBytesLength_0f7a4_31 : decode cJ2_newBytesLength_0f7a4 31 = .ok (.invokevirtual 28, 3) := by decide +kernel
theorem dJ2_newBytesLength_0f7a4_34 : decode cJ2_newBytesLength_0f7a4 34 = .ok (.iload_n 0, 1) := by decide +kernel
theorem dJ2_newBytesLength_0f7a4_35 : decode cJ2_newBytesLength_0f7a4 35 = .ok (.invokevirtual 32, 3) := by decide +kernel
theorem dJ2_newBytesLength_0f7a4_38 : decode cJ2_newBytesLength_0f7a4 38 = .ok (.ldc 35, 2) := by decide +kernel
theorem dJ2_newBytesLength_0f7a4_40 : decode cJ2_newBytesLength_0f7a4 40 = .ok (.invokevirtual 28, 3) := by decide +kernel
theorem dJ2_newBytesLength_0f7a4_43 : decode cJ2_newBytesLength_0f7a4 43 = .ok (.ldc 20, 2) := by decide +kernel
theorem dJ2_newBytesLength_0f7a4_45 : decode cJ2_newBytesLength_0f7a4 45 = .ok (.invokevirtual 32, 3) := by decide +kernel
theorem dJ2_newBytesLength_0f7a4_48 : decode cJ2_newBytesLength_0f7a4 48 = .ok (.invokevirtual 37, 3) := by decide +kernel
theorem dJ2_newBytesLength_0f7a4_51 : decode cJ2_newBytesLength_0f7a4 51 = .ok (.invokespecial 41, 3) := by decide +kernel
theorem dJ2_newBytesLength_0f7a4_54 : decode cJ2_newBytesLength_0f7a4 54 = .ok (.athrow, 1) := by decide +kernel
theorem dJ2_newBytesLength_0f7a4_55 : decode cJ2_newBytesLength_0f7a4 55 = .ok (.iload_n 0, 1) := by decide +kernel
theorem dJ2_newBytesLength_0f7a4_56 : decode cJ2_newBytesLength_0f7a4 56 = .ok (.iconst 1, 1) := by decide +kernel
theorem dJ2_newBytesLength_0f7a4_57 : decode cJ2_newBytesLength_0f7a4 57 = .ok (.ishl, 1) := by decide +kernel
theorem dJ2_newBytesLength_0f7a4_58 : decode cJ2_newBytesLength_0f7a4 58 = .ok (.ireturn, 1) := by decide +kernel
theorem dJ2_putChar_b72d1_0 : decode cJ2_putChar_b72d1 0 = .ok (.getstatic 44, 3) := by decide +kernel
theorem dJ2_putChar_b72d1_3 : decode cJ2_putChar_b72d1 3 = .ok (.ifCond .ne 25, 3) := by decide +kernel
theorem dJ2_putChar_b72d1_6 : decode cJ2_putChar_b72d1 6 = .ok (.iload_n 1, 1) := by decide +kernel
theorem dJ2_putChar_b72d1_7 : decode cJ2_putChar_b72d1 7 = .ok (.ifCond .lt 11, 3) := by decide +kernel
theorem dJ2_putChar_b72d1_10 : decode cJ2_putChar_b72d1 10 = .ok (.iload_n 1, 1) := by decide +kernel
theorem dJ2_putChar_b72d1_11 : decode cJ2_putChar_b72d1 11 = .ok (.aload_n 0, 1) := by decide +kernel
theorem dJ2_putChar_b72d1_12 : decode cJ2_putChar_b72d1 12 = .ok (.invokestatic 48, 3) := by decide +kernel
theorem dJ2_putChar_b72d1_15 : decode cJ2_putChar_b72d1 15 = .ok (.if_icmp .lt 13, 3) := by decide +kernel
theorem dJ2_putChar_b72d1_18 : decode cJ2_putChar_b72d1 18 = .ok (.new 52, 3) := by decide +kernel
theorem dJ2_putChar_b72d1_21 : decode cJ2_putChar_b72d1 21 = .ok (.dup, 1) := by decide +kernel
theorem dJ2_putChar_b72d1_22 : decode cJ2_putChar_b72d1 22 = .ok (.ldc 54, 2) := by decide +kernel
theorem dJ2_putChar_b72d1_24 : decode cJ2_putChar_b72d1 24 = .ok (.invokespecial 56, 3) := by decide +kernel
theorem dJ2_putChar_b72d1_27 : decode cJ2_putChar_b72d1 27 = .ok (.athrow, 1) := by decide +kernel
theorem dJ2_putChar_b72d1_28 : decode cJ2_putChar_b72d1 28 = .ok (.iload_n 1, 1) := by decide +kernel
theorem dJ2_putChar_b72d1_29 : decode cJ2_putChar_b72d1 29 = .ok (.iconst 1, 1) := by decide +kernel
theorem dJ2_putChar_b72d1_30 : decode cJ2_putChar_b72d1 30 = .ok (.ishl, 1) := by decide +kernel
theorem dJ2_putChar_b72d1_31 : decode cJ2_putChar_b72d1 31 = .ok (.istore_n 1, 1) := by decide +kernel
theorem dJ2_putChar_b72d1_32 : decode cJ2_putChar_b72d1 32 = .ok (.aload_n 0, 1) := by decide +kernel
theorem dJ2_putChar_b72d1_33 : decode cJ2_putChar_b72d1 33 = .ok (.iload_n 1, 1) := by decide +kernel
theorem dJ2_putChar_b72d1_34 : decode cJ2_putChar_b72d1 34 = .ok (.iinc 1 1, 3) := by decide +kernel
theorem dJ2_putChar_b72d1_37 : decode cJ2_putChar_b72d1 37 = .ok (.iload_n 2, 1) := by decide +kernel
theorem dJ2_putChar_b72d1_38 : decode cJ2_putChar_b72d1 38 = .ok (.getstatic 59, 3) := by decide +kernel
theorem dJ2_putChar_b72d1_41 : decode cJ2_putChar_b72d1 41 = .ok (.ishr, 1) := by decide +kernel
theorem dJ2_putChar_b72d1_42 : decode cJ2_putChar_b72d1 42 = .ok (.i2b, 1) := by decide +kernel
theorem dJ2_putChar_b72d1_43 : decode cJ2_putChar_b72d1 43 = .ok (.bastore, 1) := by decide +kernel
theorem dJ2_putChar_b72d1_44 : decode cJ2_putChar_b72d1 44 = .ok (.aload_n 0, 1) := by decide +kernel
theorem dJ2_putChar_b72d1_45 : decode cJ2_putChar_b72d1 45 = .ok (.iload_n 1, 1) := by decide +kernel
theorem dJ2_putChar_b72d1_46 : decode cJ2_putChar_b72d1 46 = .ok (.iload_n 2, 1) := by decide +kernel
theorem dJ2_putChar_b72d1_47 : decode cJ2_putChar_b72d1 47 = .ok (.getstatic 63, 3) := by decide +kernel
theorem dJ2_putChar_b72d1_50 : decode cJ2_putChar_b72d1 50 = .ok (.ishr, 1) := by decide +kernel
theorem dJ2_putChar_b72d1_51 : decode cJ2_putChar_b72d1 51 = .ok (.i2b, 1) := by decide +kernel
theorem dJ2_putChar_b72d1_52 : decode cJ2_putChar_b72d1 52 = .ok (.bastore, 1) := by decide +kernel
theorem dJ2_putChar_b72d1_53 : decode cJ2_putChar_b72d1 53 = .ok (.return_, 1) := by decide +kernel
theorem dJ2_getChar_3b067_0 : decode cJ2_getChar_3b067 0 = .ok (.getstatic 44, 3) := by decide +kernel
theorem dJ2_getChar_3b067_3 : decode cJ2_getChar_3b067 3 = .ok (.ifCond .ne 25, 3) := by decide +kernel
theorem dJ2_getChar_3b067_6 : decode cJ2_getChar_3b067 6 = .ok (.iload_n 1, 1) := by decide +kernel
theorem dJ2_getChar_3b067_7 : decode cJ2_getChar_3b067 7 = .ok (.ifCond .lt 11, 3) := by decide +kernel
theorem dJ2_getChar_3b067_10 : decode cJ2_getChar_3b067 10 = .ok (.iload_n 1, 1) := by decide +kernel
theorem dJ2_getChar_3b067_11 : decode cJ2_getChar_3b067 11 = .ok (.aload_n 0, 1) := by decide +kernel
theorem dJ2_getChar_3b067_12 : decode cJ2_getChar_3b067 12 = .ok (.invokestatic 48, 3) := by decide +kernel
theorem dJ2_getChar_3b067_15 : decode cJ2_getChar_3b067 15 = .ok (.if_icmp .lt 13, 3) := by decide +kernel
theorem dJ2_getChar_3b067_18 : decode cJ2_getChar_3b067 18 = .ok (.new 52, 3) := by decide +kernel
theorem dJ2_getChar_3b067_21 : decode cJ2_getChar_3b067 21 = .ok (.dup, 1) := by decide +kernel
theorem dJ2_getChar_3b067_22 : decode cJ2_getChar_3b067 22 = .ok (.ldc 54, 2) := by decide +kernel
theorem dJ2_getChar_3b067_24 : decode cJ2_getChar_3b067 24 = .ok (.invokespecial 56, 3) := by decide +kernel
theorem dJ2_getChar_3b067_27 : decode cJ2_getChar_3b067 27 = .ok (.athrow, 1) := by decide +kernel
theorem dJ2_getChar_3b067_28 : decode cJ2_getChar_3b067 28 = .ok (.iload_n 1, 1) := by decide +kernel
theorem dJ2_getChar_3b067_29 : decode cJ2_getChar_3b067 29 = .ok (.iconst 1, 1) := by decide +kernel
theorem dJ2_getChar_3b067_30 : decode cJ2_getChar_3b067 30 = .ok (.ishl, 1) := by decide +kernel
theorem dJ2_getChar_3b067_31 : decode cJ2_getChar_3b067 31 = .ok (.istore_n 1, 1) := by decide +kernel
theorem dJ2_getChar_3b067_32 : decode cJ2_getChar_3b067 32 = .ok (.aload_n 0, 1) := by decide +kernel
theorem dJ2_getChar_3b067_33 : decode cJ2_getChar_3b067 33 = .ok (.iload_n 1, 1) := by decide +kernel
theorem dJ2_getChar_3b067_34 : decode cJ2_getChar_3b067 34 = .ok (.iinc 1 1, 3) := by decide +kernel
theorem dJ2_getChar_3b067_37 : decode cJ2_getChar_3b067 37 = .ok (.baload, 1) := by decide +kernel
theorem dJ2_getChar_3b067_38 : decode cJ2_getChar_3b067 38 = .ok (.sipush 255, 3) := by decide +kernel
theorem dJ2_getChar_3b067_41 : decode cJ2_getChar_3b067 41 = .ok (.iand, 1) := by decide +kernel
theorem dJ2_getChar_3b067_42 : decode cJ2_getChar_3b067 42 = .ok (.getstatic 59, 3) := by decide +kernel
theorem dJ2_getChar_3b067_45 : decode cJ2_getChar_3b067 45 = .ok (.ishl, 1) := by decide +kernel
theorem dJ2_getChar_3b067_46 : decode cJ2_getChar_3b067 46 = .ok (.aload_n 0, 1) := by decide +kernel
theorem dJ2_getChar_3b067_47 : decode cJ2_getChar_3b067 47 = .ok (.iload_n 1, 1) := by decide +kernel
theorem dJ2_getChar_3b067_48 : decode cJ2_getChar_3b067 48 = .ok (.baload, 1) := by decide +kernel
theorem dJ2_getChar_3b067_49 : decode cJ2_getChar_3b067 49 = .ok (.sipush 255, 3) := by decide +kernel
theorem dJ2_getChar_3b067_52 : decode cJ2_getChar_3b067 52 = .ok (.iand, 1) := by decide +kernel
theorem dJ2_getChar_3b067_53 : decode cJ2_getChar_3b067 53 = .ok (.getstatic 63, 3) := by decide +kernel
theorem dJ2_getChar_3b067_56 : decode cJ2_getChar_3b067 56 = .ok (.ishl, 1) := by decide +kernel
theorem dJ2_getChar_3b067_57 : decode cJ2_getChar_3b067 57 = .ok (.ior, 1) := by decide +kernel
theorem dJ2_getChar_3b067_58 : decode cJ2_getChar_3b067 58 = .ok (.i2c, 1) := by decide +kernel
theorem dJ2_getChar_3b067_59 : decode cJ2_getChar_3b067 59 = .ok (.ireturn, 1) := by decide +kernel
theorem dJ2_length_9d52b_0 : decode cJ2_length_9d52b 0 = .ok (.aload_n 0, 1) := by decide +kernel
theorem dJ2_length_9d52b_1 : decode cJ2_length_9d52b 1 = .ok (.arraylength, 1) := by decide +kernel
theorem dJ2_length_9d52b_2 : decode cJ2_length_9d52b 2 = .ok (.iconst 1, 1) := by decide +kernel
theorem dJ2_length_9d52b_3 : decode cJ2_length_9d52b 3 = .ok (.ishr, 1) := by decide +kernel
theorem dJ2_length_9d52b_4 : decode cJ2_length_9d52b 4 = .ok (.ireturn, 1) := by decide +kernel
theorem dJ2_coderFromArrayLen_85cad_0 : decode cJ2_coderFromArrayLen_85cad 0 = .ok (.iload_n 1, 1) := by decide +kernel
theorem dJ2_coderFromArrayLen_85cad_1 : decode cJ2_coderFromArrayLen_85cad 1 = .ok (.aload_n 0, 1) := by decide +kernel
theorem dJ2_coderFromArrayLen_85cad_2 : decode cJ2_coderFromArrayLen_85cad 2 = .ok (.arraylength, 1) := by decide +kernel
theorem dJ2_coderFromArrayLen_85cad_3 : decode cJ2_coderFromArrayLen_85cad 3 = .ok (.isub, 1) := by decide +kernel
theorem dJ2_coderFromArrayLen_85cad_4 : decode cJ2_coderFromArrayLen_85cad 4 = .ok (.bipush 31, 2) := by decide +kernel
theorem dJ2_coderFromArrayLen_85cad_6 : decode cJ2_coderFromArrayLen_85cad 6 = .ok (.iushr, 1) := by decide +kernel
theorem dJ2_coderFromArrayLen_85cad_7 : decode cJ2_coderFromArrayLen_85cad 7 = .ok (.i2b, 1) := by decide +kernel
theorem dJ2_coderFromArrayLen_85cad_8 : decode cJ2_coderFromArrayLen_85cad 8 = .ok (.ireturn, 1) := by decide +kernel
theorem dJ2_compress_39247_0 : decode cJ2_compress_39247 0 = .ok (.iload_n 2, 1) := by decide +kernel
theorem dJ2_compress_39247_1 : decode cJ2_compress_39247 1 = .ok (.newarray .byte, 2) := by decide +kernel
theorem dJ2_compress_39247_3 : decode cJ2_compress_39247 3 = .ok (.astore_n 3, 1) := by decide +kernel
theorem dJ2_compress_39247_4 : decode cJ2_compress_39247 4 = .ok (.aload_n 0, 1) := by decide +kernel
theorem dJ2_compress_39247_5 : decode cJ2_compress_39247 5 = .ok (.iload_n 1, 1) := by decide +kernel
theorem dJ2_compress_39247_6 : decode cJ2_compress_39247 6 = .ok (.aload_n 3, 1) := by decide +kernel
theorem dJ2_compress_39247_7 : decode cJ2_compress_39247 7 = .ok (.iconst 0, 1) := by decide +kernel
theorem dJ2_compress_39247_8 : decode cJ2_compress_39247 8 = .ok (.iload_n 2, 1) := by decide +kernel
theorem dJ2_compress_39247_9 : decode cJ2_compress_39247 9 = .ok (.invokestatic 123, 3) := by decide +kernel
theorem dJ2_compress_39247_12 : decode cJ2_compress_39247 12 = .ok (.istore 4, 2) := by decide +kernel
theorem dJ2_compress_39247_14 : decode cJ2_compress_39247 14 = .ok (.iload 4, 2) := by decide +kernel
theorem dJ2_compress_39247_16 : decode cJ2_compress_39247 16 = .ok (.iload_n 2, 1) := by decide +kernel
theorem dJ2_compress_39247_17 : decode cJ2_compress_39247 17 = .ok (.if_icmp .eq 47, 3) := by decide +kernel
theorem dJ2_compress_39247_20 : decode cJ2_compress_39247 20 = .ok (.aload_n 0, 1) := by decide +kernel
theorem dJ2_compress_39247_21 : decode cJ2_compress_39247 21 = .ok (.iload_n 1, 1) := by decide +kernel
theorem dJ2_compress_39247_22 : decode cJ2_compress_39247 22 = .ok (.iconst 1, 1) := by decide +kernel
theorem dJ2_compress_39247_23 : decode cJ2_compress_39247 23 = .ok (.ishl, 1) := by decide +kernel
theorem dJ2_compress_39247_24 : decode cJ2_compress_39247 24 = .ok (.iload_n 1, 1) := by decide +kernel
theorem dJ2_compress_39247_25 : decode cJ2_compress_39247 25 = .ok (.iload_n 2, 1) := by decide +kernel
theorem dJ2_compress_39247_26 : decode cJ2_compress_39247 26 = .ok (.iadd, 1) := by decide +kernel
theorem dJ2_compress_39247_27 : decode cJ2_compress_39247 27 = .ok (.invokestatic 11, 3) := by decide +kernel
theorem dJ2_compress_39247_30 : decode cJ2_compress_39247 30 = .ok (.invokestatic 126, 3) := by decide +kernel
theorem dJ2_compress_39247_33 : decode cJ2_compress_39247 33 = .ok (.astore 5, 2) := by decide +kernel
theorem dJ2_compress_39247_35 : decode cJ2_compress_39247 35 = .ok (.aload 5, 2) := by decide +kernel
theorem dJ2_compress_39247_37 : decode cJ2_compress_39247 37 = .ok (.iload 4, 2) := by decide +kernel
theorem dJ2_compress_39247_39 : decode cJ2_compress_39247 39 = .ok (.invokestatic 71, 3) := by decide +kernel
theorem dJ2_compress_39247_42 : decode cJ2_compress_39247 42 = .ok (.sipush 255, 3) := by decide +kernel
theorem dJ2_compress_39247_45 : decode cJ2_compress_39247 45 = .ok (.if_icmp .gt 16, 3) := by decide +kernel
theorem dJ2_compress_39247_48 : decode cJ2_compress_39247 48 = .ok (.aload 5, 2) := by decide +kernel
theorem dJ2_compress_39247_50 : decode cJ2_compress_39247 50 = .ok (.iconst 0, 1) := by decide +kernel
theorem dJ2_compress_39247_51 : decode cJ2_compress_39247 51 = .ok (.aload_n 3, 1) := by decide +kernel
theorem dJ2_compress_39247_52 : decode cJ2_compress_39247 52 = .ok (.iconst 0, 1) := by decide +kernel
theorem dJ2_compress_39247_53 : decode cJ2_compress_39247 53 = .ok (.iload_n 2, 1) := by decide +kernel
theorem dJ2_compress_39247_54 : decode cJ2_compress_39247 54 = .ok (.invokestatic 123, 3) := by decide +kernel
theorem dJ2_compress_39247_57 : decode cJ2_compress_39247 57 = .ok (.iload_n 2, 1) := by decide +kernel
theorem dJ2_compress_39247_58 : decode cJ2_compress_39247 58 = .ok (.if_icmp .eq 6, 3) := by decide +kernel
theorem dJ2_compress_39247_61 : decode cJ2_compress_39247 61 = .ok (.aload 5, 2) := by decide +kernel
theorem dJ2_compress_39247_63 : decode cJ2_compress_39247 63 = .ok (.areturn, 1) := by decide +kernel
theorem dJ2_compress_39247_64 : decode cJ2_compress_39247 64 = .ok (.aload_n 3, 1) := by decide +kernel
theorem dJ2_compress_39247_65 : decode cJ2_compress_39247 65 = .ok (.areturn, 1) := by decide +kernel
theorem dJ2_compress_5af95_0 : decode cJ2_compress_5af95 0 = .ok (.iload_n 1, 1) := by decide +kernel
theorem dJ2_compress_5af95_1 : decode cJ2_compress_5af95 1 = .ok (.iload 4, 2) := by decide +kernel
theorem dJ2_compress_5af95_3 : decode cJ2_compress_5af95 3 = .ok (.aload_n 0, 1) := by decide +kernel
theorem dJ2_compress_5af95_4 : decode cJ2_compress_5af95 4 = .ok (.invokestatic 173, 3) := by decide +kernel
theorem dJ2_compress_5af95_7 : decode cJ2_compress_5af95 7 = .ok (.iconst 0, 1) := by decide +kernel
theorem dJ2_compress_5af95_8 : decode cJ2_compress_5af95 8 = .ok (.istore 5, 2) := by decide +kernel
theorem dJ2_compress_5af95_10 : decode cJ2_compress_5af95 10 = .ok (.iload 5, 2) := by decide +kernel
theorem dJ2_compress_5af95_12 : decode cJ2_compress_5af95 12 = .ok (.iload 4, 2) := by decide +kernel
theorem dJ2_compress_5af95_14 : decode cJ2_compress_5af95 14 = .ok (.if_icmp .ge 39, 3) := by decide +kernel
theorem dJ2_compress_5af95_17 : decode cJ2_compress_5af95 17 = .ok (.aload_n 0, 1) := by decide +kernel
theorem dJ2_compress_5af95_18 : decode cJ2_compress_5af95 18 = .ok (.iload_n 1, 1) := by decide +kernel
theorem dJ2_compress_5af95_19 : decode cJ2_compress_5af95 19 = .ok (.invokestatic 71, 3) := by decide +kernel
theorem dJ2_compress_5af95_22 : decode cJ2_compress_5af95 22 = .ok (.istore 6, 2) := by decide +kernel
theorem dJ2_compress_5af95_24 : decode cJ2_compress_5af95 24 = .ok (.iload 6, 2) := by decide +kernel
theorem dJ2_compress_5af95_26 : decode cJ2_compress_5af95 26 = .ok (.sipush 255, 3) := by decide +kernel
theorem dJ2_compress_5af95_29 : decode cJ2_compress_5af95 29 = .ok (.if_icmp .le 6, 3) := by decide +kernel
theorem dJ2_compress_5af95_32 : decode cJ2_compress_5af95 32 = .ok (.iload 5, 2) := by decide +kernel
theorem dJ2_compress_5af95_34 : decode cJ2_compress_5af95 34 = .ok (.ireturn, 1) := by decide +kernel
theorem dJ2_compress_5af95_35 : decode cJ2_compress_5af95 35 = .ok (.aload_n 2, 1) := by decide +kernel
theorem dJ2_compress_5af95_36 : decode cJ2_compress_5af95 36 = .ok (.iload_n 3, 1) := by decide +kernel
theorem dJ2_compress_5af95_37 : decode cJ2_compress_5af95 37 = .ok (.iload 6, 2) := by decide +kernel
theorem dJ2_compress_5af95_39 : decode cJ2_compress_5af95 39 = .ok (.i2b, 1) := by decide +kernel
theorem dJ2_compress_5af95_40 : decode cJ2_compress_5af95 40 = .ok (.bastore, 1) := by decide +kernel
theorem dJ2_compress_5af95_41 : decode cJ2_compress_5af95 41 = .ok (.iinc 1 1, 3) := by decide +kernel
theorem dJ2_compress_5af95_44 : decode cJ2_compress_5af95 44 = .ok (.iinc 3 1, 3) := by decide +kernel
theorem dJ2_compress_5af95_47 : decode cJ2_compress_5af95 47 = .ok (.iinc 5 1, 3) := by decide +kernel
theorem dJ2_compress_5af95_50 : decode cJ2_compress_5af95 50 = .ok (.goto (-40), 3) := by decide +kernel
theorem dJ2_compress_5af95_53 : decode cJ2_compress_5af95 53 = .ok (.iload 4, 2) := by decide +kernel
theorem dJ2_compress_5af95_55 : decode cJ2_compress_5af95 55 = .ok (.ireturn, 1) := by decide +kernel
theorem dJ2_putCharSB_b72d1_0 : decode cJ2_putCharSB_b72d1 0 = .ok (.iload_n 1, 1) := by decide +kernel
theorem dJ2_putCharSB_b72d1_1 : decode cJ2_putCharSB_b72d1 1 = .ok (.aload_n 0, 1) := by decide +kernel
theorem dJ2_putCharSB_b72d1_2 : decode cJ2_putCharSB_b72d1 2 = .ok (.invokestatic 67, 3) := by decide +kernel
theorem dJ2_putCharSB_b72d1_5 : decode cJ2_putCharSB_b72d1 5 = .ok (.aload_n 0, 1) := by decide +kernel
theorem dJ2_putCharSB_b72d1_6 : decode cJ2_putCharSB_b72d1 6 = .ok (.iload_n 1, 1) := by decide +kernel
theorem dJ2_putCharSB_b72d1_7 : decode cJ2_putCharSB_b72d1 7 = .ok (.iload_n 2, 1) := by decide +kernel
theorem dJ2_putCharSB_b72d1_8 : decode cJ2_putCharSB_b72d1 8 = .ok (.invokestatic 111, 3) := by decide +kernel
theorem dJ2_putCharSB_b72d1_11 : decode cJ2_putCharSB_b72d1 11 = .ok (.return_, 1) := by decide +kernel
theorem dJ2_getChars_46870_0 : decode cJ2_getChars_46870 0 = .ok (.iload_n 1, 1) := by decide +kernel
theorem dJ2_getChars_46870_1 : decode cJ2_getChars_46870 1 = .ok (.iload_n 2, 1) := by decide +kernel
theorem dJ2_getChars_46870_2 : decode cJ2_getChars_46870 2 = .ok (.aload_n 3, 1) := by decide +kernel
theorem dJ2_getChars_46870_3 : decode cJ2_getChars_46870 3 = .ok (.invokestatic 96, 3) := by decide +kernel
theorem dJ2_getChars_46870_6 : decode cJ2_getChars_46870 6 = .ok (.iload_n 0, 1) := by decide +kernel
theorem dJ2_getChars_46870_7 : decode cJ2_getChars_46870 7 = .ok (.iload_n 2, 1) := by decide +kernel
theorem dJ2_getChars_46870_8 : decode cJ2_getChars_46870 8 = .ok (.aload_n 3, 1) := by decide +kernel
theorem dJ2_getChars_46870_9 : decode cJ2_getChars_46870 9 = .ok (.invokestatic 393, 3) := by decide +kernel
theorem dJ2_getChars_46870_12 : decode cJ2_getChars_46870 12 = .ok (.istore 4, 2) := by decide +kernel
theorem dJ2_getChars_46870_14 : decode cJ2_getChars_46870 14 = .ok (.getstatic 44, 3) := by decide +kernel
theorem dJ2_getChars_46870_17 : decode cJ2_getChars_46870 17 = .ok (.ifCond .ne 17, 3) := by decide +kernel
theorem dJ2_getChars_46870_20 : decode cJ2_getChars_46870 20 = .ok (.iload_n 1, 1) := by decide +kernel
theorem dJ2_getChars_46870_21 : decode cJ2_getChars_46870 21 = .ok (.iload 4, 2) := by decide +kernel
theorem dJ2_getChars_46870_23 : decode cJ2_getChars_46870 23 = .ok (.if_icmp .eq 11, 3) := by decide +kernel
theorem dJ2_getChars_46870_26 : decode cJ2_getChars_46870 26 = .ok (.new 52, 3) := by decide +kernel
theorem dJ2_getChars_46870_29 : decode cJ2_getChars_46870 29 = .ok (.dup, 1) := by decide +kernel
theorem dJ2_getChars_46870_30 : decode cJ2_getChars_46870 30 = .ok (.invokespecial 66, 3) := by decide +kernel
theorem dJ2_getChars_46870_33 : decode cJ2_getChars_46870 33 = .ok (.athrow, 1) := by decide +kernel
theorem dJ2_getChars_46870_34 : decode cJ2_getChars_46870 34 = .ok (.iload 4, 2) := by decide +kernel
theorem dJ2_getChars_46870_36 : decode cJ2_getChars_46870 36 = .ok (.ireturn, 1) := by decide +kernel
theorem dJ2_putCharsAt_cd4e5_0 : decode cJ2_putCharsAt_cd4e5 0 = .ok (.iload_n 1, 1) := by decide +kernel
theorem dJ2_putCharsAt_cd4e5_1 : decode cJ2_putCharsAt_cd4e5 1 = .ok (.iconst 4, 1) := by decide +kernel
theorem dJ2_putCharsAt_cd4e5_2 : decode cJ2_putCharsAt_cd4e5 2 = .ok (.iadd, 1) := by decide +kernel
theorem dJ2_putCharsAt_cd4e5_3 : decode cJ2_putCharsAt_cd4e5 3 = .ok (.istore 6, 2) := by decide +kernel
theorem dJ2_putCharsAt_cd4e5_5 : decode cJ2_putCharsAt_cd4e5 5 = .ok (.iload_n 1, 1) := by decide +kernel
theorem dJ2_putCharsAt_cd4e5_6 : decode cJ2_putCharsAt_cd4e5 6 = .ok (.iload 6, 2) := by decide +kernel
theorem dJ2_putCharsAt_cd4e5_8 : decode cJ2_putCharsAt_cd4e5 8 = .ok (.aload_n 0, 1) := by decide +kernel
theorem dJ2_putCharsAt_cd4e5_9 : decode cJ2_putCharsAt_cd4e5 9 = .ok (.invokestatic 96, 3) := by decide +kernel
theorem dJ2_putCharsAt_cd4e5_12 : decode cJ2_putCharsAt_cd4e5 12 = .ok (.aload_n 0, 1) := by decide +kernel
theorem dJ2_putCharsAt_cd4e5_13 : decode cJ2_putCharsAt_cd4e5 13 = .ok (.iload_n 1, 1) := by decide +kernel
theorem dJ2_putCharsAt_cd4e5_14 : decode cJ2_putCharsAt_cd4e5 14 = .ok (.iinc 1 1, 3) := by decide +kernel
theorem dJ2_putCharsAt_cd4e5_17 : decode cJ2_putCharsAt_cd4e5 17 = .ok (.iload_n 2, 1) := by decide +kernel
theorem dJ2_putCharsAt_cd4e5_18 : decode cJ2_putCharsAt_cd4e5 18 = .ok (.invokestatic 111, 3) := by decide +kernel
theorem dJ2_putCharsAt_cd4e5_21 : decode cJ2_putCharsAt_cd4e5 21 = .ok (.aload_n 0, 1) := by decide +kernel
theorem dJ2_putCharsAt_cd4e5_22 : decode cJ2_putCharsAt_cd4e5 22 = .ok (.iload_n 1, 1) := by decide +kernel
theorem dJ2_putCharsAt_cd4e5_23 : decode cJ2_putCharsAt_cd4e5 23 = .ok (.iinc 1 1, 3) := by decide +kernel
theorem dJ2_putCharsAt_cd4e5_26 : decode cJ2_putCharsAt_cd4e5 26 = .ok (.iload_n 3, 1) := by decide +kernel
theorem dJ2_putCharsAt_cd4e5_27 : decode cJ2_putCharsAt_cd4e5 27 = .ok (.invokestatic 111, 3) := by decide +kernel
theorem dJ2_putCharsAt_cd4e5_30 : decode cJ2_putCharsAt_cd4e5 30 = .ok (.aload_n 0, 1) := by decide +kernel
theorem dJ2_putCharsAt_cd4e5_31 : decode cJ2_putCharsAt_cd4e5 31 = .ok (.iload_n 1, 1) := by decide +kernel
theorem dJ2_putCharsAt_cd4e5_32 : decode cJ2_putCharsAt_cd4e5 32 = .ok (.iinc 1 1, 3) := by decide +kernel
theorem dJ2_putCharsAt_cd4e5_35 : decode cJ2_putCharsAt_cd4e5 35 = .ok (.iload 4, 2) := by decide +kernel
theorem dJ2_putCharsAt_cd4e5_37 : decode cJ2_putCharsAt_cd4e5 37 = .ok (.invokestatic 111, 3) := by decide +kernel
theorem dJ2_putCharsAt_cd4e5_40 : decode cJ2_putCharsAt_cd4e5 40 = .ok (.aload_n 0, 1) := by decide +kernel
theorem dJ2_putCharsAt_cd4e5_41 : decode cJ2_putCharsAt_cd4e5 41 = .ok (.iload_n 1, 1) := by decide +kernel
theorem dJ2_putCharsAt_cd4e5_42 : decode cJ2_putCharsAt_cd4e5 42 = .ok (.iinc 1 1, 3) := by decide +kernel
theorem dJ2_putCharsAt_cd4e5_45 : decode cJ2_putCharsAt_cd4e5 45 = .ok (.iload 5, 2) := by decide +kernel
theorem dJ2_putCharsAt_cd4e5_47 : decode cJ2_putCharsAt_cd4e5 47 = .ok (.invokestatic 111, 3) := by decide +kernel
theorem dJ2_putCharsAt_cd4e5_50 : decode cJ2_putCharsAt_cd4e5 50 = .ok (.getstatic 44, 3) := by decide +kernel
theorem dJ2_putCharsAt_cd4e5_53 : decode cJ2_putCharsAt_cd4e5 53 = .ok (.ifCond .ne 17, 3) := by decide +kernel
theorem dJ2_putCharsAt_cd4e5_56 : decode cJ2_putCharsAt_cd4e5 56 = .ok (.iload_n 1, 1) := by decide +kernel
theorem dJ2_putCharsAt_cd4e5_57 : decode cJ2_putCharsAt_cd4e5 57 = .ok (.iload 6, 2) := by decide +kernel
theorem dJ2_putCharsAt_cd4e5_59 : decode cJ2_putCharsAt_cd4e5 59 = .ok (.if_icmp .eq 11, 3) := by decide +kernel
theorem dJ2_putCharsAt_cd4e5_62 : decode cJ2_putCharsAt_cd4e5 62 = .ok (.new 52, 3) := by decide +kernel
theorem dJ2_putCharsAt_cd4e5_65 : decode cJ2_putCharsAt_cd4e5 65 = .ok (.dup, 1) := by decide +kernel
theorem dJ2_putCharsAt_cd4e5_66 : decode cJ2_putCharsAt_cd4e5 66 = .ok (.invokespecial 66, 3) := by decide +kernel
theorem dJ2_putCharsAt_cd4e5_69 : decode cJ2_putCharsAt_cd4e5 69 = .ok (.athrow, 1) := by decide +kernel
theorem dJ2_putCharsAt_cd4e5_70 : decode cJ2_putCharsAt_cd4e5 70 = .ok (.iload 6, 2) := by decide +kernel
theorem dJ2_putCharsAt_cd4e5_72 : decode cJ2_putCharsAt_cd4e5 72 = .ok (.ireturn, 1) := by decide +kernel
theorem dJ2_charAt_3b067_0 : decode cJ2_charAt_3b067 0 = .ok (.iload_n 1, 1) := by decide +kernel
theorem dJ2_charAt_3b067_1 : decode cJ2_charAt_3b067 1 = .ok (.aload_n 0, 1) := by decide +kernel
theorem dJ2_charAt_3b067_2 : decode cJ2_charAt_3b067 2 = .ok (.invokestatic 67, 3) := by decide +kernel
theorem dJ2_charAt_3b067_5 : decode cJ2_charAt_3b067 5 = .ok (.aload_n 0, 1) := by decide +kernel
theorem dJ2_charAt_3b067_6 : decode cJ2_charAt_3b067 6 = .ok (.iload_n 1, 1) := by decide +kernel
theorem dJ2_charAt_3b067_7 : decode cJ2_charAt_3b067 7 = .ok (.invokestatic 71, 3) := by decide +kernel
theorem dJ2_charAt_3b067_10 : decode cJ2_charAt_3b067 10 = .ok (.ireturn, 1) := by decide +kernel
theorem dJ2_inflate_0e8fd_0 : decode cJ2_inflate_0e8fd 0 = .ok (.iload_n 3, 1) := by decide +kernel
theorem dJ2_inflate_0e8fd_1 : decode cJ2_inflate_0e8fd 1 = .ok (.iload 4, 2) := by decide +kernel
theorem dJ2_inflate_0e8fd_3 : decode cJ2_inflate_0e8fd 3 = .ok (.aload_n 2, 1) := by decide +kernel
theorem dJ2_inflate_0e8fd_4 : decode cJ2_inflate_0e8fd 4 = .ok (.invokestatic 173, 3) := by decide +kernel
theorem dJ2_inflate_0e8fd_7 : decode cJ2_inflate_0e8fd 7 = .ok (.iconst 0, 1) := by decide +kernel
theorem dJ2_inflate_0e8fd_8 : decode cJ2_inflate_0e8fd 8 = .ok (.istore 5, 2) := by decide +kernel
theorem dJ2_inflate_0e8fd_10 : decode cJ2_inflate_0e8fd 10 = .ok (.iload 5, 2) := by decide +kernel
theorem dJ2_inflate_0e8fd_12 : decode cJ2_inflate_0e8fd 12 = .ok (.iload 4, 2) := by decide +kernel
theorem dJ2_inflate_0e8fd_14 : decode cJ2_inflate_0e8fd 14 = .ok (.if_icmp .ge 27, 3) := by decide +kernel
theorem dJ2_inflate_0e8fd_17 : decode cJ2_inflate_0e8fd 17 = .ok (.aload_n 2, 1) := by decide +kernel
theorem dJ2_inflate_0e8fd_18 : decode cJ2_inflate_0e8fd 18 = .ok (.iload_n 3, 1) := by decide +kernel
theorem dJ2_inflate_0e8fd_19 : decode cJ2_inflate_0e8fd 19 = .ok (.iinc 3 1, 3) := by decide +kernel
theorem dJ2_inflate_0e8fd_22 : decode cJ2_inflate_0e8fd 22 = .ok (.aload_n 0, 1) := by decide +kernel
theorem dJ2_inflate_0e8fd_23 : decode cJ2_inflate_0e8fd 23 = .ok (.iload_n 1, 1) := by decide +kernel
theorem dJ2_inflate_0e8fd_24 : decode cJ2_inflate_0e8fd 24 = .ok (.iinc 1 1, 3) := by decide +kernel
theorem dJ2_inflate_0e8fd_27 : decode cJ2_inflate_0e8fd 27 = .ok (.baload, 1) := by decide +kernel
theorem dJ2_inflate_0e8fd_28 : decode cJ2_inflate_0e8fd 28 = .ok (.sipush 255, 3) := by decide +kernel
theorem dJ2_inflate_0e8fd_31 : decode cJ2_inflate_0e8fd 31 = .ok (.iand, 1) := by decide +kernel
theorem dJ2_inflate_0e8fd_32 : decode cJ2_inflate_0e8fd 32 = .ok (.invokestatic 111, 3) := by decide +kernel
theorem dJ2_inflate_0e8fd_35 : decode cJ2_inflate_0e8fd 35 = .ok (.iinc 5 1, 3) := by decide +kernel
theorem dJ2_inflate_0e8fd_38 : decode cJ2_inflate_0e8fd 38 = .ok (.goto (-28), 3) := by decide +kernel
theorem dJ2_inflate_0e8fd_41 : decode cJ2_inflate_0e8fd 41 = .ok (.return_, 1) := by decide +kernel
theorem dJ2_getChars_ba4f3_0 : decode cJ2_getChars_ba4f3 0 = .ok (.iload_n 1, 1) := by decide +kernel
theorem dJ2_getChars_ba4f3_1 : decode cJ2_getChars_ba4f3 1 = .ok (.istore 5, 2) := by decide +kernel
theorem dJ2_getChars_ba4f3_3 : decode cJ2_getChars_ba4f3 3 = .ok (.iload_n 0, 1) := by decide +kernel
theorem dJ2_getChars_ba4f3_4 : decode cJ2_getChars_ba4f3 4 = .ok (.ifCond .ge 7, 3) := by decide +kernel
theorem dJ2_getChars_ba4f3_7 : decode cJ2_getChars_ba4f3 7 = .ok (.iconst 1, 1) := by decide +kernel
theorem dJ2_getChars_ba4f3_8 : decode cJ2_getChars_ba4f3 8 = .ok (.goto 4, 3) := by decide +kernel
theorem dJ2_getChars_ba4f3_11 : decode cJ2_getChars_ba4f3 11 = .ok (.iconst 0, 1) := by decide +kernel
theorem dJ2_getChars_ba4f3_12 : decode cJ2_getChars_ba4f3 12 = .ok (.istore 6, 2) := by decide +kernel
theorem dJ2_getChars_ba4f3_14 : decode cJ2_getChars_ba4f3 14 = .ok (.iload 6, 2) := by decide +kernel
theorem dJ2_getChars_ba4f3_16 : decode cJ2_getChars_ba4f3 16 = .ok (.ifCond .ne 6, 3) := by decide +kernel
theorem dJ2_getChars_ba4f3_19 : decode cJ2_getChars_ba4f3 19 = .ok (.iload_n 0, 1) := by decide +kernel
theorem dJ2_getChars_ba4f3_20 : decode cJ2_getChars_ba4f3 20 = .ok (.ineg, 1) := by decide +kernel
theorem dJ2_getChars_ba4f3_21 : decode cJ2_getChars_ba4f3 21 = .ok (.istore_n 0, 1) := by decide +kernel
theorem dJ2_getChars_ba4f3_22 : decode cJ2_getChars_ba4f3 22 = .ok (.iload_n 0, 1) := by decide +kernel
theorem dJ2_getChars_ba4f3_23 : decode cJ2_getChars_ba4f3 23 = .ok (.bipush (-100), 2) := by decide +kernel
theorem dJ2_getChars_ba4f3_25 : decode cJ2_getChars_ba4f3 25 = .ok (.if_icmp .gt 51, 3) := by decide +kernel
theorem dJ2_getChars_ba4f3_28 : decode cJ2_getChars_ba4f3 28 = .ok (.iload_n 0, 1) := by decide +kernel
theorem dJ2_getChars_ba4f3_29 : decode cJ2_getChars_ba4f3 29 = .ok (.bipush 100, 2) := by decide +kernel
theorem dJ2_getChars_ba4f3_31 : decode cJ2_getChars_ba4f3 31 = .ok (.idiv, 1) := by decide +kernel
theorem dJ2_getChars_ba4f3_32 : decode cJ2_getChars_ba4f3 32 = .ok (.istore_n 3, 1) := by decide +kernel
theorem dJ2_getChars_ba4f3_33 : decode cJ2_getChars_ba4f3 33 = .ok (.iload_n 3, 1) := by decide +kernel
theorem dJ2_getChars_ba4f3_34 : decode cJ2_getChars_ba4f3 34 = .ok (.bipush 100, 2) := by decide +kernel
theorem dJ2_getChars_ba4f3_36 : decode cJ2_getChars_ba4f3 36 = .ok (.imul, 1) := by decide +kernel
theorem dJ2_getChars_ba4f3_37 : decode cJ2_getChars_ba4f3 37 = .ok (.iload_n 0, 1) := by decide +kernel
theorem dJ2_getChars_ba4f3_38 : decode cJ2_getChars_ba4f3 38 = .ok (.isub, 1) := by decide +kernel
theorem dJ2_getChars_ba4f3_39 : decode cJ2_getChars_ba4f3 39 = .ok (.istore 4, 2) := by decide +kernel
theorem dJ2_getChars_ba4f3_41 : decode cJ2_getChars_ba4f3 41 = .ok (.iload_n 3, 1) := by decide +kernel
theorem dJ2_getChars_ba4f3_42 : decode cJ2_getChars_ba4f3 42 = .ok (.istore_n 0, 1) := by decide +kernel
theorem dJ2_getChars_ba4f3_43 : decode cJ2_getChars_ba4f3 43 = .ok (.aload_n 2, 1) := by decide +kernel
theorem dJ2_getChars_ba4f3_44 : decode cJ2_getChars_ba4f3 44 = .ok (.iinc 5 (-1), 3) := by decide +kernel
theorem dJ2_getChars_ba4f3_47 : decode cJ2_getChars_ba4f3 47 = .ok (.iload 5, 2) := by decide +kernel
theorem dJ2_getChars_ba4f3_49 : decode cJ2_getChars_ba4f3 49 = .ok (.getstatic 403, 3) := by decide +kernel
theorem dJ2_getChars_ba4f3_52 : decode cJ2_getChars_ba4f3 52 = .ok (.iload 4, 2) := by decide +kernel
theorem dJ2_getChars_ba4f3_54 : decode cJ2_getChars_ba4f3 54 = .ok (.baload, 1) := by decide +kernel
theorem dJ2_getChars_ba4f3_55 : decode cJ2_getChars_ba4f3 55 = .ok (.invokestatic 111, 3) := by decide +kernel
theorem dJ2_getChars_ba4f3_58 : decode cJ2_getChars_ba4f3 58 = .ok (.aload_n 2, 1) := by decide +kernel
theorem dJ2_getChars_ba4f3_59 : decode cJ2_getChars_ba4f3 59 = .ok (.iinc 5 (-1), 3) := by decide +kernel
theorem dJ2_getChars_ba4f3_62 : decode cJ2_getChars_ba4f3 62 = .ok (.iload 5, 2) := by decide +kernel
theorem dJ2_getChars_ba4f3_64 : decode cJ2_getChars_ba4f3 64 = .ok (.getstatic 407, 3) := by decide +kernel
theorem dJ2_getChars_ba4f3_67 : decode cJ2_getChars_ba4f3 67 = .ok (.iload 4, 2) := by decide +kernel
theorem dJ2_getChars_ba4f3_69 : decode cJ2_getChars_ba4f3 69 = .ok (.baload, 1) := by decide +kernel
theorem dJ2_getChars_ba4f3_70 : decode cJ2_getChars_ba4f3 70 = .ok (.invokestatic 111, 3) := by decide +kernel
theorem dJ2_getChars_ba4f3_73 : decode cJ2_getChars_ba4f3 73 = .ok (.goto (-51), 3) := by decide +kernel
theorem dJ2_getChars_ba4f3_76 : decode cJ2_getChars_ba4f3 76 = .ok (.aload_n 2, 1) := by decide +kernel
theorem dJ2_getChars_ba4f3_77 : decode cJ2_getChars_ba4f3 77 = .ok (.iinc 5 (-1), 3) := by decide +kernel
theorem dJ2_getChars_ba4f3_80 : decode cJ2_getChars_ba4f3 80 = .ok (.iload 5, 2) := by decide +kernel
theorem dJ2_getChars_ba4f3_82 : decode cJ2_getChars_ba4f3 82 = .ok (.getstatic 403, 3) := by decide +kernel
theorem dJ2_getChars_ba4f3_85 : decode cJ2_getChars_ba4f3 85 = .ok (.iload_n 0, 1) := by decide +kernel
theorem dJ2_getChars_ba4f3_86 : decode cJ2_getChars_ba4f3 86 = .ok (.ineg, 1) := by decide +kernel
theorem dJ2_getChars_ba4f3_87 : decode cJ2_getChars_ba4f3 87 = .ok (.baload, 1) := by decide +kernel
theorem dJ2_getChars_ba4f3_88 : decode cJ2_getChars_ba4f3 88 = .ok (.invokestatic 111, 3) := by decide +kernel
theorem dJ2_getChars_ba4f3_91 : decode cJ2_getChars_ba4f3 91 = .ok (.iload_n 0, 1) := by decide +kernel
theorem dJ2_getChars_ba4f3_92 : decode cJ2_getChars_ba4f3 92 = .ok (.bipush (-9), 2) := by decide +kernel
theorem dJ2_getChars_ba4f3_94 : decode cJ2_getChars_ba4f3 94 = .ok (.if_icmp .ge 18, 3) := by decide +kernel
theorem dJ2_getChars_ba4f3_97 : decode cJ2_getChars_ba4f3 97 = .ok (.aload_n 2, 1) := by decide +kernel
theorem dJ2_getChars_ba4f3_98 : decode cJ2_getChars_ba4f3 98 = .ok (.iinc 5 (-1), 3) := by decide +kernel
theorem dJ2_getChars_ba4f3_101 : decode cJ2_getChars_ba4f3 101 = .ok (.iload 5, 2) := by decide +kernel
theorem dJ2_getChars_ba4f3_103 : decode cJ2_getChars_ba4f3 103 = .ok (.getstatic 407, 3) := by decide +kernel
theorem dJ2_getChars_ba4f3_106 : decode cJ2_getChars_ba4f3 106 = .ok (.iload_n 0, 1) := by decide +kernel
theorem dJ2_getChars_ba4f3_107 : decode cJ2_getChars_ba4f3 107 = .ok (.ineg, 1) := by decide +kernel
theorem dJ2_getChars_ba4f3_108 : decode cJ2_getChars_ba4f3 108 = .ok (.baload, 1) := by decide +kernel
theorem dJ2_getChars_ba4f3_109 : decode cJ2_getChars_ba4f3 109 = .ok (.invokestatic 111, 3) := by decide +kernel
theorem dJ2_getChars_ba4f3_112 : decode cJ2_getChars_ba4f3 112 = .ok (.iload 6, 2) := by decide +kernel
theorem dJ2_getChars_ba4f3_114 : decode cJ2_getChars_ba4f3 114 = .ok (.ifCond .eq 14, 3) := by decide +kernel
theorem dJ2_getChars_ba4f3_117 : decode cJ2_getChars_ba4f3 117 = .ok (.aload_n 2, 1) := by decide +kernel
theorem dJ2_getChars_ba4f3_118 : decode cJ2_getChars_ba4f3 118 = .ok (.iinc 5 (-1), 3) := by decide +kernel
theorem dJ2_getChars_ba4f3_121 : decode cJ2_getChars_ba4f3 121 = .ok (.iload 5, 2) := by decide +kernel
theorem dJ2_getChars_ba4f3_123 : decode cJ2_getChars_ba4f3 123 = .ok (.bipush 45, 2) := by decide +kernel
theorem dJ2_getChars_ba4f3_125 : decode cJ2_getChars_ba4f3 125 = .ok (.invokestatic 111, 3) := by decide +kernel
theorem dJ2_getChars_ba4f3_128 : decode cJ2_getChars_ba4f3 128 = .ok (.iload 5, 2) := by decide +kernel
theorem dJ2_getChars_ba4f3_130 : decode cJ2_getChars_ba4f3 130 = .ok (.ireturn, 1) := by decide +kernel
theorem dJ2_checkIndex_2214a_0 : decode cJ2_checkIndex_2214a 0 = .ok (.iload_n 0, 1) := by decide +kernel
theorem dJ2_checkIndex_2214a_1 : decode cJ2_checkIndex_2214a 1 = .ok (.aload_n 1, 1) := by decide +kernel
theorem dJ2_checkIndex_2214a_2 : decode cJ2_checkIndex_2214a 2 = .ok (.invokestatic 48, 3) := by decide +kernel
theorem dJ2_checkIndex_2214a_5 : decode cJ2_checkIndex_2214a 5 = .ok (.invokestatic 414, 3) := by decide +kernel
theorem dJ2_checkIndex_2214a_8 : decode cJ2_checkIndex_2214a 8 = .ok (.return_, 1) := by decide +kernel
theorem dJ2_checkBoundsBeginEnd_d044e_0 : decode cJ2_checkBoundsBeginEnd_d044e 0 = .ok (.iload_n 0, 1) := by decide +kernel
theorem dJ2_checkBoundsBeginEnd_d044e_1 : decode cJ2_checkBoundsBeginEnd_d044e 1 = .ok (.iload_n 1, 1) := by decide +kernel
theorem dJ2_checkBoundsBeginEnd_d044e_2 : decode cJ2_checkBoundsBeginEnd_d044e 2 = .ok (.aload_n 2, 1) := by decide +kernel
theorem dJ2_checkBoundsBeginEnd_d044e_3 : decode cJ2_checkBoundsBeginEnd_d044e 3 = .ok (.invokestatic 48, 3) := by decide +kernel
theorem dJ2_checkBoundsBeginEnd_d044e_6 : decode cJ2_checkBoundsBeginEnd_d044e 6 = .ok (.invokestatic 241, 3) := by decide +kernel
theorem dJ2_checkBoundsBeginEnd_d044e_9 : decode cJ2_checkBoundsBeginEnd_d044e 9 = .ok (.return_, 1) := by decide +kernel
theorem dJ2_checkBoundsOffCount_d044e_0 : decode cJ2_checkBoundsOffCount_d044e 0 = .ok (.iload_n 0, 1) := by decide +kernel
theorem dJ2_checkBoundsOffCount_d044e_1 : decode cJ2_checkBoundsOffCount_d044e 1 = .ok (.iload_n 1, 1) := by decide +kernel
theorem dJ2_checkBoundsOffCount_d044e_2 : decode cJ2_checkBoundsOffCount_d044e 2 = .ok (.aload_n 2, 1) := by decide +kernel
theorem dJ2_checkBoundsOffCount_d044e_3 : decode cJ2_checkBoundsOffCount_d044e 3 = .ok (.invokestatic 48, 3) := by decide +kernel
theorem dJ2_checkBoundsOffCount_d044e_6 : decode cJ2_checkBoundsOffCount_d044e 6 = .ok (.invokestatic 419, 3) := by decide +kernel
theorem dJ2_checkBoundsOffCount_d044e_9 : decode cJ2_checkBoundsOffCount_d044e 9 = .ok (.pop, 1) := by decide +kernel
theorem dJ2_checkBoundsOffCount_d044e_10 : decode cJ2_checkBoundsOffCount_d044e 10 = .ok (.return_, 1) := by decide +kernel
theorem dJxa1e45_init_da8c8_0 : decode cJxa1e45_init_da8c8 0 = .ok (.aload_n 0, 1) := by decide +kernel
theorem dJxa1e45_init_da8c8_1 : decode cJxa1e45_init_da8c8 1 = .ok (.invokespecial 1, 3) := by decide +kernel
theorem dJxa1e45_init_da8c8_4 : decode cJxa1e45_init_da8c8 4 = .ok (.return_, 1) := by decide +kernel
theorem dJxc12de_init_da8c8_0 : decode cJxc12de_init_da8c8 0 = .ok (.aload_n 0, 1) := by decide +kernel
theorem dJxc12de_init_da8c8_1 : decode cJxc12de_init_da8c8 1 = .ok (.invokespecial 1, 3) := by decide +kernel
theorem dJxc12de_init_da8c8_4 : decode cJxc12de_init_da8c8 4 = .ok (.aload_n 0, 1) := by decide +kernel
theorem dJxc12de_init_da8c8_5 : decode cJxc12de_init_da8c8 5 = .ok (.iconst 0, 1) := by decide +kernel
theorem dJxc12de_init_da8c8_6 : decode cJxc12de_init_da8c8 6 = .ok (.putfield 7, 3) := by decide +kernel
theorem dJxc12de_init_da8c8_9 : decode cJxc12de_init_da8c8 9 = .ok (.return_, 1) := by decide +kernel
theorem dJx35411_init_45d68_0 : decode cJx35411_init_45d68 0 = .ok (.aload_n 0, 1) := by decide +kernel
theorem dJx35411_init_45d68_1 : decode cJx35411_init_45d68 1 = .ok (.aload_n 1, 1) := by decide +kernel
theorem dJx35411_init_45d68_2 : decode cJx35411_init_45d68 2 = .ok (.putfield 1, 3) := by decide +kernel
theorem dJx35411_init_45d68_5 : decode cJx35411_init_45d68 5 = .ok (.aload_n 0, 1) := by decide +kernel
theorem dJx35411_init_45d68_6 : decode cJx35411_init_45d68 6 = .ok (.invokespecial 7, 3) := by decide +kernel
theorem dJx35411_init_45d68_9 : decode cJx35411_init_45d68 9 = .ok (.aload_n 0, 1) := by decide +kernel
theorem dJx35411_init_45d68_10 : decode cJx35411_init_45d68 10 = .ok (.iconst (-1), 1) := by decide +kernel
theorem dJx35411_init_45d68_11 : decode cJx35411_init_45d68 11 = .ok (.putfield 13, 3) := by decide +kernel
theorem dJx35411_init_45d68_14 : decode cJx35411_init_45d68 14 = .ok (.aload_n 0, 1) := by decide +kernel
theorem dJx35411_init_45d68_15 : decode cJx35411_init_45d68 15 = .ok (.aload_n 0, 1) := by decide +kernel
theorem dJx35411_init_45d68_16 : decode cJx35411_init_45d68 16 = .ok (.getfield 1, 3) := by decide +kernel
theorem dJx35411_init_45d68_19 : decode cJx35411_init_45d68 19 = .ok (.getfield 17, 3) := by decide +kernel
theorem dJx35411_init_45d68_22 : decode cJx35411_init_45d68 22 = .ok (.putfield 22, 3) := by decide +kernel
theorem dJx35411_init_45d68_25 : decode cJx35411_init_45d68 25 = .ok (.return_, 1) := by decide +kernel
theorem dJx35411_hasNext_aae02_0 : decode cJx35411_hasNext_aae02 0 = .ok (.aload_n 0, 1) := by decide +kernel
theorem dJx35411_hasNext_aae02_1 : decode cJx35411_hasNext_aae02 1 = .ok (.getfield 25, 3) := by decide +kernel
theorem dJx35411_hasNext_aae02_4 : decode cJx35411_hasNext_aae02 4 = .ok (.aload_n 0, 1) := by decide +kernel
theorem dJx35411_hasNext_aae02_5 : decode cJx35411_hasNext_aae02 5 = .ok (.getfield 1, 3) := by decide +kernel
theorem dJx35411_hasNext_aae02_8 : decode cJx35411_hasNext_aae02 8 = .ok (.getfield 28, 3) := by decide +kernel
theorem dJx35411_hasNext_aae02_11 : decode cJx35411_hasNext_aae02 11 = .ok (.if_icmp .eq 7, 3) := by decide +kernel
theorem dJx35411_hasNext_aae02_14 : decode cJx35411_hasNext_aae02 14 = .ok (.iconst 1, 1) := by decide +kernel
theorem dJx35411_hasNext_aae02_15 : decode cJx35411_hasNext_aae02 15 = .ok (.goto 4, 3) := by decide +kernel
theorem dJx35411_hasNext_aae02_18 : decode cJx35411_hasNext_aae02 18 = .ok (.iconst 0, 1) := by decide +kernel
theorem dJx35411_hasNext_aae02_19 : decode cJx35411_hasNext_aae02 19 = .ok (.ireturn, 1) := by decide +kernel
theorem dJx35411_next_0502b_0 : decode cJx35411_next_0502b 0 = .ok (.aload_n 0, 1) := by decide +kernel
theorem dJx35411_next_0502b_1 : decode cJx35411_next_0502b 1 = .ok (.invokevirtual 31, 3) := by decide +kernel
theorem dJx35411_next_0502b_4 : decode cJx35411_next_0502b 4 = .ok (.aload_n 0, 1) := by decide +kernel
theorem dJx35411_next_0502b_5 : decode cJx35411_next_0502b 5 = .ok (.getfield 25, 3) := by decide +kernel
theorem dJx35411_next_0502b_8 : decode cJx35411_next_0502b 8 = .ok (.istore_n 1, 1) := by decide +kernel
theorem dJx35411_next_0502b_9 : decode cJx35411_next_0502b 9 = .ok (.iload_n 1, 1) := by decide +kernel
theorem dJx35411_next_0502b_10 : decode cJx35411_next_0502b 10 = .ok (.aload_n 0, 1) := by decide +kernel
theorem dJx35411_next_0502b_11 : decode cJx35411_next_0502b 11 = .ok (.getfield 1, 3) := by decide +kernel
theorem dJx35411_next_0502b_14 : decode cJx35411_next_0502b 14 = .ok (.getfield 28, 3) := by decide +kernel
theorem dJx35411_next_0502b_17 : decode cJx35411_next_0502b 17 = .ok (.if_icmp .lt 11, 3) := by decide +kernel
theorem dJx35411_next_0502b_20 : decode cJx35411_next_0502b 20 = .ok (.new 34, 3) := by decide +kernel
theorem dJx35411_next_0502b_23 : decode cJx35411_next_0502b 23 = .ok (.dup, 1) := by decide +kernel
theorem dJx35411_next_0502b_24 : decode cJx35411_next_0502b 24 = .ok (.invokespecial 36, 3) := by decide +kernel
theorem dJx35411_next_0502b_27 : decode cJx35411_next_0502b 27 = .ok (.athrow, 1) := by decide +kernel
theorem dJx35411_next_0502b_28 : decode cJx35411_next_0502b 28 = .ok (.aload_n 0, 1) := by decide +kernel
theorem dJx35411_next_0502b_29 : decode cJx35411_next_0502b 29 = .ok (.getfield 1, 3) := by decide +kernel
theorem dJx35411_next_0502b_32 : decode cJx35411_next_0502b 32 = .ok (.getfield 37, 3) := by decide +kernel
theorem dJx35411_next_0502b_35 : decode cJx35411_next_0502b 35 = .ok (.astore_n 2, 1) := by decide +kernel
theorem dJx35411_next_0502b_36 : decode cJx35411_next_0502b 36 = .ok (.iload_n 1, 1) := by decide +kernel
theorem dJx35411_next_0502b_37 : decode cJx35411_next_0502b 37 = .ok (.aload_n 2, 1) := by decide +kernel
theorem dJx35411_next_0502b_38 : decode cJx35411_next_0502b 38 = .ok (.arraylength, 1) := by decide +kernel
theorem dJx35411_next_0502b_39 : decode cJx35411_next_0502b 39 = .ok (.if_icmp .lt 11, 3) := by decide +kernel
theorem dJx35411_next_0502b_42 : decode cJx35411_next_0502b 42 = .ok (.new 41, 3) := by decide +kernel
theorem dJx35411_next_0502b_45 : decode cJx35411_next_0502b 45 = .ok (.dup, 1) := by decide +kernel
theorem dJx35411_next_0502b_46 : decode cJx35411_next_0502b 46 = .ok (.invokespecial 43, 3) := by decide +kernel
theorem dJx35411_next_0502b_49 : decode cJx35411_next_0502b 49 = .ok (.athrow, 1) := by decide +kernel
theorem dJx35411_next_0502b_50 : decode cJx35411_next_0502b 50 = .ok (.aload_n 0, 1) := by decide +kernel
theorem dJx35411_next_0502b_51 : decode cJx35411_next_0502b 51 = .ok (.iload_n 1, 1) := by decide +kernel
theorem dJx35411_next_0502b_52 : decode cJx35411_next_0502b 52 = .ok (.iconst 1, 1) := by decide +kernel
theorem dJx35411_next_0502b_53 : decode cJx35411_next_0502b 53 = .ok (.iadd, 1) := by decide +kernel
theorem dJx35411_next_0502b_54 : decode cJx35411_next_0502b 54 = .ok (.putfield 25, 3) := by decide +kernel
theorem dJx35411_next_0502b_57 : decode cJx35411_next_0502b 57 = .ok (.aload_n 2, 1) := by decide +kernel
theorem dJx35411_next_0502b_58 : decode cJx35411_next_0502b 58 = .ok (.aload_n 0, 1) := by decide +kernel
theorem dJx35411_next_0502b_59 : decode cJx35411_next_0502b 59 = .ok (.iload_n 1, 1) := by decide +kernel
theorem dJx35411_next_0502b_60 : decode cJx35411_next_0502b 60 = .ok (.dup_x1, 1) := by decide +kernel
theorem dJx35411_next_0502b_61 : decode cJx35411_next_0502b 61 = .ok (.putfield 13, 3) := by decide +kernel
theorem dJx35411_next_0502b_64 : decode cJx35411_next_0502b 64 = .ok (.aaload, 1) := by decide +kernel
theorem dJx35411_next_0502b_65 : decode cJx35411_next_0502b 65 = .ok (.areturn, 1) := by decide +kernel
theorem dJx35411_checkForComodification_da8c8_0 : decode cJx35411_checkForComodification_da8c8 0 = .ok (.aload_n 0, 1) := by decide +kernel
theorem dJx35411_checkForComodification_da8c8_1 : decode cJx35411_checkForComodification_da8c8 1 = .ok (.getfield 1, 3) := by decide +kernel
theorem dJx35411_checkForComodification_da8c8_4 : decode cJx35411_checkForComodification_da8c8 4 = .ok (.getfield 17, 3) := by decide +kernel
theorem dJx35411_checkForComodification_da8c8_7 : decode cJx35411_checkForComodification_da8c8 7 = .ok (.aload_n 0, 1) := by decide +kernel
theorem dJx35411_checkForComodification_da8c8_8 : decode cJx35411_checkForComodification_da8c8 8 = .ok (.getfield 22, 3) := by decide +kernel
theorem dJx35411_checkForComodification_da8c8_11 : decode cJx35411_checkForComodification_da8c8 11 = .ok (.if_icmp .eq 11, 3) := by decide +kernel
theorem dJx35411_checkForComodification_da8c8_14 : decode cJx35411_checkForComodification_da8c8 14 = .ok (.new 41, 3) := by decide +kernel
theorem dJx35411_checkForComodification_da8c8_17 : decode cJx35411_checkForComodification_da8c8 17 = .ok (.dup, 1) := by decide +kernel
theorem dJx35411_checkForComodification_da8c8_18 : decode cJx35411_checkForComodification_da8c8 18 = .ok (.invokespecial 43, 3) := by decide +kernel
theorem dJx35411_checkForComodification_da8c8_21 : decode cJx35411_checkForComodification_da8c8 21 = .ok (.athrow, 1) := by decide +kernel
theorem dJx35411_checkForComodification_da8c8_22 : decode cJx35411_checkForComodification_da8c8 22 = .ok (.return_, 1) := by decide +kernel
theorem dJx4a65c_init_da8c8_0 : decode cJx4a65c_init_da8c8 0 = .ok (.aload_n 0, 1) := by decide +kernel
theorem dJx4a65c_init_da8c8_1 : decode cJx4a65c_init_da8c8 1 = .ok (.invokespecial 1, 3) := by decide +kernel
theorem dJx4a65c_init_da8c8_4 : decode cJx4a65c_init_da8c8 4 = .ok (.aload_n 0, 1) := by decide +kernel
theorem dJx4a65c_init_da8c8_5 : decode cJx4a65c_init_da8c8 5 = .ok (.getstatic 39, 3) := by decide +kernel
theorem dJx4a65c_init_da8c8_8 : decode cJx4a65c_init_da8c8 8 = .ok (.putfield 9, 3) := by decide +kernel
theorem dJx4a65c_init_da8c8_11 : decode cJx4a65c_init_da8c8 11 = .ok (.return_, 1) := by decide +kernel
theorem dJx4a65c_grow_92f84_0 : decode cJx4a65c_grow_92f84 0 = .ok (.aload_n 0, 1) := by decide +kernel
theorem dJx4a65c_grow_92f84_1 : decode cJx4a65c_grow_92f84 1 = .ok (.getfield 9, 3) := by decide +kernel
theorem dJx4a65c_grow_92f84_4 : decode cJx4a65c_grow_92f84 4 = .ok (.arraylength, 1) := by decide +kernel
theorem dJx4a65c_grow_92f84_5 : decode cJx4a65c_grow_92f84 5 = .ok (.istore_n 2, 1) := by decide +kernel
theorem dJx4a65c_grow_92f84_6 : decode cJx4a65c_grow_92f84 6 = .ok (.iload_n 2, 1) := by decide +kernel
theorem dJx4a65c_grow_92f84_7 : decode cJx4a65c_grow_92f84 7 = .ok (.ifCond .gt 13, 3) := by decide +kernel
theorem dJx4a65c_grow_92f84_10 : decode cJx4a65c_grow_92f84 10 = .ok (.aload_n 0, 1) := by decide +kernel
theorem dJx4a65c_grow_92f84_11 : decode cJx4a65c_grow_92f84 11 = .ok (.getfield 9, 3) := by decide +kernel
theorem dJx4a65c_grow_92f84_14 : decode cJx4a65c_grow_92f84 14 = .ok (.getstatic 39, 3) := by decide +kernel
theorem dJx4a65c_grow_92f84_17 : decode cJx4a65c_grow_92f84 17 = .ok (.if_acmp .eq 28, 3) := by decide +kernel
theorem dJx4a65c_grow_92f84_20 : decode cJx4a65c_grow_92f84 20 = .ok (.iload_n 2, 1) := by decide +kernel
theorem dJx4a65c_grow_92f84_21 : decode cJx4a65c_grow_92f84 21 = .ok (.iload_n 1, 1) := by decide +kernel
theorem dJx4a65c_grow_92f84_22 : decode cJx4a65c_grow_92f84 22 = .ok (.iload_n 2, 1) := by decide +kernel
theorem dJx4a65c_grow_92f84_23 : decode cJx4a65c_grow_92f84 23 = .ok (.isub, 1) := by decide +kernel
theorem dJx4a65c_grow_92f84_24 : decode cJx4a65c_grow_92f84 24 = .ok (.iload_n 2, 1) := by decide +kernel
theorem dJx4a65c_grow_92f84_25 : decode cJx4a65c_grow_92f84 25 = .ok (.iconst 1, 1) := by decide +kernel
theorem dJx4a65c_grow_92f84_26 : decode cJx4a65c_grow_92f84 26 = .ok (.ishr, 1) := by decide +kernel
theorem dJx4a65c_grow_92f84_27 : decode cJx4a65c_grow_92f84 27 = .ok (.invokestatic 73, 3) := by decide +kernel
theorem dJx4a65c_grow_92f84_30 : decode cJx4a65c_grow_92f84 30 = .ok (.istore_n 3, 1) := by decide +kernel
theorem dJx4a65c_grow_92f84_31 : decode cJx4a65c_grow_92f84 31 = .ok (.aload_n 0, 1) := by decide +kernel
theorem dJx4a65c_grow_92f84_32 : decode cJx4a65c_grow_92f84 32 = .ok (.aload_n 0, 1) := by decide +kernel
theorem dJx4a65c_grow_92f84_33 : decode cJx4a65c_grow_92f84 33 = .ok (.getfield 9, 3) := by decide +kernel
theorem dJx4a65c_grow_92f84_36 : decode cJx4a65c_grow_92f84 36 = .ok (.iload_n 3, 1) := by decide +kernel
theorem dJx4a65c_grow_92f84_37 : decode cJx4a65c_grow_92f84 37 = .ok (.invokestatic 66, 3) := by decide +kernel
theorem dJx4a65c_grow_92f84_40 : decode cJx4a65c_grow_92f84 40 = .ok (.dup_x1, 1) := by decide +kernel
theorem dJx4a65c_grow_92f84_41 : decode cJx4a65c_grow_92f84 41 = .ok (.putfield 9, 3) := by decide +kernel
theorem dJx4a65c_grow_92f84_44 : decode cJx4a65c_grow_92f84 44 = .ok (.areturn, 1) := by decide +kernel
theorem dJx4a65c_grow_92f84_45 : decode cJx4a65c_grow_92f84 45 = .ok (.aload_n 0, 1) := by decide +kernel
theorem dJx4a65c_grow_92f84_46 : decode cJx4a65c_grow_92f84 46 = .ok (.bipush 10, 2) := by decide +kernel
theorem dJx4a65c_grow_92f84_48 : decode cJx4a65c_grow_92f84 48 = .ok (.iload_n 1, 1) := by decide +kernel
theorem dJx4a65c_grow_92f84_49 : decode cJx4a65c_grow_92f84 49 = .ok (.invokestatic 79, 3) := by decide +kernel
theorem dJx4a65c_grow_92f84_52 : decode cJx4a65c_grow_92f84 52 = .ok (.anewarray 7, 3) := by decide +kernel
theorem dJx4a65c_grow_92f84_55 : decode cJx4a65c_grow_92f84 55 = .ok (.dup_x1, 1) := by decide +kernel
theorem dJx4a65c_grow_92f84_56 : decode cJx4a65c_grow_92f84 56 = .ok (.putfield 9, 3) := by decide +kernel
theorem dJx4a65c_grow_92f84_59 : decode cJx4a65c_grow_92f84 59 = .ok (.areturn, 1) := by decide +kernel
theorem dJx4a65c_grow_d5877_0 : decode cJx4a65c_grow_d5877 0 = .ok (.aload_n 0, 1) := by decide +kernel
theorem dJx4a65c_grow_d5877_1 : decode cJx4a65c_grow_d5877 1 = .ok (.aload_n 0, 1) := by decide +kernel
theorem dJx4a65c_grow_d5877_2 : decode cJx4a65c_grow_d5877 2 = .ok (.getfield 48, 3) := by decide +kernel
theorem dJx4a65c_grow_d5877_5 : decode cJx4a65c_grow_d5877 5 = .ok (.iconst 1, 1) := by decide +kernel
theorem dJx4a65c_grow_d5877_6 : decode cJx4a65c_grow_d5877 6 = .ok (.iadd, 1) := by decide +kernel
theorem dJx4a65c_grow_d5877_7 : decode cJx4a65c_grow_d5877 7 = .ok (.invokevirtual 69, 3) := by decide +kernel
theorem dJx4a65c_grow_d5877_10 : decode cJx4a65c_grow_d5877 10 = .ok (.areturn, 1) := by decide +kernel
theorem dJx4a65c_size_8abf5_0 : decode cJx4a65c_size_8abf5 0 = .ok (.aload_n 0, 1) := by decide +kernel
theorem dJx4a65c_size_8abf5_1 : decode cJx4a65c_size_8abf5 1 = .ok (.getfield 48, 3) := by decide +kernel
theorem dJx4a65c_size_8abf5_4 : decode cJx4a65c_size_8abf5 4 = .ok (.ireturn, 1) := by decide +kernel
theorem dJx4a65c_isEmpty_aae02_0 : decode cJx4a65c_isEmpty_aae02 0 = .ok (.aload_n 0, 1) := by decide +kernel
theorem dJx4a65c_isEmpty_aae02_1 : decode cJx4a65c_isEmpty_aae02 1 = .ok (.getfield 48, 3) := by decide +kernel
theorem dJx4a65c_isEmpty_aae02_4 : decode cJx4a65c_isEmpty_aae02 4 = .ok (.ifCond .ne 7, 3) := by decide +kernel
theorem dJx4a65c_isEmpty_aae02_7 : decode cJx4a65c_isEmpty_aae02 7 = .ok (.iconst 1, 1) := by decide +kernel
theorem dJx4a65c_isEmpty_aae02_8 : decode cJx4a65c_isEmpty_aae02 8 = .ok (.goto 4, 3) := by decide +kernel
theorem dJx4a65c_isEmpty_aae02_11 : decode cJx4a65c_isEmpty_aae02 11 = .ok (.iconst 0, 1) := by decide +kernel
theorem dJx4a65c_isEmpty_aae02_12 : decode cJx4a65c_isEmpty_aae02 12 = .ok (.ireturn, 1) := by decide +kernel
theorem dJx4a65c_elementData_915e3_0 : decode cJx4a65c_elementData_915e3 0 = .ok (.aload_n 0, 1) := by decide +kernel
theorem dJx4a65c_elementData_915e3_1 : decode cJx4a65c_elementData_915e3 1 = .ok (.getfield 9, 3) := by decide +kernel
theorem dJx4a65c_elementData_915e3_4 : decode cJx4a65c_elementData_915e3 4 = .ok (.iload_n 1, 1) := by decide +kernel
theorem dJx4a65c_elementData_915e3_5 : decode cJx4a65c_elementData_915e3 5 = .ok (.aaload, 1) := by decide +kernel
theorem dJx4a65c_elementData_915e3_6 : decode cJx4a65c_elementData_915e3 6 = .ok (.areturn, 1) := by decide +kernel
theorem dJx4a65c_get_915e3_0 : decode cJx4a65c_get_915e3 0 = .ok (.iload_n 1, 1) := by decide +kernel
theorem dJx4a65c_get_915e3_1 : decode cJx4a65c_get_915e3 1 = .ok (.aload_n 0, 1) := by decide +kernel
theorem dJx4a65c_get_915e3_2 : decode cJx4a65c_get_915e3 2 = .ok (.getfield 48, 3) := by decide +kernel
theorem dJx4a65c_get_915e3_5 : decode cJx4a65c_get_915e3 5 = .ok (.invokestatic 118, 3) := by decide +kernel
theorem dJx4a65c_get_915e3_8 : decode cJx4a65c_get_915e3 8 = .ok (.pop, 1) := by decide +kernel
theorem dJx4a65c_get_915e3_9 : decode cJx4a65c_get_915e3 9 = .ok (.aload_n 0, 1) := by decide +kernel
theorem dJx4a65c_get_915e3_10 : decode cJx4a65c_get_915e3 10 = .ok (.iload_n 1, 1) := by decide +kernel
theorem dJx4a65c_get_915e3_11 : decode cJx4a65c_get_915e3 11 = .ok (.invokevirtual 123, 3) := by decide +kernel
theorem dJx4a65c_get_915e3_14 : decode cJx4a65c_get_915e3 14 = .ok (.areturn, 1) := by decide +kernel
theorem dJx4a65c_add_72be8_0 : decode cJx4a65c_add_72be8 0 = .ok (.iload_n 3, 1) := by decide +kernel
theorem dJx4a65c_add_72be8_1 : decode cJx4a65c_add_72be8 1 = .ok (.aload_n 2, 1) := by decide +kernel
theorem dJx4a65c_add_72be8_2 : decode cJx4a65c_add_72be8 2 = .ok (.arraylength, 1) := by decide +kernel
theorem dJx4a65c_add_72be8_3 : decode cJx4a65c_add_72be8 3 = .ok (.if_icmp .ne 8, 3) := by decide +kernel
theorem dJx4a65c_add_72be8_6 : decode cJx4a65c_add_72be8 6 = .ok (.aload_n 0, 1) := by decide +kernel
theorem dJx4a65c_add_72be8_7 : decode cJx4a65c_add_72be8 7 = .ok (.invokevirtual 129, 3) := by decide +kernel
theorem dJx4a65c_add_72be8_10 : decode cJx4a65c_add_72be8 10 = .ok (.astore_n 2, 1) := by decide +kernel
theorem dJx4a65c_add_72be8_11 : decode cJx4a65c_add_72be8 11 = .ok (.aload_n 2, 1) := by decide +kernel
theorem dJx4a65c_add_72be8_12 : decode cJx4a65c_add_72be8 12 = .ok (.iload_n 3, 1) := by decide +kernel
theorem dJx4a65c_add_72be8_13 : decode cJx4a65c_add_72be8 13 = .ok (.aload_n 1, 1) := by decide +kernel
theorem dJx4a65c_add_72be8_14 : decode cJx4a65c_add_72be8 14 = .ok (.aastore, 1) := by decide +kernel
theorem dJx4a65c_add_72be8_15 : decode cJx4a65c_add_72be8 15 = .ok (.aload_n 0, 1) := by decide +kernel
theorem dJx4a65c_add_72be8_16 : decode cJx4a65c_add_72be8 16 = .ok (.iload_n 3, 1) := by decide +kernel
theorem dJx4a65c_add_72be8_17 : decode cJx4a65c_add_72be8 17 = .ok (.iconst 1, 1) := by decide +kernel
theorem dJx4a65c_add_72be8_18 : decode cJx4a65c_add_72be8 18 = .ok (.iadd, 1) := by decide +kernel
theorem dJx4a65c_add_72be8_19 : decode cJx4a65c_add_72be8 19 = .ok (.putfield 48, 3) := by decide +kernel
theorem dJx4a65c_add_72be8_22 : decode cJx4a65c_add_72be8 22 = .ok (.return_, 1) := by decide +kernel
theorem dJx4a65c_add_9ea2d_0 : decode cJx4a65c_add_9ea2d 0 = .ok (.aload_n 0, 1) := by decide +kernel
theorem dJx4a65c_add_9ea2d_1 : decode cJx4a65c_add_9ea2d 1 = .ok (.dup, 1) := by decide +kernel
theorem dJx4a65c_add_9ea2d_2 : decode cJx4a65c_add_9ea2d 2 = .ok (.getfield 63, 3) := by decide +kernel
theorem dJx4a65c_add_9ea2d_5 : decode cJx4a65c_add_9ea2d 5 = .ok (.iconst 1, 1) := by decide +kernel
theorem dJx4a65c_add_9ea2d_6 : decode cJx4a65c_add_9ea2d 6 = .ok (.iadd, 1) := by decide +kernel
theorem dJx4a65c_add_9ea2d_7 : decode cJx4a65c_add_9ea2d 7 = .ok (.putfield 63, 3) := by decide +kernel
theorem dJx4a65c_add_9ea2d_10 : decode cJx4a65c_add_9ea2d 10 = .ok (.aload_n 0, 1) := by decide +kernel
theorem dJx4a65c_add_9ea2d_11 : decode cJx4a65c_add_9ea2d 11 = .ok (.aload_n 1, 1) := by decide +kernel
theorem dJx4a65c_add_9ea2d_12 : decode cJx4a65c_add_9ea2d 12 = .ok (.aload_n 0, 1) := by decide +kernel
theorem dJx4a65c_add_9ea2d_13 : decode cJx4a65c_add_9ea2d 13 = .ok (.getfield 9, 3) := by decide +kernel
theorem dJx4a65c_add_9ea2d_16 : decode cJx4a65c_add_9ea2d 16 = .ok (.aload_n 0, 1) := by decide +kernel
theorem dJx4a65c_add_9ea2d_17 : decode cJx4a65c_add_9ea2d 17 = .ok (.getfield 48, 3) := by decide +kernel
theorem dJx4a65c_add_9ea2d_20 : decode cJx4a65c_add_9ea2d 20 = .ok (.invokevirtual 131, 3) := by decide +kernel
theorem dJx4a65c_add_9ea2d_23 : decode cJx4a65c_add_9ea2d 23 = .ok (.iconst 1, 1) := by decide +kernel
theorem dJx4a65c_add_9ea2d_24 : decode cJx4a65c_add_9ea2d 24 = .ok (.ireturn, 1) := by decide +kernel
theorem dJx4a65c_remove_915e3_0 : decode cJx4a65c_remove_915e3 0 = .ok (.iload_n 1, 1) := by decide +kernel
theorem dJx4a65c_remove_915e3_1 : decode cJx4a65c_remove_915e3 1 = .ok (.aload_n 0, 1) := by decide +kernel
theorem dJx4a65c_remove_915e3_2 : decode cJx4a65c_remove_915e3 2 = .ok (.getfield 48, 3) := by decide +kernel
theorem dJx4a65c_remove_915e3_5 : decode cJx4a65c_remove_915e3 5 = .ok (.invokestatic 118, 3) := by decide +kernel
theorem dJx4a65c_remove_915e3_8 : decode cJx4a65c_remove_915e3 8 = .ok (.pop, 1) := by decide +kernel
theorem dJx4a65c_remove_915e3_9 : decode cJx4a65c_remove_915e3 9 = .ok (.aload_n 0, 1) := by decide +kernel
theorem dJx4a65c_remove_915e3_10 : decode cJx4a65c_remove_915e3 10 = .ok (.getfield 9, 3) := by decide +kernel
theorem dJx4a65c_remove_915e3_13 : decode cJx4a65c_remove_915e3 13 = .ok (.astore_n 2, 1) := by decide +kernel
theorem dJx4a65c_remove_915e3_14 : decode cJx4a65c_remove_915e3 14 = .ok (.aload_n 2, 1) := by decide +kernel
theorem dJx4a65c_remove_915e3_15 : decode cJx4a65c_remove_915e3 15 = .ok (.iload_n 1, 1) := by decide +kernel
theorem dJx4a65c_remove_915e3_16 : decode cJx4a65c_remove_915e3 16 = .ok (.aaload, 1) := by decide +kernel
theorem dJx4a65c_remove_915e3_17 : decode cJx4a65c_remove_915e3 17 = .ok (.astore_n 3, 1) := by decide +kernel
theorem dJx4a65c_remove_915e3_18 : decode cJx4a65c_remove_915e3 18 = .ok (.aload_n 0, 1) := by decide +kernel
theorem dJx4a65c_remove_915e3_19 : decode cJx4a65c_remove_915e3 19 = .ok (.aload_n 2, 1) := by decide +kernel
theorem dJx4a65c_remove_915e3_20 : decode cJx4a65c_remove_915e3 20 = .ok (.iload_n 1, 1) := by decide +kernel
theorem dJx4a65c_remove_915e3_21 : decode cJx4a65c_remove_915e3 21 = .ok (.invokevirtual 144, 3) := by decide +kernel
theorem dJx4a65c_remove_915e3_24 : decode cJx4a65c_remove_915e3 24 = .ok (.aload_n 3, 1) := by decide +kernel
theorem dJx4a65c_remove_915e3_25 : decode cJx4a65c_remove_915e3 25 = .ok (.areturn, 1) := by decide +kernel
theorem dJx4a65c_fastRemove_b59b0_0 : decode cJx4a65c_fastRemove_b59b0 0 = .ok (.aload_n 0, 1) := by decide +kernel
theorem dJx4a65c_fastRemove_b59b0_1 : decode cJx4a65c_fastRemove_b59b0 1 = .ok (.dup, 1) := by decide +kernel
theorem dJx4a65c_fastRemove_b59b0_2 : decode cJx4a65c_fastRemove_b59b0 2 = .ok (.getfield 63, 3) := by decide +kernel
theorem dJx4a65c_fastRemove_b59b0_5 : decode cJx4a65c_fastRemove_b59b0 5 = .ok (.iconst 1, 1) := by decide +kernel
theorem dJx4a65c_fastRemove_b59b0_6 : decode cJx4a65c_fastRemove_b59b0 6 = .ok (.iadd, 1) := by decide +kernel
theorem dJx4a65c_fastRemove_b59b0_7 : decode cJx4a65c_fastRemove_b59b0 7 = .ok (.putfield 63, 3) := by decide +kernel
theorem dJx4a65c_fastRemove_b59b0_10 : decode cJx4a65c_fastRemove_b59b0 10 = .ok (.aload_n 0, 1) := by decide +kernel
theorem dJx4a65c_fastRemove_b59b0_11 : decode cJx4a65c_fastRemove_b59b0 11 = .ok (.getfield 48, 3) := by decide +kernel
theorem dJx4a65c_fastRemove_b59b0_14 : decode cJx4a65c_fastRemove_b59b0 14 = .ok (.iconst 1, 1) := by decide +kernel
theorem dJx4a65c_fastRemove_b59b0_15 : decode cJx4a65c_fastRemove_b59b0 15 = .ok (.isub, 1) := by decide +kernel
theorem dJx4a65c_fastRemove_b59b0_16 : decode cJx4a65c_fastRemove_b59b0 16 = .ok (.dup, 1) := by decide +kernel
theorem dJx4a65c_fastRemove_b59b0_17 : decode cJx4a65c_fastRemove_b59b0 17 = .ok (.istore_n 3, 1) := by decide +kernel
theorem dJx4a65c_fastRemove_b59b0_18 : decode cJx4a65c_fastRemove_b59b0 18 = .ok (.iload_n 2, 1) := by decide +kernel
theorem dJx4a65c_fastRemove_b59b0_19 : decode cJx4a65c_fastRemove_b59b0 19 = .ok (.if_icmp .le 15, 3) := by decide +kernel
theorem dJx4a65c_fastRemove_b59b0_22 : decode cJx4a65c_fastRemove_b59b0 22 = .ok (.aload_n 1, 1) := by decide +kernel
theorem dJx4a65c_fastRemove_b59b0_23 : decode cJx4a65c_fastRemove_b59b0 23 = .ok (.iload_n 2, 1) := by decide +kernel
theorem dJx4a65c_fastRemove_b59b0_24 : decode cJx4a65c_fastRemove_b59b0 24 = .ok (.iconst 1, 1) := by decide +kernel
theorem dJx4a65c_fastRemove_b59b0_25 : decode cJx4a65c_fastRemove_b59b0 25 = .ok (.iadd, 1) := by decide +kernel
theorem dJx4a65c_fastRemove_b59b0_26 : decode cJx4a65c_fastRemove_b59b0 26 = .ok (.aload_n 1, 1) := by decide +kernel
theorem dJx4a65c_fastRemove_b59b0_27 : decode cJx4a65c_fastRemove_b59b0 27 = .ok (.iload_n 2, 1) := by decide +kernel
theorem dJx4a65c_fastRemove_b59b0_28 : decode cJx4a65c_fastRemove_b59b0 28 = .ok (.iload_n 3, 1) := by decide +kernel
theorem dJx4a65c_fastRemove_b59b0_29 : decode cJx4a65c_fastRemove_b59b0 29 = .ok (.iload_n 2, 1) := by decide +kernel
theorem dJx4a65c_fastRemove_b59b0_30 : decode cJx4a65c_fastRemove_b59b0 30 = .ok (.isub, 1) := by decide +kernel
theorem dJx4a65c_fastRemove_b59b0_31 : decode cJx4a65c_fastRemove_b59b0 31 = .ok (.invokestatic 112, 3) := by decide +kernel
theorem dJx4a65c_fastRemove_b59b0_34 : decode cJx4a65c_fastRemove_b59b0 34 = .ok (.aload_n 1, 1) := by decide +kernel
theorem dJx4a65c_fastRemove_b59b0_35 : decode cJx4a65c_fastRemove_b59b0 35 = .ok (.aload_n 0, 1) := by decide +kernel
theorem dJx4a65c_fastRemove_b59b0_36 : decode cJx4a65c_fastRemove_b59b0 36 = .ok (.iload_n 3, 1) := by decide +kernel
theorem dJx4a65c_fastRemove_b59b0_37 : decode cJx4a65c_fastRemove_b59b0 37 = .ok (.dup_x1, 1) := by decide +kernel
theorem dJx4a65c_fastRemove_b59b0_38 : decode cJx4a65c_fastRemove_b59b0 38 = .ok (.putfield 48, 3) := by decide +kernel
theorem dJx4a65c_fastRemove_b59b0_41 : decode cJx4a65c_fastRemove_b59b0 41 = .ok (.aconst_null, 1) := by decide +kernel
theorem dJx4a65c_fastRemove_b59b0_42 : decode cJx4a65c_fastRemove_b59b0 42 = .ok (.aastore, 1) := by decide +kernel
theorem dJx4a65c_fastRemove_b59b0_43 : decode cJx4a65c_fastRemove_b59b0 43 = .ok (.return_, 1) := by decide +kernel
theorem dJx4a65c_iterator_32c93_0 : decode cJx4a65c_iterator_32c93 0 = .ok (.new 267, 3) := by decide +kernel
theorem dJx4a65c_iterator_32c93_3 : decode cJx4a65c_iterator_32c93 3 = .ok (.dup, 1) := by decide +kernel
theorem dJx4a65c_iterator_32c93_4 : decode cJx4a65c_iterator_32c93 4 = .ok (.aload_n 0, 1) := by decide +kernel
theorem dJx4a65c_iterator_32c93_5 : decode cJx4a65c_iterator_32c93 5 = .ok (.invokespecial 269, 3) := by decide +kernel
theorem dJx4a65c_iterator_32c93_8 : decode cJx4a65c_iterator_32c93 8 = .ok (.areturn, 1) := by decide +kernel
theorem dJ7_fill_53178_0 : decode cJ7_fill_53178 0 = .ok (.iconst 0, 1) := by decide +kernel
theorem dJ7_fill_53178_1 : decode cJ7_fill_53178 1 = .ok (.istore_n 2, 1) := by decide +kernel
theorem dJ7_fill_53178_2 : decode cJ7_fill_53178 2 = .ok (.aload_n 0, 1) := by decide +kernel
theorem dJ7_fill_53178_3 : decode cJ7_fill_53178 3 = .ok (.arraylength, 1) := by decide +kernel
theorem dJ7_fill_53178_4 : decode cJ7_fill_53178 4 = .ok (.istore_n 3, 1) := by decide +kernel
theorem dJ7_fill_53178_5 : decode cJ7_fill_53178 5 = .ok (.iload_n 2, 1) := by decide +kernel
theorem dJ7_fill_53178_6 : decode cJ7_fill_53178 6 = .ok (.iload_n 3, 1) := by decide +kernel
theorem dJ7_fill_53178_7 : decode cJ7_fill_53178 7 = .ok (.if_icmp .ge 13, 3) := by decide +kernel
theorem dJ7_fill_53178_10 : decode cJ7_fill_53178 10 = .ok (.aload_n 0, 1) := by decide +kernel
theorem dJ7_fill_53178_11 : decode cJ7_fill_53178 11 = .ok (.iload_n 2, 1) := by decide +kernel
theorem dJ7_fill_53178_12 : decode cJ7_fill_53178 12 = .ok (.iload_n 1, 1) := by decide +kernel
theorem dJ7_fill_53178_13 : decode cJ7_fill_53178 13 = .ok (.iastore, 1) := by decide +kernel
theorem dJ7_fill_53178_14 : decode cJ7_fill_53178 14 = .ok (.iinc 2 1, 3) := by decide +kernel
theorem dJ7_fill_53178_17 : decode cJ7_fill_53178 17 = .ok (.goto (-12), 3) := by decide +kernel
theorem dJ7_fill_53178_20 : decode cJ7_fill_53178 20 = .ok (.return_, 1) := by decide +kernel
theorem dJ7_copyOf_1904c_0 : decode cJ7_copyOf_1904c 0 = .ok (.aload_n 0, 1) := by decide +kernel
theorem dJ7_copyOf_1904c_1 : decode cJ7_copyOf_1904c 1 = .ok (.iload_n 1, 1) := by decide +kernel
theorem dJ7_copyOf_1904c_2 : decode cJ7_copyOf_1904c 2 = .ok (.aload_n 0, 1) := by decide +kernel
theorem dJ7_copyOf_1904c_3 : decode cJ7_copyOf_1904c 3 = .ok (.invokevirtual 86, 3) := by decide +kernel
theorem dJ7_copyOf_1904c_6 : decode cJ7_copyOf_1904c 6 = .ok (.invokestatic 300, 3) := by decide +kernel
theorem dJ7_copyOf_1904c_9 : decode cJ7_copyOf_1904c 9 = .ok (.areturn, 1) := by decide +kernel
theorem dJ7_copyOf_6403c_0 : decode cJ7_copyOf_6403c 0 = .ok (.aload_n 2, 1) := by decide +kernel
theorem dJ7_copyOf_6403c_1 : decode cJ7_copyOf_6403c 1 = .ok (.ldc 110, 2) := by decide +kernel
theorem dJ7_copyOf_6403c_3 : decode cJ7_copyOf_6403c 3 = .ok (.if_acmp .ne 10, 3) := by decide +kernel
theorem dJ7_copyOf_6403c_6 : decode cJ7_copyOf_6403c 6 = .ok (.iload_n 1, 1) := by decide +kernel
theorem dJ7_copyOf_6403c_7 : decode cJ7_copyOf_6403c 7 = .ok (.anewarray 2, 3) := by decide +kernel
theorem dJ7_copyOf_6403c_10 : decode cJ7_copyOf_6403c 10 = .ok (.goto 14, 3) := by decide +kernel
theorem dJ7_copyOf_6403c_13 : decode cJ7_copyOf_6403c 13 = .ok (.aload_n 2, 1) := by decide +kernel
theorem dJ7_copyOf_6403c_14 : decode cJ7_copyOf_6403c 14 = .ok (.invokevirtual 90, 3) := by decide +kernel
theorem dJ7_copyOf_6403c_17 : decode cJ7_copyOf_6403c 17 = .ok (.iload_n 1, 1) := by decide +kernel
theorem dJ7_copyOf_6403c_18 : decode cJ7_copyOf_6403c 18 = .ok (.invokestatic 95, 3) := by decide +kernel
theorem dJ7_copyOf_6403c_21 : decode cJ7_copyOf_6403c 21 = .ok (.checkcast 110, 3) := by decide +kernel
theorem dJ7_copyOf_6403c_24 : decode cJ7_copyOf_6403c 24 = .ok (.astore_n 3, 1) := by decide +kernel
theorem dJ7_copyOf_6403c_25 : decode cJ7_copyOf_6403c 25 = .ok (.aload_n 0, 1) := by decide +kernel
theorem dJ7_copyOf_6403c_26 : decode cJ7_copyOf_6403c 26 = .ok (.iconst 0, 1) := by decide +kernel
theorem dJ7_copyOf_6403c_27 : decode cJ7_copyOf_6403c 27 = .ok (.aload_n 3, 1) := by decide +kernel
theorem dJ7_copyOf_6403c_28 : decode cJ7_copyOf_6403c 28 = .ok (.iconst 0, 1) := by decide +kernel
theorem dJ7_copyOf_6403c_29 : decode cJ7_copyOf_6403c 29 = .ok (.aload_n 0, 1) := by decide +kernel
theorem dJ7_copyOf_6403c_30 : decode cJ7_copyOf_6403c 30 = .ok (.arraylength, 1) := by decide +kernel
theorem dJ7_copyOf_6403c_31 : decode cJ7_copyOf_6403c 31 = .ok (.iload_n 1, 1) := by decide +kernel
theorem dJ7_copyOf_6403c_32 : decode cJ7_copyOf_6403c 32 = .ok (.invokestatic 304, 3) := by decide +kernel
theorem dJ7_copyOf_6403c_35 : decode cJ7_copyOf_6403c 35 = .ok (.invokestatic 150, 3) := by decide +kernel
theorem dJ7_copyOf_6403c_38 : decode cJ7_copyOf_6403c 38 = .ok (.aload_n 3, 1) := by decide +kernel
theorem dJ7_copyOf_6403c_39 : decode cJ7_copyOf_6403c 39 = .ok (.areturn, 1) := by decide +kernel
theorem dJ7_copyOf_9075b_0 : decode cJ7_copyOf_9075b 0 = .ok (.iload_n 1, 1) := by decide +kernel
theorem dJ7_copyOf_9075b_1 : decode cJ7_copyOf_9075b 1 = .ok (.aload_n 0, 1) := by decide +kernel
theorem dJ7_copyOf_9075b_2 : decode cJ7_copyOf_9075b 2 = .ok (.arraylength, 1) := by decide +kernel
theorem dJ7_copyOf_9075b_3 : decode cJ7_copyOf_9075b 3 = .ok (.if_icmp .ne 11, 3) := by decide +kernel
theorem dJ7_copyOf_9075b_6 : decode cJ7_copyOf_9075b 6 = .ok (.aload_n 0, 1) := by decide +kernel
theorem dJ7_copyOf_9075b_7 : decode cJ7_copyOf_9075b 7 = .ok (.invokevirtual 310, 3) := by decide +kernel
theorem dJ7_copyOf_9075b_10 : decode cJ7_copyOf_9075b 10 = .ok (.checkcast 311, 3) := by decide +kernel
theorem dJ7_copyOf_9075b_13 : decode cJ7_copyOf_9075b 13 = .ok (.areturn, 1) := by decide +kernel
theorem dJ7_copyOf_9075b_14 : decode cJ7_copyOf_9075b 14 = .ok (.iload_n 1, 1) := by decide +kernel
theorem dJ7_copyOf_9075b_15 : decode cJ7_copyOf_9075b 15 = .ok (.newarray .byte, 2) := by decide +kernel
theorem dJ7_copyOf_9075b_17 : decode cJ7_copyOf_9075b 17 = .ok (.astore_n 2, 1) := by decide +kernel
theorem dJ7_copyOf_9075b_18 : decode cJ7_copyOf_9075b 18 = .ok (.aload_n 0, 1) := by decide +kernel
theorem dJ7_copyOf_9075b_19 : decode cJ7_copyOf_9075b 19 = .ok (.iconst 0, 1) := by decide +kernel
theorem dJ7_copyOf_9075b_20 : decode cJ7_copyOf_9075b 20 = .ok (.aload_n 2, 1) := by decide +kernel
theorem dJ7_copyOf_9075b_21 : decode cJ7_copyOf_9075b 21 = .ok (.iconst 0, 1) := by decide +kernel
theorem dJ7_copyOf_9075b_22 : decode cJ7_copyOf_9075b 22 = .ok (.aload_n 0, 1) := by decide +kernel
theorem dJ7_copyOf_9075b_23 : decode cJ7_copyOf_9075b 23 = .ok (.arraylength, 1) := by decide +kernel
theorem dJ7_copyOf_9075b_24 : decode cJ7_copyOf_9075b 24 = .ok (.iload_n 1, 1) := by decide +kernel
theorem dJ7_copyOf_9075b_25 : decode cJ7_copyOf_9075b 25 = .ok (.invokestatic 304, 3) := by decide +kernel
theorem dJ7_copyOf_9075b_28 : decode cJ7_copyOf_9075b 28 = .ok (.invokestatic 150, 3) := by decide +kernel
theorem dJ7_copyOf_9075b_31 : decode cJ7_copyOf_9075b 31 = .ok (.aload_n 2, 1) := by decide +kernel
theorem dJ7_copyOf_9075b_32 : decode cJ7_copyOf_9075b 32 = .ok (.areturn, 1) := by decide +kernel
theorem dJ7_checkLength_df160_0 : decode cJ7_checkLength_df160 0 = .ok (.iload_n 1, 1) := by decide +kernel
theorem dJ7_checkLength_df160_1 : decode cJ7_checkLength_df160 1 = .ok (.iload_n 0, 1) := by decide +kernel
theorem dJ7_checkLength_df160_2 : decode cJ7_checkLength_df160 2 = .ok (.if_icmp .ge 35, 3) := by decide +kernel
theorem dJ7_checkLength_df160_5 : decode cJ7_checkLength_df160 5 = .ok (.new 43, 3) := by decide +kernel
theorem dJ7_checkLength_df160_8 : decode cJ7_checkLength_df160 8 = .ok (.dup, 1) := by decide +kernel
theorem dJ7_checkLength_df160_9 : decode cJ7_checkLength_df160 9 = .ok (.new 45, 3) := by decide +kernel
theorem dJ7_checkLength_df160_12 : decode cJ7_checkLength_df160 12 = .ok (.dup, 1) := by decide +kernel
theorem dJ7_checkLength_df160_13 : decode cJ7_checkLength_df160 13 = .ok (.invokespecial 47, 3) := by decide +kernel
theorem dJ7_checkLength_df160_16 : decode cJ7_checkLength_df160 16 = .ok (.iload_n 0, 1) := by decide +kernel
theorem dJ7_checkLength_df160_17 : decode cJ7_checkLength_df160 17 = .ok (.invokevirtual 54, 3) := by decide +kernel
theorem dJ7_checkLength_df160_20 : decode cJ7_checkLength_df160 20 = .ok (.ldc_w 337, 3) := by decide +kernel
theorem dJ7_checkLength_df160_23 : decode cJ7_checkLength_df160 23 = .ok (.invokevirtual 50, 3) := by decide +kernel
theorem dJ7_checkLength_df160_26 : decode cJ7_checkLength_df160 26 = .ok (.iload_n 1, 1) := by decide +kernel
theorem dJ7_checkLength_df160_27 : decode cJ7_checkLength_df160 27 = .ok (.invokevirtual 54, 3) := by decide +kernel
theorem dJ7_checkLength_df160_30 : decode cJ7_checkLength_df160 30 = .ok (.invokevirtual 61, 3) := by decide +kernel
theorem dJ7_checkLength_df160_33 : decode cJ7_checkLength_df160 33 = .ok (.invokespecial 65, 3) := by decide +kernel
theorem dJ7_checkLength_df160_36 : decode cJ7_checkLength_df160 36 = .ok (.athrow, 1) := by decide +kernel
theorem dJ7_checkLength_df160_37 : decode cJ7_checkLength_df160 37 = .ok (.return_, 1) := by decide +kernel
theorem dJ7_copyOfRange_39247_0 : decode cJ7_copyOfRange_39247 0 = .ok (.iload_n 1, 1) := by decide +kernel
theorem dJ7_copyOfRange_39247_1 : decode cJ7_copyOfRange_39247 1 = .ok (.ifCond .ne 9, 3) := by decide +kernel
theorem dJ7_copyOfRange_39247_4 : decode cJ7_copyOfRange_39247 4 = .ok (.iload_n 2, 1) := by decide +kernel
theorem dJ7_copyOfRange_39247_5 : decode cJ7_copyOfRange_39247 5 = .ok (.aload_n 0, 1) := by decide +kernel
theorem dJ7_copyOfRange_39247_6 : decode cJ7_copyOfRange_39247 6 = .ok (.arraylength, 1) := by decide +kernel
theorem dJ7_copyOfRange_39247_7 : decode cJ7_copyOfRange_39247 7 = .ok (.if_icmp .eq 10, 3) := by decide +kernel
theorem dJ7_copyOfRange_39247_10 : decode cJ7_copyOfRange_39247 10 = .ok (.aload_n 0, 1) := by decide +kernel
theorem dJ7_copyOfRange_39247_11 : decode cJ7_copyOfRange_39247 11 = .ok (.iload_n 1, 1) := by decide +kernel
theorem dJ7_copyOfRange_39247_12 : decode cJ7_copyOfRange_39247 12 = .ok (.iload_n 2, 1) := by decide +kernel
theorem dJ7_copyOfRange_39247_13 : decode cJ7_copyOfRange_39247 13 = .ok (.invokestatic 339, 3) := by decide +kernel
theorem dJ7_copyOfRange_39247_16 : decode cJ7_copyOfRange_39247 16 = .ok (.areturn, 1) := by decide +kernel
theorem dJ7_copyOfRange_39247_17 : decode cJ7_copyOfRange_39247 17 = .ok (.aload_n 0, 1) := by decide +kernel
theorem dJ7_copyOfRange_39247_18 : decode cJ7_copyOfRange_39247 18 = .ok (.invokevirtual 310, 3) := by decide +kernel
theorem dJ7_copyOfRange_39247_21 : decode cJ7_copyOfRange_39247 21 = .ok (.checkcast 311, 3) := by decide +kernel
theorem dJ7_copyOfRange_39247_24 : decode cJ7_copyOfRange_39247 24 = .ok (.areturn, 1) := by decide +kernel
theorem dJ7_copyOfRangeByte_39247_0 : decode cJ7_copyOfRangeByte_39247 0 = .ok (.iload_n 1, 1) := by decide +kernel
theorem dJ7_copyOfRangeByte_39247_1 : decode cJ7_copyOfRangeByte_39247 1 = .ok (.iload_n 2, 1) := by decide +kernel
theorem dJ7_copyOfRangeByte_39247_2 : decode cJ7_copyOfRangeByte_39247 2 = .ok (.invokestatic 343, 3) := by decide +kernel
theorem dJ7_copyOfRangeByte_39247_5 : decode cJ7_copyOfRangeByte_39247 5 = .ok (.iload_n 2, 1) := by decide +kernel
theorem dJ7_copyOfRangeByte_39247_6 : decode cJ7_copyOfRangeByte_39247 6 = .ok (.iload_n 1, 1) := by decide +kernel
theorem dJ7_copyOfRangeByte_39247_7 : decode cJ7_copyOfRangeByte_39247 7 = .ok (.isub, 1) := by decide +kernel
theorem dJ7_copyOfRangeByte_39247_8 : decode cJ7_copyOfRangeByte_39247 8 = .ok (.istore_n 3, 1) := by decide +kernel
theorem dJ7_copyOfRangeByte_39247_9 : decode cJ7_copyOfRangeByte_39247 9 = .ok (.iload_n 3, 1) := by decide +kernel
theorem dJ7_copyOfRangeByte_39247_10 : decode cJ7_copyOfRangeByte_39247 10 = .ok (.newarray .byte, 2) := by decide +kernel
theorem dJ7_copyOfRangeByte_39247_12 : decode cJ7_copyOfRangeByte_39247 12 = .ok (.astore 4, 2) := by decide +kernel
theorem dJ7_copyOfRangeByte_39247_14 : decode cJ7_copyOfRangeByte_39247 14 = .ok (.aload_n 0, 1) := by decide +kernel
theorem dJ7_copyOfRangeByte_39247_15 : decode cJ7_copyOfRangeByte_39247 15 = .ok (.iload_n 1, 1) := by decide +kernel
theorem dJ7_copyOfRangeByte_39247_16 : decode cJ7_copyOfRangeByte_39247 16 = .ok (.aload 4, 2) := by decide +kernel
theorem dJ7_copyOfRangeByte_39247_18 : decode cJ7_copyOfRangeByte_39247 18 = .ok (.iconst 0, 1) := by decide +kernel
theorem dJ7_copyOfRangeByte_39247_19 : decode cJ7_copyOfRangeByte_39247 19 = .ok (.aload_n 0, 1) := by decide +kernel
theorem dJ7_copyOfRangeByte_39247_20 : decode cJ7_copyOfRangeByte_39247 20 = .ok (.arraylength, 1) := by decide +kernel
theorem dJ7_copyOfRangeByte_39247_21 : decode cJ7_copyOfRangeByte_39247 21 = .ok (.iload_n 1, 1) := by decide +kernel
theorem dJ7_copyOfRangeByte_39247_22 : decode cJ7_copyOfRangeByte_39247 22 = .ok (.isub, 1) := by decide +kernel
theorem dJ7_copyOfRangeByte_39247_23 : decode cJ7_copyOfRangeByte_39247 23 = .ok (.iload_n 3, 1) := by decide +kernel
theorem dJ7_copyOfRangeByte_39247_24 : decode cJ7_copyOfRangeByte_39247 24 = .ok (.invokestatic 304, 3) := by decide +kernel
theorem dJ7_copyOfRangeByte_39247_27 : decode cJ7_copyOfRangeByte_39247 27 = .ok (.invokestatic 150, 3) := by decide +kernel
theorem dJ7_copyOfRangeByte_39247_30 : decode cJ7_copyOfRangeByte_39247 30 = .ok (.aload 4, 2) := by decide +kernel
theorem dJ7_copyOfRangeByte_39247_32 : decode cJ7_copyOfRangeByte_39247 32 = .ok (.areturn, 1) := by decide +kernel
theorem dJ15_checkIndex_7cf53_0 : decode cJ15_checkIndex_7cf53 0 = .ok (.iload_n 0, 1) := by decide +kernel
theorem dJ15_checkIndex_7cf53_1 : decode cJ15_checkIndex_7cf53 1 = .ok (.iload_n 1, 1) := by decide +kernel
theorem dJ15_checkIndex_7cf53_2 : decode cJ15_checkIndex_7cf53 2 = .ok (.aconst_null, 1) := by decide +kernel
theorem dJ15_checkIndex_7cf53_3 : decode cJ15_checkIndex_7cf53 3 = .ok (.invokestatic 105, 3) := by decide +kernel
theorem dJ15_checkIndex_7cf53_6 : decode cJ15_checkIndex_7cf53 6 = .ok (.ireturn, 1) := by decide +kernel
theorem dJ8_newLength_cabcc_0 : decode cJ8_newLength_cabcc 0 = .ok (.iload_n 0, 1) := by decide +kernel
theorem dJ8_newLength_cabcc_1 : decode cJ8_newLength_cabcc 1 = .ok (.iload_n 1, 1) := by decide +kernel
theorem dJ8_newLength_cabcc_2 : decode cJ8_newLength_cabcc 2 = .ok (.iload_n 2, 1) := by decide +kernel
theorem dJ8_newLength_cabcc_3 : decode cJ8_newLength_cabcc 3 = .ok (.invokestatic 194, 3) := by decide +kernel
theorem dJ8_newLength_cabcc_6 : decode cJ8_newLength_cabcc 6 = .ok (.iadd, 1) := by decide +kernel
theorem dJ8_newLength_cabcc_7 : decode cJ8_newLength_cabcc 7 = .ok (.istore_n 3, 1) := by decide +kernel
theorem dJ8_newLength_cabcc_8 : decode cJ8_newLength_cabcc 8 = .ok (.iconst 0, 1) := by decide +kernel
theorem dJ8_newLength_cabcc_9 : decode cJ8_newLength_cabcc 9 = .ok (.iload_n 3, 1) := by decide +kernel
theorem dJ8_newLength_cabcc_10 : decode cJ8_newLength_cabcc 10 = .ok (.if_icmp .ge 11, 3) := by decide +kernel
theorem dJ8_newLength_cabcc_13 : decode cJ8_newLength_cabcc 13 = .ok (.iload_n 3, 1) := by decide +kernel
theorem dJ8_newLength_cabcc_14 : decode cJ8_newLength_cabcc 14 = .ok (.ldc 200, 2) := by decide +kernel
theorem dJ8_newLength_cabcc_16 : decode cJ8_newLength_cabcc 16 = .ok (.if_icmp .gt 5, 3) := by decide +kernel
theorem dJ8_newLength_cabcc_19 : decode cJ8_newLength_cabcc 19 = .ok (.iload_n 3, 1) := by decide +kernel
theorem dJ8_newLength_cabcc_20 : decode cJ8_newLength_cabcc 20 = .ok (.ireturn, 1) := by decide +kernel
theorem dJ8_newLength_cabcc_21 : decode cJ8_newLength_cabcc 21 = .ok (.iload_n 0, 1) := by decide +kernel
theorem dJ8_newLength_cabcc_22 : decode cJ8_newLength_cabcc 22 = .ok (.iload_n 1, 1) := by decide +kernel
theorem dJ8_newLength_cabcc_23 : decode cJ8_newLength_cabcc 23 = .ok (.invokestatic 201, 3) := by decide +kernel
theorem dJ8_newLength_cabcc_26 : decode cJ8_newLength_cabcc 26 = .ok (.ireturn, 1) := by decide +kernel
theorem dJ8_hugeLength_7cf53_0 : decode cJ8_hugeLength_7cf53 0 = .ok (.iload_n 0, 1) := by decide +kernel
theorem dJ8_hugeLength_7cf53_1 : decode cJ8_hugeLength_7cf53 1 = .ok (.iload_n 1, 1) := by decide +kernel
theorem dJ8_hugeLength_7cf53_2 : decode cJ8_hugeLength_7cf53 2 = .ok (.iadd, 1) := by decide +kernel
theorem dJ8_hugeLength_7cf53_3 : decode cJ8_hugeLength_7cf53 3 = .ok (.istore_n 2, 1) := by decide +kernel
theorem dJ8_hugeLength_7cf53_4 : decode cJ8_hugeLength_7cf53 4 = .ok (.iload_n 2, 1) := by decide +kernel
theorem dJ8_hugeLength_7cf53_5 : decode cJ8_hugeLength_7cf53 5 = .ok (.ifCond .ge 44, 3) := by decide +kernel
theorem dJ8_hugeLength_7cf53_8 : decode cJ8_hugeLength_7cf53 8 = .ok (.new 204, 3) := by decide +kernel
theorem dJ8_hugeLength_7cf53_11 : decode cJ8_hugeLength_7cf53 11 = .ok (.dup, 1) := by decide +kernel
theorem dJ8_hugeLength_7cf53_12 : decode cJ8_hugeLength_7cf53 12 = .ok (.new 89, 3) := by decide +kernel
theorem dJ8_hugeLength_7cf53_15 : decode cJ8_hugeLength_7cf53 15 = .ok (.dup, 1) := by decide +kernel
theorem dJ8_hugeLength_7cf53_16 : decode cJ8_hugeLength_7cf53 16 = .ok (.invokespecial 91, 3) := by decide +kernel
theorem dJ8_hugeLength_7cf53_19 : decode cJ8_hugeLength_7cf53 19 = .ok (.ldc 206, 2) := by decide +kernel
theorem dJ8_hugeLength_7cf53_21 : decode cJ8_hugeLength_7cf53 21 = .ok (.invokevirtual 94, 3) := by decide +kernel
theorem dJ8_hugeLength_7cf53_24 : decode cJ8_hugeLength_7cf53 24 = .ok (.iload_n 0, 1) := by decide +kernel
theorem dJ8_hugeLength_7cf53_25 : decode cJ8_hugeLength_7cf53 25 = .ok (.invokevirtual 98, 3) := by decide +kernel
theorem dJ8_hugeLength_7cf53_28 : decode cJ8_hugeLength_7cf53 28 = .ok (.ldc 208, 2) := by decide +kernel
theorem dJ8_hugeLength_7cf53_30 : decode cJ8_hugeLength_7cf53 30 = .ok (.invokevirtual 94, 3) := by decide +kernel
theorem dJ8_hugeLength_7cf53_33 : decode cJ8_hugeLength_7cf53 33 = .ok (.iload_n 1, 1) := by decide +kernel
theorem dJ8_hugeLength_7cf53_34 : decode cJ8_hugeLength_7cf53 34 = .ok (.invokevirtual 98, 3) := by decide +kernel
theorem dJ8_hugeLength_7cf53_37 : decode cJ8_hugeLength_7cf53 37 = .ok (.ldc 210, 2) := by decide +kernel
theorem dJ8_hugeLength_7cf53_39 : decode cJ8_hugeLength_7cf53 39 = .ok (.invokevirtual 94, 3) := by decide +kernel
theorem dJ8_hugeLength_7cf53_42 : decode cJ8_hugeLength_7cf53 42 = .ok (.invokevirtual 101, 3) := by decide +kernel
theorem dJ8_hugeLength_7cf53_45 : decode cJ8_hugeLength_7cf53 45 = .ok (.invokespecial 212, 3) := by decide +kernel
theorem dJ8_hugeLength_7cf53_48 : decode cJ8_hugeLength_7cf53 48 = .ok (.athrow, 1) := by decide +kernel
theorem dJ8_hugeLength_7cf53_49 : decode cJ8_hugeLength_7cf53 49 = .ok (.iload_n 2, 1) := by decide +kernel
theorem dJ8_hugeLength_7cf53_50 : decode cJ8_hugeLength_7cf53 50 = .ok (.ldc 200, 2) := by decide +kernel
theorem dJ8_hugeLength_7cf53_52 : decode cJ8_hugeLength_7cf53 52 = .ok (.if_icmp .gt 6, 3) := by decide +kernel
theorem dJ8_hugeLength_7cf53_55 : decode cJ8_hugeLength_7cf53 55 = .ok (.ldc 200, 2) := by decide +kernel
theorem dJ8_hugeLength_7cf53_57 : decode cJ8_hugeLength_7cf53 57 = .ok (.ireturn, 1) := by decide +kernel
theorem dJ8_hugeLength_7cf53_58 : decode cJ8_hugeLength_7cf53 58 = .ok (.iload_n 2, 1) := by decide +kernel
theorem dJ8_hugeLength_7cf53_59 : decode cJ8_hugeLength_7cf53 59 = .ok (.ireturn, 1) := by decide +kernel
theorem dJ3_checkIndex_8e157_0 : decode cJ3_checkIndex_8e157 0 = .ok (.iload_n 0, 1) := by decide +kernel
theorem dJ3_checkIndex_8e157_1 : decode cJ3_checkIndex_8e157 1 = .ok (.ifCond .lt 8, 3) := by decide +kernel
theorem dJ3_checkIndex_8e157_4 : decode cJ3_checkIndex_8e157 4 = .ok (.iload_n 0, 1) := by decide +kernel
theorem dJ3_checkIndex_8e157_5 : decode cJ3_checkIndex_8e157 5 = .ok (.iload_n 1, 1) := by decide +kernel
theorem dJ3_checkIndex_8e157_6 : decode cJ3_checkIndex_8e157 6 = .ok (.if_icmp .lt 10, 3) := by decide +kernel
theorem dJ3_checkIndex_8e157_9 : decode cJ3_checkIndex_8e157 9 = .ok (.aload_n 2, 1) := by decide +kernel
theorem dJ3_checkIndex_8e157_10 : decode cJ3_checkIndex_8e157 10 = .ok (.iload_n 0, 1) := by decide +kernel
theorem dJ3_checkIndex_8e157_11 : decode cJ3_checkIndex_8e157 11 = .ok (.iload_n 1, 1) := by decide +kernel
theorem dJ3_checkIndex_8e157_12 : decode cJ3_checkIndex_8e157 12 = .ok (.invokestatic 95, 3) := by decide +kernel
theorem dJ3_checkIndex_8e157_15 : decode cJ3_checkIndex_8e157 15 = .ok (.athrow, 1) := by decide +kernel
theorem dJ3_checkIndex_8e157_16 : decode cJ3_checkIndex_8e157 16 = .ok (.iload_n 0, 1) := by decide +kernel
theorem dJ3_checkIndex_8e157_17 : decode cJ3_checkIndex_8e157 17 = .ok (.ireturn, 1) := by decide +kernel
theorem dJ3_checkFromToIndex_8c36e_0 : decode cJ3_checkFromToIndex_8c36e 0 = .ok (.iload_n 0, 1) := by decide +kernel
theorem dJ3_checkFromToIndex_8c36e_1 : decode cJ3_checkFromToIndex_8c36e 1 = .ok (.ifCond .lt 13, 3) := by decide +kernel
theorem dJ3_checkFromToIndex_8c36e_4 : decode cJ3_checkFromToIndex_8c36e 4 = .ok (.iload_n 0, 1) := by decide +kernel
theorem dJ3_checkFromToIndex_8c36e_5 : decode cJ3_checkFromToIndex_8c36e 5 = .ok (.iload_n 1, 1) := by decide +kernel
theorem dJ3_checkFromToIndex_8c36e_6 : decode cJ3_checkFromToIndex_8c36e 6 = .ok (.if_icmp .gt 8, 3) := by decide +kernel
theorem dJ3_checkFromToIndex_8c36e_9 : decode cJ3_checkFromToIndex_8c36e 9 = .ok (.iload_n 1, 1) := by decide +kernel
theorem dJ3_checkFromToIndex_8c36e_10 : decode cJ3_checkFromToIndex_8c36e 10 = .ok (.iload_n 2, 1) := by decide +kernel
theorem dJ3_checkFromToIndex_8c36e_11 : decode cJ3_checkFromToIndex_8c36e 11 = .ok (.if_icmp .le 11, 3) := by decide +kernel
theorem dJ3_checkFromToIndex_8c36e_14 : decode cJ3_checkFromToIndex_8c36e 14 = .ok (.aload_n 3, 1) := by decide +kernel
theorem dJ3_checkFromToIndex_8c36e_15 : decode cJ3_checkFromToIndex_8c36e 15 = .ok (.iload_n 0, 1) := by decide +kernel
theorem dJ3_checkFromToIndex_8c36e_16 : decode cJ3_checkFromToIndex_8c36e 16 = .ok (.iload_n 1, 1) := by decide +kernel
theorem dJ3_checkFromToIndex_8c36e_17 : decode cJ3_checkFromToIndex_8c36e 17 = .ok (.iload_n 2, 1) := by decide +kernel
theorem dJ3_checkFromToIndex_8c36e_18 : decode cJ3_checkFromToIndex_8c36e 18 = .ok (.invokestatic 99, 3) := by decide +kernel
theorem dJ3_checkFromToIndex_8c36e_21 : decode cJ3_checkFromToIndex_8c36e 21 = .ok (.athrow, 1) := by decide +kernel
theorem dJ3_checkFromToIndex_8c36e_22 : decode cJ3_checkFromToIndex_8c36e 22 = .ok (.iload_n 0, 1) := by decide +kernel
theorem dJ3_checkFromToIndex_8c36e_23 : decode cJ3_checkFromToIndex_8c36e 23 = .ok (.ireturn, 1) := by decide +kernel
theorem dJ3_checkFromIndexSize_8c36e_0 : decode cJ3_checkFromIndexSize_8c36e 0 = .ok (.iload_n 2, 1) := by decide +kernel
theorem dJ3_checkFromIndexSize_8c36e_1 : decode cJ3_checkFromIndexSize_8c36e 1 = .ok (.iload_n 0, 1) := by decide +kernel
theorem dJ3_checkFromIndexSize_8c36e_2 : decode cJ3_checkFromIndexSize_8c36e 2 = .ok (.ior, 1) := by decide +kernel
theorem dJ3_checkFromIndexSize_8c36e_3 : decode cJ3_checkFromIndexSize_8c36e 3 = .ok (.iload_n 1, 1) := by decide +kernel
theorem dJ3_checkFromIndexSize_8c36e_4 : decode cJ3_checkFromIndexSize_8c36e 4 = .ok (.ior, 1) := by decide +kernel
theorem dJ3_checkFromIndexSize_8c36e_5 : decode cJ3_checkFromIndexSize_8c36e 5 = .ok (.ifCond .lt 10, 3) := by decide +kernel
theorem dJ3_checkFromIndexSize_8c36e_8 : decode cJ3_checkFromIndexSize_8c36e 8 = .ok (.iload_n 1, 1) := by decide +kernel
theorem dJ3_checkFromIndexSize_8c36e_9 : decode cJ3_checkFromIndexSize_8c36e 9 = .ok (.iload_n 2, 1) := by decide +kernel
theorem dJ3_checkFromIndexSize_8c36e_10 : decode cJ3_checkFromIndexSize_8c36e 10 = .ok (.iload_n 0, 1) := by decide +kernel
theorem dJ3_checkFromIndexSize_8c36e_11 : decode cJ3_checkFromIndexSize_8c36e 11 = .ok (.isub, 1) := by decide +kernel
theorem dJ3_checkFromIndexSize_8c36e_12 : decode cJ3_checkFromIndexSize_8c36e 12 = .ok (.if_icmp .le 11, 3) := by decide +kernel
theorem dJ3_checkFromIndexSize_8c36e_15 : decode cJ3_checkFromIndexSize_8c36e 15 = .ok (.aload_n 3, 1) := by decide +kernel
theorem dJ3_checkFromIndexSize_8c36e_16 : decode cJ3_checkFromIndexSize_8c36e 16 = .ok (.iload_n 0, 1) := by decide +kernel
theorem dJ3_checkFromIndexSize_8c36e_17 : decode cJ3_checkFromIndexSize_8c36e 17 = .ok (.iload_n 1, 1) := by decide +kernel
theorem dJ3_checkFromIndexSize_8c36e_18 : decode cJ3_checkFromIndexSize_8c36e 18 = .ok (.iload_n 2, 1) := by decide +kernel
theorem dJ3_checkFromIndexSize_8c36e_19 : decode cJ3_checkFromIndexSize_8c36e 19 = .ok (.invokestatic 103, 3) := by decide +kernel
theorem dJ3_checkFromIndexSize_8c36e_22 : decode cJ3_checkFromIndexSize_8c36e 22 = .ok (.athrow, 1) := by decide +kernel
theorem dJ3_checkFromIndexSize_8c36e_23 : decode cJ3_checkFromIndexSize_8c36e 23 = .ok (.iload_n 0, 1) := by decide +kernel
theorem dJ3_checkFromIndexSize_8c36e_24 : decode cJ3_checkFromIndexSize_8c36e 24 = .ok (.ireturn, 1) := by decide +kernel
