theorem dX0_init_0 : decode cX0_init 0 = .ok (.aload_n 0, 1) := by decide +kernel
theorem dX0_init_1 : decode cX0_init 1 = .ok (.invokespecial 3, 3) := by decide +kernel
theorem dX0_init_4 : decode cX0_init 4 = .ok (.aload_n 0, 1) := by decide +kernel
theorem dX0_init_5 : decode cX0_init 5 = .ok (.bipush 8, 2) := by decide +kernel
theorem dX0_init_7 : decode cX0_init 7 = .ok (.newarray .int, 2) := by decide +kernel
theorem dX0_init_9 : decode cX0_init 9 = .ok (.putfield 9, 3) := by decide +kernel
theorem dX0_init_12 : decode cX0_init 12 = .ok (.aload_n 0, 1) := by decide +kernel
theorem dX0_init_13 : decode cX0_init 13 = .ok (.bipush 8, 2) := by decide +kernel
theorem dX0_init_15 : decode cX0_init 15 = .ok (.newarray .int, 2) := by decide +kernel
theorem dX0_init_17 : decode cX0_init 17 = .ok (.putfield 15, 3) := by decide +kernel
theorem dX0_init_20 : decode cX0_init 20 = .ok (.aload_n 0, 1) := by decide +kernel
theorem dX0_init_21 : decode cX0_init 21 = .ok (.bipush 8, 2) := by decide +kernel
theorem dX0_init_23 : decode cX0_init 23 = .ok (.newarray .int, 2) := by decide +kernel
theorem dX0_init_25 : decode cX0_init 25 = .ok (.putfield 18, 3) := by decide +kernel
theorem dX0_init_28 : decode cX0_init 28 = .ok (.aload_n 0, 1) := by decide +kernel
theorem dX0_init_29 : decode cX0_init 29 = .ok (.bipush 8, 2) := by decide +kernel
theorem dX0_init_31 : decode cX0_init 31 = .ok (.newarray .boolean, 2) := by decide +kernel
theorem dX0_init_33 : decode cX0_init 33 = .ok (.putfield 21, 3) := by decide +kernel
theorem dX0_init_36 : decode cX0_init 36 = .ok (.return_, 1) := by decide +kernel
theorem dX0_copyFrom_0 : decode cX0_copyFrom 0 = .ok (.aload_n 0, 1) := by decide +kernel
theorem dX0_copyFrom_1 : decode cX0_copyFrom 1 = .ok (.aload_n 1, 1) := by decide +kernel
theorem dX0_copyFrom_2 : decode cX0_copyFrom 2 = .ok (.getfield 25, 3) := by decide +kernel
theorem dX0_copyFrom_5 : decode cX0_copyFrom 5 = .ok (.putfield 25, 3) := by decide +kernel
theorem dX0_copyFrom_8 : decode cX0_copyFrom 8 = .ok (.iconst 0, 1) := by decide +kernel
theorem dX0_copyFrom_9 : decode cX0_copyFrom 9 = .ok (.istore_n 2, 1) := by decide +kernel
theorem dX0_copyFrom_10 : decode cX0_copyFrom 10 = .ok (.iload_n 2, 1) := by decide +kernel
theorem dX0_copyFrom_11 : decode cX0_copyFrom 11 = .ok (.aload_n 0, 1) := by decide +kernel
theorem dX0_copyFrom_12 : decode cX0_copyFrom 12 = .ok (.getfield 25, 3) := by decide +kernel
theorem dX0_copyFrom_15 : decode cX0_copyFrom 15 = .ok (.if_icmp .ge 16, 3) := by decide +kernel
theorem dX0_copyFrom_18 : decode cX0_copyFrom 18 = .ok (.aload_n 0, 1) := by decide +kernel
theorem dX0_copyFrom_19 : decode cX0_copyFrom 19 = .ok (.aload_n 1, 1) := by decide +kernel
theorem dX0_copyFrom_20 : decode cX0_copyFrom 20 = .ok (.iload_n 2, 1) := by decide +kernel
theorem dX0_copyFrom_21 : decode cX0_copyFrom 21 = .ok (.iload_n 2, 1) := by decide +kernel
theorem dX0_copyFrom_22 : decode cX0_copyFrom 22 = .ok (.invokevirtual 29, 3) := by decide +kernel
theorem dX0_copyFrom_25 : decode cX0_copyFrom 25 = .ok (.iinc 2 1, 3) := by decide +kernel
theorem dX0_copyFrom_28 : decode cX0_copyFrom 28 = .ok (.goto (-18), 3) := by decide +kernel
theorem dX0_copyFrom_31 : decode cX0_copyFrom 31 = .ok (.return_, 1) := by decide +kernel
theorem dX0_copyArc_0 : decode cX0_copyArc 0 = .ok (.aload_n 0, 1) := by decide +kernel
theorem dX0_copyArc_1 : decode cX0_copyArc 1 = .ok (.getfield 9, 3) := by decide +kernel
theorem dX0_copyArc_4 : decode cX0_copyArc 4 = .ok (.iload_n 3, 1) := by decide +kernel
theorem dX0_copyArc_5 : decode cX0_copyArc 5 = .ok (.aload_n 1, 1) := by decide +kernel
theorem dX0_copyArc_6 : decode cX0_copyArc 6 = .ok (.getfield 9, 3) := by decide +kernel
theorem dX0_copyArc_9 : decode cX0_copyArc 9 = .ok (.iload_n 2, 1) := by decide +kernel
theorem dX0_copyArc_10 : decode cX0_copyArc 10 = .ok (.iaload, 1) := by decide +kernel
theorem dX0_copyArc_11 : decode cX0_copyArc 11 = .ok (.iastore, 1) := by decide +kernel
theorem dX0_copyArc_12 : decode cX0_copyArc 12 = .ok (.aload_n 0, 1) := by decide +kernel
theorem dX0_copyArc_13 : decode cX0_copyArc 13 = .ok (.getfield 15, 3) := by decide +kernel
theorem dX0_copyArc_16 : decode cX0_copyArc 16 = .ok (.iload_n 3, 1) := by decide +kernel
theorem dX0_copyArc_17 : decode cX0_copyArc 17 = .ok (.aload_n 1, 1) := by decide +kernel
theorem dX0_copyArc_18 : decode cX0_copyArc 18 = .ok (.getfield 15, 3) := by decide +kernel
theorem dX0_copyArc_21 : decode cX0_copyArc 21 = .ok (.iload_n 2, 1) := by decide +kernel
theorem dX0_copyArc_22 : decode cX0_copyArc 22 = .ok (.iaload, 1) := by decide +kernel
theorem dX0_copyArc_23 : decode cX0_copyArc 23 = .ok (.iastore, 1) := by decide +kernel
theorem dX0_copyArc_24 : decode cX0_copyArc 24 = .ok (.aload_n 0, 1) := by decide +kernel
theorem dX0_copyArc_25 : decode cX0_copyArc 25 = .ok (.getfield 18, 3) := by decide +kernel
theorem dX0_copyArc_28 : decode cX0_copyArc 28 = .ok (.iload_n 3, 1) := by decide +kernel
theorem dX0_copyArc_29 : decode cX0_copyArc 29 = .ok (.aload_n 1, 1) := by decide +kernel
theorem dX0_copyArc_30 : decode cX0_copyArc 30 = .ok (.getfield 18, 3) := by decide +kernel
theorem dX0_copyArc_33 : decode cX0_copyArc 33 = .ok (.iload_n 2, 1) := by decide +kernel
theorem dX0_copyArc_34 : decode cX0_copyArc 34 = .ok (.iaload, 1) := by decide +kernel
theorem dX0_copyArc_35 : decode cX0_copyArc 35 = .ok (.iastore, 1) := by decide +kernel
theorem dX0_copyArc_36 : decode cX0_copyArc 36 = .ok (.aload_n 0, 1) := by decide +kernel
theorem dX0_copyArc_37 : decode cX0_copyArc 37 = .ok (.getfield 21, 3) := by decide +kernel
theorem dX0_copyArc_40 : decode cX0_copyArc 40 = .ok (.iload_n 3, 1) := by decide +kernel
theorem dX0_copyArc_41 : decode cX0_copyArc 41 = .ok (.aload_n 1, 1) := by decide +kernel
theorem dX0_copyArc_42 : decode cX0_copyArc 42 = .ok (.getfield 21, 3) := by decide +kernel
theorem dX0_copyArc_45 : decode cX0_copyArc 45 = .ok (.iload_n 2, 1) := by decide +kernel
theorem dX0_copyArc_46 : decode cX0_copyArc 46 = .ok (.baload, 1) := by decide +kernel
theorem dX0_copyArc_47 : decode cX0_copyArc 47 = .ok (.bastore, 1) := by decide +kernel
theorem dX0_copyArc_48 : decode cX0_copyArc 48 = .ok (.return_, 1) := by decide +kernel
theorem dX0_addArc_0 : decode cX0_addArc 0 = .ok (.aload_n 0, 1) := by decide +kernel
theorem dX0_addArc_1 : decode cX0_addArc 1 = .ok (.getfield 25, 3) := by decide +kernel
theorem dX0_addArc_4 : decode cX0_addArc 4 = .ok (.bipush 8, 2) := by decide +kernel
theorem dX0_addArc_6 : decode cX0_addArc 6 = .ok (.if_icmp .ge 54, 3) := by decide +kernel
theorem dX0_addArc_9 : decode cX0_addArc 9 = .ok (.aload_n 0, 1) := by decide +kernel
theorem dX0_addArc_10 : decode cX0_addArc 10 = .ok (.getfield 9, 3) := by decide +kernel
theorem dX0_addArc_13 : decode cX0_addArc 13 = .ok (.aload_n 0, 1) := by decide +kernel
theorem dX0_addArc_14 : decode cX0_addArc 14 = .ok (.getfield 25, 3) := by decide +kernel
theorem dX0_addArc_17 : decode cX0_addArc 17 = .ok (.iload_n 1, 1) := by decide +kernel
theorem dX0_addArc_18 : decode cX0_addArc 18 = .ok (.iastore, 1) := by decide +kernel
theorem dX0_addArc_19 : decode cX0_addArc 19 = .ok (.aload_n 0, 1) := by decide +kernel
theorem dX0_addArc_20 : decode cX0_addArc 20 = .ok (.getfield 15, 3) := by decide +kernel
theorem dX0_addArc_23 : decode cX0_addArc 23 = .ok (.aload_n 0, 1) := by decide +kernel
theorem dX0_addArc_24 : decode cX0_addArc 24 = .ok (.getfield 25, 3) := by decide +kernel
theorem dX0_addArc_27 : decode cX0_addArc 27 = .ok (.iload_n 2, 1) := by decide +kernel
theorem dX0_addArc_28 : decode cX0_addArc 28 = .ok (.iastore, 1) := by decide +kernel
theorem dX0_addArc_29 : decode cX0_addArc 29 = .ok (.aload_n 0, 1) := by decide +kernel
theorem dX0_addArc_30 : decode cX0_addArc 30 = .ok (.getfield 21, 3) := by decide +kernel
theorem dX0_addArc_33 : decode cX0_addArc 33 = .ok (.aload_n 0, 1) := by decide +kernel
theorem dX0_addArc_34 : decode cX0_addArc 34 = .ok (.getfield 25, 3) := by decide +kernel
theorem dX0_addArc_37 : decode cX0_addArc 37 = .ok (.iload_n 3, 1) := by decide +kernel
theorem dX0_addArc_38 : decode cX0_addArc 38 = .ok (.bastore, 1) := by decide +kernel
theorem dX0_addArc_39 : decode cX0_addArc 39 = .ok (.aload_n 0, 1) := by decide +kernel
theorem dX0_addArc_40 : decode cX0_addArc 40 = .ok (.getfield 18, 3) := by decide +kernel
theorem dX0_addArc_43 : decode cX0_addArc 43 = .ok (.aload_n 0, 1) := by decide +kernel
theorem dX0_addArc_44 : decode cX0_addArc 44 = .ok (.getfield 25, 3) := by decide +kernel
theorem dX0_addArc_47 : decode cX0_addArc 47 = .ok (.iload 4, 2) := by decide +kernel
theorem dX0_addArc_49 : decode cX0_addArc 49 = .ok (.iastore, 1) := by decide +kernel
theorem dX0_addArc_50 : decode cX0_addArc 50 = .ok (.aload_n 0, 1) := by decide +kernel
theorem dX0_addArc_51 : decode cX0_addArc 51 = .ok (.dup, 1) := by decide +kernel
theorem dX0_addArc_52 : decode cX0_addArc 52 = .ok (.getfield 25, 3) := by decide +kernel
theorem dX0_addArc_55 : decode cX0_addArc 55 = .ok (.iconst 1, 1) := by decide +kernel
theorem dX0_addArc_56 : decode cX0_addArc 56 = .ok (.iadd, 1) := by decide +kernel
theorem dX0_addArc_57 : decode cX0_addArc 57 = .ok (.putfield 25, 3) := by decide +kernel
theorem dX0_addArc_60 : decode cX0_addArc 60 = .ok (.return_, 1) := by decide +kernel
theorem dX0_removeArc_0 : decode cX0_removeArc 0 = .ok (.iload_n 1, 1) := by decide +kernel
theorem dX0_removeArc_1 : decode cX0_removeArc 1 = .ok (.iconst 1, 1) := by decide +kernel
theorem dX0_removeArc_2 : decode cX0_removeArc 2 = .ok (.iadd, 1) := by decide +kernel
theorem dX0_removeArc_3 : decode cX0_removeArc 3 = .ok (.istore_n 2, 1) := by decide +kernel
theorem dX0_removeArc_4 : decode cX0_removeArc 4 = .ok (.iload_n 2, 1) := by decide +kernel
theorem dX0_removeArc_5 : decode cX0_removeArc 5 = .ok (.aload_n 0, 1) := by decide +kernel
theorem dX0_removeArc_6 : decode cX0_removeArc 6 = .ok (.getfield 25, 3) := by decide +kernel
theorem dX0_removeArc_9 : decode cX0_removeArc 9 = .ok (.if_icmp .ge 18, 3) := by decide +kernel
theorem dX0_removeArc_12 : decode cX0_removeArc 12 = .ok (.aload_n 0, 1) := by decide +kernel
theorem dX0_removeArc_13 : decode cX0_removeArc 13 = .ok (.aload_n 0, 1) := by decide +kernel
theorem dX0_removeArc_14 : decode cX0_removeArc 14 = .ok (.iload_n 2, 1) := by decide +kernel
theorem dX0_removeArc_15 : decode cX0_removeArc 15 = .ok (.iload_n 2, 1) := by decide +kernel
theorem dX0_removeArc_16 : decode cX0_removeArc 16 = .ok (.iconst 1, 1) := by decide +kernel
theorem dX0_removeArc_17 : decode cX0_removeArc 17 = .ok (.isub, 1) := by decide +kernel
theorem dX0_removeArc_18 : decode cX0_removeArc 18 = .ok (.invokevirtual 29, 3) := by decide +kernel
theorem dX0_removeArc_21 : decode cX0_removeArc 21 = .ok (.iinc 2 1, 3) := by decide +kernel
theorem dX0_removeArc_24 : decode cX0_removeArc 24 = .ok (.goto (-20), 3) := by decide +kernel
theorem dX0_removeArc_27 : decode cX0_removeArc 27 = .ok (.aload_n 0, 1) := by decide +kernel
theorem dX0_removeArc_28 : decode cX0_removeArc 28 = .ok (.dup, 1) := by decide +kernel
theorem dX0_removeArc_29 : decode cX0_removeArc 29 = .ok (.getfield 25, 3) := by decide +kernel
theorem dX0_removeArc_32 : decode cX0_removeArc 32 = .ok (.iconst 1, 1) := by decide +kernel
theorem dX0_removeArc_33 : decode cX0_removeArc 33 = .ok (.isub, 1) := by decide +kernel
theorem dX0_removeArc_34 : decode cX0_removeArc 34 = .ok (.putfield 25, 3) := by decide +kernel
theorem dX0_removeArc_37 : decode cX0_removeArc 37 = .ok (.return_, 1) := by decide +kernel
theorem dX0_growByOne_0 : decode cX0_growByOne 0 = .ok (.iconst 0, 1) := by decide +kernel
theorem dX0_growByOne_1 : decode cX0_growByOne 1 = .ok (.istore_n 1, 1) := by decide +kernel
theorem dX0_growByOne_2 : decode cX0_growByOne 2 = .ok (.iload_n 1, 1) := by decide +kernel
theorem dX0_growByOne_3 : decode cX0_growByOne 3 = .ok (.aload_n 0, 1) := by decide +kernel
theorem dX0_growByOne_4 : decode cX0_growByOne 4 = .ok (.getfield 25, 3) := by decide +kernel
theorem dX0_growByOne_7 : decode cX0_growByOne 7 = .ok (.if_icmp .ge 19, 3) := by decide +kernel
theorem dX0_growByOne_10 : decode cX0_growByOne 10 = .ok (.aload_n 0, 1) := by decide +kernel
theorem dX0_growByOne_11 : decode cX0_growByOne 11 = .ok (.getfield 9, 3) := by decide +kernel
theorem dX0_growByOne_14 : decode cX0_growByOne 14 = .ok (.iload_n 1, 1) := by decide +kernel
theorem dX0_growByOne_15 : decode cX0_growByOne 15 = .ok (.dup2, 1) := by decide +kernel
theorem dX0_growByOne_16 : decode cX0_growByOne 16 = .ok (.iaload, 1) := by decide +kernel
theorem dX0_growByOne_17 : decode cX0_growByOne 17 = .ok (.iconst 1, 1) := by decide +kernel
theorem dX0_growByOne_18 : decode cX0_growByOne 18 = .ok (.iadd, 1) := by decide +kernel
theorem dX0_growByOne_19 : decode cX0_growByOne 19 = .ok (.iastore, 1) := by decide +kernel
theorem dX0_growByOne_20 : decode cX0_growByOne 20 = .ok (.iinc 1 1, 3) := by decide +kernel
theorem dX0_growByOne_23 : decode cX0_growByOne 23 = .ok (.goto (-21), 3) := by decide +kernel
theorem dX0_growByOne_26 : decode cX0_growByOne 26 = .ok (.return_, 1) := by decide +kernel
theorem dX0_tenths_0 : decode cX0_tenths 0 = .ok (.bipush 10, 2) := by decide +kernel
theorem dX0_tenths_2 : decode cX0_tenths 2 = .ok (.aload_n 0, 1) := by decide +kernel
theorem dX0_tenths_3 : decode cX0_tenths 3 = .ok (.getfield 15, 3) := by decide +kernel
theorem dX0_tenths_6 : decode cX0_tenths 6 = .ok (.iload_n 1, 1) := by decide +kernel
theorem dX0_tenths_7 : decode cX0_tenths 7 = .ok (.iaload, 1) := by decide +kernel
theorem dX0_tenths_8 : decode cX0_tenths 8 = .ok (.imul, 1) := by decide +kernel
theorem dX0_tenths_9 : decode cX0_tenths 9 = .ok (.ireturn, 1) := by decide +kernel
theorem dX0_turnAhead_0 : decode cX0_turnAhead 0 = .ok (.iconst 0, 1) := by decide +kernel
theorem dX0_turnAhead_1 : decode cX0_turnAhead 1 = .ok (.istore_n 2, 1) := by decide +kernel
theorem dX0_turnAhead_2 : decode cX0_turnAhead 2 = .ok (.iconst 0, 1) := by decide +kernel
theorem dX0_turnAhead_3 : decode cX0_turnAhead 3 = .ok (.istore_n 3, 1) := by decide +kernel
theorem dX0_turnAhead_4 : decode cX0_turnAhead 4 = .ok (.iload_n 3, 1) := by decide +kernel
theorem dX0_turnAhead_5 : decode cX0_turnAhead 5 = .ok (.iload_n 1, 1) := by decide +kernel
theorem dX0_turnAhead_6 : decode cX0_turnAhead 6 = .ok (.if_icmp .ge 21, 3) := by decide +kernel
theorem dX0_turnAhead_9 : decode cX0_turnAhead 9 = .ok (.iload_n 2, 1) := by decide +kernel
theorem dX0_turnAhead_10 : decode cX0_turnAhead 10 = .ok (.bipush 10, 2) := by decide +kernel
theorem dX0_turnAhead_12 : decode cX0_turnAhead 12 = .ok (.aload_n 0, 1) := by decide +kernel
theorem dX0_turnAhead_13 : decode cX0_turnAhead 13 = .ok (.getfield 15, 3) := by decide +kernel
theorem dX0_turnAhead_16 : decode cX0_turnAhead 16 = .ok (.iload_n 3, 1) := by decide +kernel
theorem dX0_turnAhead_17 : decode cX0_turnAhead 17 = .ok (.iaload, 1) := by decide +kernel
theorem dX0_turnAhead_18 : decode cX0_turnAhead 18 = .ok (.imul, 1) := by decide +kernel
theorem dX0_turnAhead_19 : decode cX0_turnAhead 19 = .ok (.iadd, 1) := by decide +kernel
theorem dX0_turnAhead_20 : decode cX0_turnAhead 20 = .ok (.istore_n 2, 1) := by decide +kernel
theorem dX0_turnAhead_21 : decode cX0_turnAhead 21 = .ok (.iinc 3 1, 3) := by decide +kernel
theorem dX0_turnAhead_24 : decode cX0_turnAhead 24 = .ok (.goto (-20), 3) := by decide +kernel
theorem dX0_turnAhead_27 : decode cX0_turnAhead 27 = .ok (.iload_n 2, 1) := by decide +kernel
theorem dX0_turnAhead_28 : decode cX0_turnAhead 28 = .ok (.ireturn, 1) := by decide +kernel
theorem dX0_partsAhead_0 : decode cX0_partsAhead 0 = .ok (.iconst 0, 1) := by decide +kernel
theorem dX0_partsAhead_1 : decode cX0_partsAhead 1 = .ok (.istore_n 2, 1) := by decide +kernel
theorem dX0_partsAhead_2 : decode cX0_partsAhead 2 = .ok (.iconst 0, 1) := by decide +kernel
theorem dX0_partsAhead_3 : decode cX0_partsAhead 3 = .ok (.istore_n 3, 1) := by decide +kernel
theorem dX0_partsAhead_4 : decode cX0_partsAhead 4 = .ok (.iload_n 3, 1) := by decide +kernel
theorem dX0_partsAhead_5 : decode cX0_partsAhead 5 = .ok (.iload_n 1, 1) := by decide +kernel
theorem dX0_partsAhead_6 : decode cX0_partsAhead 6 = .ok (.if_icmp .ge 28, 3) := by decide +kernel
theorem dX0_partsAhead_9 : decode cX0_partsAhead 9 = .ok (.iload_n 2, 1) := by decide +kernel
theorem dX0_partsAhead_10 : decode cX0_partsAhead 10 = .ok (.aload_n 0, 1) := by decide +kernel
theorem dX0_partsAhead_11 : decode cX0_partsAhead 11 = .ok (.getfield 9, 3) := by decide +kernel
theorem dX0_partsAhead_14 : decode cX0_partsAhead 14 = .ok (.iload_n 3, 1) := by decide +kernel
theorem dX0_partsAhead_15 : decode cX0_partsAhead 15 = .ok (.iaload, 1) := by decide +kernel
theorem dX0_partsAhead_16 : decode cX0_partsAhead 16 = .ok (.bipush 10, 2) := by decide +kernel
theorem dX0_partsAhead_18 : decode cX0_partsAhead 18 = .ok (.imul, 1) := by decide +kernel
theorem dX0_partsAhead_19 : decode cX0_partsAhead 19 = .ok (.aload_n 0, 1) := by decide +kernel
theorem dX0_partsAhead_20 : decode cX0_partsAhead 20 = .ok (.getfield 15, 3) := by decide +kernel
theorem dX0_partsAhead_23 : decode cX0_partsAhead 23 = .ok (.iload_n 3, 1) := by decide +kernel
theorem dX0_partsAhead_24 : decode cX0_partsAhead 24 = .ok (.iaload, 1) := by decide +kernel
theorem dX0_partsAhead_25 : decode cX0_partsAhead 25 = .ok (.imul, 1) := by decide +kernel
theorem dX0_partsAhead_26 : decode cX0_partsAhead 26 = .ok (.iadd, 1) := by decide +kernel
theorem dX0_partsAhead_27 : decode cX0_partsAhead 27 = .ok (.istore_n 2, 1) := by decide +kernel
theorem dX0_partsAhead_28 : decode cX0_partsAhead 28 = .ok (.iinc 3 1, 3) := by decide +kernel
theorem dX0_partsAhead_31 : decode cX0_partsAhead 31 = .ok (.goto (-27), 3) := by decide +kernel
theorem dX0_partsAhead_34 : decode cX0_partsAhead 34 = .ok (.iload_n 2, 1) := by decide +kernel
theorem dX0_partsAhead_35 : decode cX0_partsAhead 35 = .ok (.ireturn, 1) := by decide +kernel
theorem dX0_wholeTurn_0 : decode cX0_wholeTurn 0 = .ok (.aload_n 0, 1) := by decide +kernel
theorem dX0_wholeTurn_1 : decode cX0_wholeTurn 1 = .ok (.aload_n 0, 1) := by decide +kernel
theorem dX0_wholeTurn_2 : decode cX0_wholeTurn 2 = .ok (.getfield 25, 3) := by decide +kernel
theorem dX0_wholeTurn_5 : decode cX0_wholeTurn 5 = .ok (.invokevirtual 33, 3) := by decide +kernel
theorem dX0_wholeTurn_8 : decode cX0_wholeTurn 8 = .ok (.ireturn, 1) := by decide +kernel
theorem dX0_wholeParts_0 : decode cX0_wholeParts 0 = .ok (.aload_n 0, 1) := by decide +kernel
theorem dX0_wholeParts_1 : decode cX0_wholeParts 1 = .ok (.aload_n 0, 1) := by decide +kernel
theorem dX0_wholeParts_2 : decode cX0_wholeParts 2 = .ok (.getfield 25, 3) := by decide +kernel
theorem dX0_wholeParts_5 : decode cX0_wholeParts 5 = .ok (.invokevirtual 37, 3) := by decide +kernel
theorem dX0_wholeParts_8 : decode cX0_wholeParts 8 = .ok (.ireturn, 1) := by decide +kernel
theorem dX0_arcAround_0 : decode cX0_arcAround 0 = .ok (.iconst 0, 1) := by decide +kernel
theorem dX0_arcAround_1 : decode cX0_arcAround 1 = .ok (.istore_n 2, 1) := by decide +kernel
theorem dX0_arcAround_2 : decode cX0_arcAround 2 = .ok (.iconst 0, 1) := by decide +kernel
theorem dX0_arcAround_3 : decode cX0_arcAround 3 = .ok (.istore_n 3, 1) := by decide +kernel
theorem dX0_arcAround_4 : decode cX0_arcAround 4 = .ok (.iload_n 3, 1) := by decide +kernel
theorem dX0_arcAround_5 : decode cX0_arcAround 5 = .ok (.aload_n 0, 1) := by decide +kernel
theorem dX0_arcAround_6 : decode cX0_arcAround 6 = .ok (.getfield 25, 3) := by decide +kernel
theorem dX0_arcAround_9 : decode cX0_arcAround 9 = .ok (.if_icmp .ge 28, 3) := by decide +kernel
theorem dX0_arcAround_12 : decode cX0_arcAround 12 = .ok (.iload_n 2, 1) := by decide +kernel
theorem dX0_arcAround_13 : decode cX0_arcAround 13 = .ok (.bipush 10, 2) := by decide +kernel
theorem dX0_arcAround_15 : decode cX0_arcAround 15 = .ok (.aload_n 0, 1) := by decide +kernel
theorem dX0_arcAround_16 : decode cX0_arcAround 16 = .ok (.getfield 15, 3) := by decide +kernel
theorem dX0_arcAround_19 : decode cX0_arcAround 19 = .ok (.iload_n 3, 1) := by decide +kernel
theorem dX0_arcAround_20 : decode cX0_arcAround 20 = .ok (.iaload, 1) := by decide +kernel
theorem dX0_arcAround_21 : decode cX0_arcAround 21 = .ok (.imul, 1) := by decide +kernel
theorem dX0_arcAround_22 : decode cX0_arcAround 22 = .ok (.iadd, 1) := by decide +kernel
theorem dX0_arcAround_23 : decode cX0_arcAround 23 = .ok (.istore_n 2, 1) := by decide +kernel
theorem dX0_arcAround_24 : decode cX0_arcAround 24 = .ok (.iload_n 2, 1) := by decide +kernel
theorem dX0_arcAround_25 : decode cX0_arcAround 25 = .ok (.iload_n 1, 1) := by decide +kernel
theorem dX0_arcAround_26 : decode cX0_arcAround 26 = .ok (.if_icmp .le 5, 3) := by decide +kernel
theorem dX0_arcAround_29 : decode cX0_arcAround 29 = .ok (.iload_n 3, 1) := by decide +kernel
theorem dX0_arcAround_30 : decode cX0_arcAround 30 = .ok (.ireturn, 1) := by decide +kernel
theorem dX0_arcAround_31 : decode cX0_arcAround 31 = .ok (.iinc 3 1, 3) := by decide +kernel
theorem dX0_arcAround_34 : decode cX0_arcAround 34 = .ok (.goto (-30), 3) := by decide +kernel
theorem dX0_arcAround_37 : decode cX0_arcAround 37 = .ok (.aload_n 0, 1) := by decide +kernel
theorem dX0_arcAround_38 : decode cX0_arcAround 38 = .ok (.getfield 25, 3) := by decide +kernel
theorem dX0_arcAround_41 : decode cX0_arcAround 41 = .ok (.ifCond .le 12, 3) := by decide +kernel
theorem dX0_arcAround_44 : decode cX0_arcAround 44 = .ok (.aload_n 0, 1) := by decide +kernel
theorem dX0_arcAround_45 : decode cX0_arcAround 45 = .ok (.getfield 25, 3) := by decide +kernel
theorem dX0_arcAround_48 : decode cX0_arcAround 48 = .ok (.iconst 1, 1) := by decide +kernel
theorem dX0_arcAround_49 : decode cX0_arcAround 49 = .ok (.isub, 1) := by decide +kernel
theorem dX0_arcAround_50 : decode cX0_arcAround 50 = .ok (.goto 4, 3) := by decide +kernel
theorem dX0_arcAround_53 : decode cX0_arcAround 53 = .ok (.iconst (-1), 1) := by decide +kernel
theorem dX0_arcAround_54 : decode cX0_arcAround 54 = .ok (.ireturn, 1) := by decide +kernel
theorem dX0_hardnessAt_0 : decode cX0_hardnessAt 0 = .ok (.aload_n 0, 1) := by decide +kernel
theorem dX0_hardnessAt_1 : decode cX0_hardnessAt 1 = .ok (.iload_n 1, 1) := by decide +kernel
theorem dX0_hardnessAt_2 : decode cX0_hardnessAt 2 = .ok (.invokevirtual 40, 3) := by decide +kernel
theorem dX0_hardnessAt_5 : decode cX0_hardnessAt 5 = .ok (.istore_n 2, 1) := by decide +kernel
theorem dX0_hardnessAt_6 : decode cX0_hardnessAt 6 = .ok (.iload_n 2, 1) := by decide +kernel
theorem dX0_hardnessAt_7 : decode cX0_hardnessAt 7 = .ok (.iconst 0, 1) := by decide +kernel
theorem dX0_hardnessAt_8 : decode cX0_hardnessAt 8 = .ok (.aload_n 0, 1) := by decide +kernel
theorem dX0_hardnessAt_9 : decode cX0_hardnessAt 9 = .ok (.getfield 25, 3) := by decide +kernel
theorem dX0_hardnessAt_12 : decode cX0_hardnessAt 12 = .ok (.iconst 1, 1) := by decide +kernel
theorem dX0_hardnessAt_13 : decode cX0_hardnessAt 13 = .ok (.isub, 1) := by decide +kernel
theorem dX0_hardnessAt_14 : decode cX0_hardnessAt 14 = .ok (.invokestatic 43, 3) := by decide +kernel
theorem dX0_hardnessAt_17 : decode cX0_hardnessAt 17 = .ok (.ifCond .eq 12, 3) := by decide +kernel
theorem dX0_hardnessAt_20 : decode cX0_hardnessAt 20 = .ok (.aload_n 0, 1) := by decide +kernel
theorem dX0_hardnessAt_21 : decode cX0_hardnessAt 21 = .ok (.getfield 18, 3) := by decide +kernel
theorem dX0_hardnessAt_24 : decode cX0_hardnessAt 24 = .ok (.iload_n 2, 1) := by decide +kernel
theorem dX0_hardnessAt_25 : decode cX0_hardnessAt 25 = .ok (.iaload, 1) := by decide +kernel
theorem dX0_hardnessAt_26 : decode cX0_hardnessAt 26 = .ok (.goto 4, 3) := by decide +kernel
theorem dX0_hardnessAt_29 : decode cX0_hardnessAt 29 = .ok (.iconst 0, 1) := by decide +kernel
theorem dX0_hardnessAt_30 : decode cX0_hardnessAt 30 = .ok (.ireturn, 1) := by decide +kernel
theorem dX0_partsTo_0 : decode cX0_partsTo 0 = .ok (.iconst 0, 1) := by decide +kernel
theorem dX0_partsTo_1 : decode cX0_partsTo 1 = .ok (.istore_n 2, 1) := by decide +kernel
theorem dX0_partsTo_2 : decode cX0_partsTo 2 = .ok (.iload_n 1, 1) := by decide +kernel
theorem dX0_partsTo_3 : decode cX0_partsTo 3 = .ok (.istore_n 3, 1) := by decide +kernel
theorem dX0_partsTo_4 : decode cX0_partsTo 4 = .ok (.iconst 0, 1) := by decide +kernel
theorem dX0_partsTo_5 : decode cX0_partsTo 5 = .ok (.istore 4, 2) := by decide +kernel
theorem dX0_partsTo_7 : decode cX0_partsTo 7 = .ok (.iload 4, 2) := by decide +kernel
theorem dX0_partsTo_9 : decode cX0_partsTo 9 = .ok (.aload_n 0, 1) := by decide +kernel
theorem dX0_partsTo_10 : decode cX0_partsTo 10 = .ok (.getfield 25, 3) := by decide +kernel
theorem dX0_partsTo_13 : decode cX0_partsTo 13 = .ok (.if_icmp .ge 39, 3) := by decide +kernel
theorem dX0_partsTo_16 : decode cX0_partsTo 16 = .ok (.iload_n 3, 1) := by decide +kernel
theorem dX0_partsTo_17 : decode cX0_partsTo 17 = .ok (.aload_n 0, 1) := by decide +kernel
theorem dX0_partsTo_18 : decode cX0_partsTo 18 = .ok (.iload 4, 2) := by decide +kernel
theorem dX0_partsTo_20 : decode cX0_partsTo 20 = .ok (.invokevirtual 47, 3) := by decide +kernel
theorem dX0_partsTo_23 : decode cX0_partsTo 23 = .ok (.invokestatic 50, 3) := by decide +kernel
theorem dX0_partsTo_26 : decode cX0_partsTo 26 = .ok (.istore 5, 2) := by decide +kernel
theorem dX0_partsTo_28 : decode cX0_partsTo 28 = .ok (.iload_n 2, 1) := by decide +kernel
theorem dX0_partsTo_29 : decode cX0_partsTo 29 = .ok (.aload_n 0, 1) := by decide +kernel
theorem dX0_partsTo_30 : decode cX0_partsTo 30 = .ok (.getfield 9, 3) := by decide +kernel
theorem dX0_partsTo_33 : decode cX0_partsTo 33 = .ok (.iload 4, 2) := by decide +kernel
theorem dX0_partsTo_35 : decode cX0_partsTo 35 = .ok (.iaload, 1) := by decide +kernel
theorem dX0_partsTo_36 : decode cX0_partsTo 36 = .ok (.iload 5, 2) := by decide +kernel
theorem dX0_partsTo_38 : decode cX0_partsTo 38 = .ok (.imul, 1) := by decide +kernel
theorem dX0_partsTo_39 : decode cX0_partsTo 39 = .ok (.iadd, 1) := by decide +kernel
theorem dX0_partsTo_40 : decode cX0_partsTo 40 = .ok (.istore_n 2, 1) := by decide +kernel
theorem dX0_partsTo_41 : decode cX0_partsTo 41 = .ok (.iload_n 3, 1) := by decide +kernel
theorem dX0_partsTo_42 : decode cX0_partsTo 42 = .ok (.iload 5, 2) := by decide +kernel
theorem dX0_partsTo_44 : decode cX0_partsTo 44 = .ok (.isub, 1) := by decide +kernel
theorem dX0_partsTo_45 : decode cX0_partsTo 45 = .ok (.istore_n 3, 1) := by decide +kernel
theorem dX0_partsTo_46 : decode cX0_partsTo 46 = .ok (.iinc 4 1, 3) := by decide +kernel
theorem dX0_partsTo_49 : decode cX0_partsTo 49 = .ok (.goto (-42), 3) := by decide +kernel
theorem dX0_partsTo_52 : decode cX0_partsTo 52 = .ok (.iload_n 2, 1) := by decide +kernel
theorem dX0_partsTo_53 : decode cX0_partsTo 53 = .ok (.ireturn, 1) := by decide +kernel
theorem dX0_headingTo_0 : decode cX0_headingTo 0 = .ok (.iconst 0, 1) := by decide +kernel
theorem dX0_headingTo_1 : decode cX0_headingTo 1 = .ok (.istore_n 2, 1) := by decide +kernel
theorem dX0_headingTo_2 : decode cX0_headingTo 2 = .ok (.iload_n 1, 1) := by decide +kernel
theorem dX0_headingTo_3 : decode cX0_headingTo 3 = .ok (.istore_n 3, 1) := by decide +kernel
theorem dX0_headingTo_4 : decode cX0_headingTo 4 = .ok (.iconst 0, 1) := by decide +kernel
theorem dX0_headingTo_5 : decode cX0_headingTo 5 = .ok (.istore 4, 2) := by decide +kernel
theorem dX0_headingTo_7 : decode cX0_headingTo 7 = .ok (.iload 4, 2) := by decide +kernel
theorem dX0_headingTo_9 : decode cX0_headingTo 9 = .ok (.aload_n 0, 1) := by decide +kernel
theorem dX0_headingTo_10 : decode cX0_headingTo 10 = .ok (.getfield 25, 3) := by decide +kernel
theorem dX0_headingTo_13 : decode cX0_headingTo 13 = .ok (.if_icmp .ge 47, 3) := by decide +kernel
theorem dX0_headingTo_16 : decode cX0_headingTo 16 = .ok (.iload_n 3, 1) := by decide +kernel
theorem dX0_headingTo_17 : decode cX0_headingTo 17 = .ok (.aload_n 0, 1) := by decide +kernel
theorem dX0_headingTo_18 : decode cX0_headingTo 18 = .ok (.iload 4, 2) := by decide +kernel
theorem dX0_headingTo_20 : decode cX0_headingTo 20 = .ok (.invokevirtual 47, 3) := by decide +kernel
theorem dX0_headingTo_23 : decode cX0_headingTo 23 = .ok (.invokestatic 50, 3) := by decide +kernel
theorem dX0_headingTo_26 : decode cX0_headingTo 26 = .ok (.istore 5, 2) := by decide +kernel
theorem dX0_headingTo_28 : decode cX0_headingTo 28 = .ok (.iload_n 2, 1) := by decide +kernel
theorem dX0_headingTo_29 : decode cX0_headingTo 29 = .ok (.aload_n 0, 1) := by decide +kernel
theorem dX0_headingTo_30 : decode cX0_headingTo 30 = .ok (.getfield 21, 3) := by decide +kernel
theorem dX0_headingTo_33 : decode cX0_headingTo 33 = .ok (.iload 4, 2) := by decide +kernel
theorem dX0_headingTo_35 : decode cX0_headingTo 35 = .ok (.baload, 1) := by decide +kernel
theorem dX0_headingTo_36 : decode cX0_headingTo 36 = .ok (.ifCond .eq 9, 3) := by decide +kernel
theorem dX0_headingTo_39 : decode cX0_headingTo 39 = .ok (.iload 5, 2) := by decide +kernel
theorem dX0_headingTo_41 : decode cX0_headingTo 41 = .ok (.ineg, 1) := by decide +kernel
theorem dX0_headingTo_42 : decode cX0_headingTo 42 = .ok (.goto 5, 3) := by decide +kernel
theorem dX0_headingTo_45 : decode cX0_headingTo 45 = .ok (.iload 5, 2) := by decide +kernel
theorem dX0_headingTo_47 : decode cX0_headingTo 47 = .ok (.iadd, 1) := by decide +kernel
theorem dX0_headingTo_48 : decode cX0_headingTo 48 = .ok (.istore_n 2, 1) := by decide +kernel
theorem dX0_headingTo_49 : decode cX0_headingTo 49 = .ok (.iload_n 3, 1) := by decide +kernel
theorem dX0_headingTo_50 : decode cX0_headingTo 50 = .ok (.iload 5, 2) := by decide +kernel
theorem dX0_headingTo_52 : decode cX0_headingTo 52 = .ok (.isub, 1) := by decide +kernel
theorem dX0_headingTo_53 : decode cX0_headingTo 53 = .ok (.istore_n 3, 1) := by decide +kernel
theorem dX0_headingTo_54 : decode cX0_headingTo 54 = .ok (.iinc 4 1, 3) := by decide +kernel
theorem dX0_headingTo_57 : decode cX0_headingTo 57 = .ok (.goto (-50), 3) := by decide +kernel
theorem dX0_headingTo_60 : decode cX0_headingTo 60 = .ok (.iload_n 2, 1) := by decide +kernel
theorem dX0_headingTo_61 : decode cX0_headingTo 61 = .ok (.sipush 3600, 3) := by decide +kernel
theorem dX0_headingTo_64 : decode cX0_headingTo 64 = .ok (.invokestatic 56, 3) := by decide +kernel
theorem dX0_headingTo_67 : decode cX0_headingTo 67 = .ok (.ireturn, 1) := by decide +kernel
theorem dX0_turnWithin_0 : decode cX0_turnWithin 0 = .ok (.iconst 0, 1) := by decide +kernel
theorem dX0_turnWithin_1 : decode cX0_turnWithin 1 = .ok (.istore_n 2, 1) := by decide +kernel
theorem dX0_turnWithin_2 : decode cX0_turnWithin 2 = .ok (.iload_n 1, 1) := by decide +kernel
theorem dX0_turnWithin_3 : decode cX0_turnWithin 3 = .ok (.istore_n 3, 1) := by decide +kernel
theorem dX0_turnWithin_4 : decode cX0_turnWithin 4 = .ok (.iconst 0, 1) := by decide +kernel
theorem dX0_turnWithin_5 : decode cX0_turnWithin 5 = .ok (.istore 4, 2) := by decide +kernel
theorem dX0_turnWithin_7 : decode cX0_turnWithin 7 = .ok (.iload 4, 2) := by decide +kernel
theorem dX0_turnWithin_9 : decode cX0_turnWithin 9 = .ok (.aload_n 0, 1) := by decide +kernel
theorem dX0_turnWithin_10 : decode cX0_turnWithin 10 = .ok (.getfield 25, 3) := by decide +kernel
theorem dX0_turnWithin_13 : decode cX0_turnWithin 13 = .ok (.if_icmp .ge 71, 3) := by decide +kernel
theorem dX0_turnWithin_16 : decode cX0_turnWithin 16 = .ok (.aload_n 0, 1) := by decide +kernel
theorem dX0_turnWithin_17 : decode cX0_turnWithin 17 = .ok (.getfield 9, 3) := by decide +kernel
theorem dX0_turnWithin_20 : decode cX0_turnWithin 20 = .ok (.iload 4, 2) := by decide +kernel
theorem dX0_turnWithin_22 : decode cX0_turnWithin 22 = .ok (.iaload, 1) := by decide +kernel
theorem dX0_turnWithin_23 : decode cX0_turnWithin 23 = .ok (.aload_n 0, 1) := by decide +kernel
theorem dX0_turnWithin_24 : decode cX0_turnWithin 24 = .ok (.iload 4, 2) := by decide +kernel
theorem dX0_turnWithin_26 : decode cX0_turnWithin 26 = .ok (.invokevirtual 47, 3) := by decide +kernel
theorem dX0_turnWithin_29 : decode cX0_turnWithin 29 = .ok (.imul, 1) := by decide +kernel
theorem dX0_turnWithin_30 : decode cX0_turnWithin 30 = .ok (.istore 5, 2) := by decide +kernel
theorem dX0_turnWithin_32 : decode cX0_turnWithin 32 = .ok (.iload_n 3, 1) := by decide +kernel
theorem dX0_turnWithin_33 : decode cX0_turnWithin 33 = .ok (.iload 5, 2) := by decide +kernel
theorem dX0_turnWithin_35 : decode cX0_turnWithin 35 = .ok (.if_icmp .ge 29, 3) := by decide +kernel
theorem dX0_turnWithin_38 : decode cX0_turnWithin 38 = .ok (.aload_n 0, 1) := by decide +kernel
theorem dX0_turnWithin_39 : decode cX0_turnWithin 39 = .ok (.getfield 9, 3) := by decide +kernel
theorem dX0_turnWithin_42 : decode cX0_turnWithin 42 = .ok (.iload 4, 2) := by decide +kernel
theorem dX0_turnWithin_44 : decode cX0_turnWithin 44 = .ok (.iaload, 1) := by decide +kernel
theorem dX0_turnWithin_45 : decode cX0_turnWithin 45 = .ok (.ifCond .le 17, 3) := by decide +kernel
theorem dX0_turnWithin_48 : decode cX0_turnWithin 48 = .ok (.iload_n 2, 1) := by decide +kernel
theorem dX0_turnWithin_49 : decode cX0_turnWithin 49 = .ok (.iload_n 3, 1) := by decide +kernel
theorem dX0_turnWithin_50 : decode cX0_turnWithin 50 = .ok (.aload_n 0, 1) := by decide +kernel
theorem dX0_turnWithin_51 : decode cX0_turnWithin 51 = .ok (.getfield 9, 3) := by decide +kernel
theorem dX0_turnWithin_54 : decode cX0_turnWithin 54 = .ok (.iload 4, 2) := by decide +kernel
theorem dX0_turnWithin_56 : decode cX0_turnWithin 56 = .ok (.iaload, 1) := by decide +kernel
theorem dX0_turnWithin_57 : decode cX0_turnWithin 57 = .ok (.idiv, 1) := by decide +kernel
theorem dX0_turnWithin_58 : decode cX0_turnWithin 58 = .ok (.iadd, 1) := by decide +kernel
theorem dX0_turnWithin_59 : decode cX0_turnWithin 59 = .ok (.goto 4, 3) := by decide +kernel
theorem dX0_turnWithin_62 : decode cX0_turnWithin 62 = .ok (.iload_n 2, 1) := by decide +kernel
theorem dX0_turnWithin_63 : decode cX0_turnWithin 63 = .ok (.ireturn, 1) := by decide +kernel
theorem dX0_turnWithin_64 : decode cX0_turnWithin 64 = .ok (.iload_n 2, 1) := by decide +kernel
theorem dX0_turnWithin_65 : decode cX0_turnWithin 65 = .ok (.aload_n 0, 1) := by decide +kernel
theorem dX0_turnWithin_66 : decode cX0_turnWithin 66 = .ok (.iload 4, 2) := by decide +kernel
theorem dX0_turnWithin_68 : decode cX0_turnWithin 68 = .ok (.invokevirtual 47, 3) := by decide +kernel
theorem dX0_turnWithin_71 : decode cX0_turnWithin 71 = .ok (.iadd, 1) := by decide +kernel
theorem dX0_turnWithin_72 : decode cX0_turnWithin 72 = .ok (.istore_n 2, 1) := by decide +kernel
theorem dX0_turnWithin_73 : decode cX0_turnWithin 73 = .ok (.iload_n 3, 1) := by decide +kernel
theorem dX0_turnWithin_74 : decode cX0_turnWithin 74 = .ok (.iload 5, 2) := by decide +kernel
theorem dX0_turnWithin_76 : decode cX0_turnWithin 76 = .ok (.isub, 1) := by decide +kernel
theorem dX0_turnWithin_77 : decode cX0_turnWithin 77 = .ok (.istore_n 3, 1) := by decide +kernel
theorem dX0_turnWithin_78 : decode cX0_turnWithin 78 = .ok (.iinc 4 1, 3) := by decide +kernel
theorem dX0_turnWithin_81 : decode cX0_turnWithin 81 = .ok (.goto (-74), 3) := by decide +kernel
theorem dX0_turnWithin_84 : decode cX0_turnWithin 84 = .ok (.iload_n 2, 1) := by decide +kernel
theorem dX0_turnWithin_85 : decode cX0_turnWithin 85 = .ok (.ireturn, 1) := by decide +kernel
theorem dX0_greatestBend_0 : decode cX0_greatestBend 0 = .ok (.iconst 0, 1) := by decide +kernel
theorem dX0_greatestBend_1 : decode cX0_greatestBend 1 = .ok (.istore_n 1, 1) := by decide +kernel
theorem dX0_greatestBend_2 : decode cX0_greatestBend 2 = .ok (.iconst 0, 1) := by decide +kernel
theorem dX0_greatestBend_3 : decode cX0_greatestBend 3 = .ok (.istore_n 2, 1) := by decide +kernel
theorem dX0_greatestBend_4 : decode cX0_greatestBend 4 = .ok (.iconst 0, 1) := by decide +kernel
theorem dX0_greatestBend_5 : decode cX0_greatestBend 5 = .ok (.istore_n 3, 1) := by decide +kernel
theorem dX0_greatestBend_6 : decode cX0_greatestBend 6 = .ok (.iload_n 3, 1) := by decide +kernel
theorem dX0_greatestBend_7 : decode cX0_greatestBend 7 = .ok (.aload_n 0, 1) := by decide +kernel
theorem dX0_greatestBend_8 : decode cX0_greatestBend 8 = .ok (.getfield 25, 3) := by decide +kernel
theorem dX0_greatestBend_11 : decode cX0_greatestBend 11 = .ok (.if_icmp .ge 41, 3) := by decide +kernel
theorem dX0_greatestBend_14 : decode cX0_greatestBend 14 = .ok (.iload_n 2, 1) := by decide +kernel
theorem dX0_greatestBend_15 : decode cX0_greatestBend 15 = .ok (.aload_n 0, 1) := by decide +kernel
theorem dX0_greatestBend_16 : decode cX0_greatestBend 16 = .ok (.getfield 21, 3) := by decide +kernel
theorem dX0_greatestBend_19 : decode cX0_greatestBend 19 = .ok (.iload_n 3, 1) := by decide +kernel
theorem dX0_greatestBend_20 : decode cX0_greatestBend 20 = .ok (.baload, 1) := by decide +kernel
theorem dX0_greatestBend_21 : decode cX0_greatestBend 21 = .ok (.ifCond .eq 12, 3) := by decide +kernel
theorem dX0_greatestBend_24 : decode cX0_greatestBend 24 = .ok (.aload_n 0, 1) := by decide +kernel
theorem dX0_greatestBend_25 : decode cX0_greatestBend 25 = .ok (.iload_n 3, 1) := by decide +kernel
theorem dX0_greatestBend_26 : decode cX0_greatestBend 26 = .ok (.invokevirtual 47, 3) := by decide +kernel
theorem dX0_greatestBend_29 : decode cX0_greatestBend 29 = .ok (.ineg, 1) := by decide +kernel
theorem dX0_greatestBend_30 : decode cX0_greatestBend 30 = .ok (.goto 8, 3) := by decide +kernel
theorem dX0_greatestBend_33 : decode cX0_greatestBend 33 = .ok (.aload_n 0, 1) := by decide +kernel
theorem dX0_greatestBend_34 : decode cX0_greatestBend 34 = .ok (.iload_n 3, 1) := by decide +kernel
theorem dX0_greatestBend_35 : decode cX0_greatestBend 35 = .ok (.invokevirtual 47, 3) := by decide +kernel
theorem dX0_greatestBend_38 : decode cX0_greatestBend 38 = .ok (.iadd, 1) := by decide +kernel
theorem dX0_greatestBend_39 : decode cX0_greatestBend 39 = .ok (.istore_n 2, 1) := by decide +kernel
theorem dX0_greatestBend_40 : decode cX0_greatestBend 40 = .ok (.iload_n 1, 1) := by decide +kernel
theorem dX0_greatestBend_41 : decode cX0_greatestBend 41 = .ok (.iload_n 2, 1) := by decide +kernel
theorem dX0_greatestBend_42 : decode cX0_greatestBend 42 = .ok (.invokestatic 59, 3) := by decide +kernel
theorem dX0_greatestBend_45 : decode cX0_greatestBend 45 = .ok (.istore_n 1, 1) := by decide +kernel
theorem dX0_greatestBend_46 : decode cX0_greatestBend 46 = .ok (.iinc 3 1, 3) := by decide +kernel
theorem dX0_greatestBend_49 : decode cX0_greatestBend 49 = .ok (.goto (-43), 3) := by decide +kernel
theorem dX0_greatestBend_52 : decode cX0_greatestBend 52 = .ok (.iload_n 1, 1) := by decide +kernel
theorem dX0_greatestBend_53 : decode cX0_greatestBend 53 = .ok (.ireturn, 1) := by decide +kernel
theorem dX1_init_0 : decode cX1_init 0 = .ok (.aload_n 0, 1) := by decide +kernel
theorem dX1_init_1 : decode cX1_init 1 = .ok (.invokespecial 3, 3) := by decide +kernel
theorem dX1_init_4 : decode cX1_init 4 = .ok (.aload_n 0, 1) := by decide +kernel
theorem dX1_init_5 : decode cX1_init 5 = .ok (.bipush 50, 2) := by decide +kernel
theorem dX1_init_7 : decode cX1_init 7 = .ok (.putfield 11, 3) := by decide +kernel
theorem dX1_init_10 : decode cX1_init 10 = .ok (.aload_n 0, 1) := by decide +kernel
theorem dX1_init_11 : decode cX1_init 11 = .ok (.iconst 1, 1) := by decide +kernel
theorem dX1_init_12 : decode cX1_init 12 = .ok (.putfield 15, 3) := by decide +kernel
theorem dX1_init_15 : decode cX1_init 15 = .ok (.return_, 1) := by decide +kernel
theorem dX1_clear_0 : decode cX1_clear 0 = .ok (.aload_n 0, 1) := by decide +kernel
theorem dX1_clear_1 : decode cX1_clear 1 = .ok (.bipush 50, 2) := by decide +kernel
theorem dX1_clear_3 : decode cX1_clear 3 = .ok (.putfield 11, 3) := by decide +kernel
theorem dX1_clear_6 : decode cX1_clear 6 = .ok (.aload_n 0, 1) := by decide +kernel
theorem dX1_clear_7 : decode cX1_clear 7 = .ok (.iconst 1, 1) := by decide +kernel
theorem dX1_clear_8 : decode cX1_clear 8 = .ok (.putfield 15, 3) := by decide +kernel
theorem dX1_clear_11 : decode cX1_clear 11 = .ok (.aload_n 0, 1) := by decide +kernel
theorem dX1_clear_12 : decode cX1_clear 12 = .ok (.iconst 0, 1) := by decide +kernel
theorem dX1_clear_13 : decode cX1_clear 13 = .ok (.putfield 18, 3) := by decide +kernel
theorem dX1_clear_16 : decode cX1_clear 16 = .ok (.aload_n 0, 1) := by decide +kernel
theorem dX1_clear_17 : decode cX1_clear 17 = .ok (.iconst 0, 1) := by decide +kernel
theorem dX1_clear_18 : decode cX1_clear 18 = .ok (.putfield 21, 3) := by decide +kernel
theorem dX1_clear_21 : decode cX1_clear 21 = .ok (.return_, 1) := by decide +kernel
theorem dX1_copyFrom_0 : decode cX1_copyFrom 0 = .ok (.aload_n 0, 1) := by decide +kernel
theorem dX1_copyFrom_1 : decode cX1_copyFrom 1 = .ok (.aload_n 1, 1) := by decide +kernel
theorem dX1_copyFrom_2 : decode cX1_copyFrom 2 = .ok (.getfield 11, 3) := by decide +kernel
theorem dX1_copyFrom_5 : decode cX1_copyFrom 5 = .ok (.putfield 11, 3) := by decide +kernel
theorem dX1_copyFrom_8 : decode cX1_copyFrom 8 = .ok (.aload_n 0, 1) := by decide +kernel
theorem dX1_copyFrom_9 : decode cX1_copyFrom 9 = .ok (.aload_n 1, 1) := by decide +kernel
theorem dX1_copyFrom_10 : decode cX1_copyFrom 10 = .ok (.getfield 15, 3) := by decide +kernel
theorem dX1_copyFrom_13 : decode cX1_copyFrom 13 = .ok (.putfield 15, 3) := by decide +kernel
theorem dX1_copyFrom_16 : decode cX1_copyFrom 16 = .ok (.aload_n 0, 1) := by decide +kernel
theorem dX1_copyFrom_17 : decode cX1_copyFrom 17 = .ok (.aload_n 1, 1) := by decide +kernel
theorem dX1_copyFrom_18 : decode cX1_copyFrom 18 = .ok (.getfield 18, 3) := by decide +kernel
theorem dX1_copyFrom_21 : decode cX1_copyFrom 21 = .ok (.putfield 18, 3) := by decide +kernel
theorem dX1_copyFrom_24 : decode cX1_copyFrom 24 = .ok (.aload_n 0, 1) := by decide +kernel
theorem dX1_copyFrom_25 : decode cX1_copyFrom 25 = .ok (.aload_n 1, 1) := by decide +kernel
theorem dX1_copyFrom_26 : decode cX1_copyFrom 26 = .ok (.getfield 21, 3) := by decide +kernel
theorem dX1_copyFrom_29 : decode cX1_copyFrom 29 = .ok (.putfield 21, 3) := by decide +kernel
theorem dX1_copyFrom_32 : decode cX1_copyFrom 32 = .ok (.return_, 1) := by decide +kernel
theorem dX1_canSharpenBy_0 : decode cX1_canSharpenBy 0 = .ok (.iload_n 0, 1) := by decide +kernel
theorem dX1_canSharpenBy_1 : decode cX1_canSharpenBy 1 = .ok (.iconst 1, 1) := by decide +kernel
theorem dX1_canSharpenBy_2 : decode cX1_canSharpenBy 2 = .ok (.bipush 99, 2) := by decide +kernel
theorem dX1_canSharpenBy_4 : decode cX1_canSharpenBy 4 = .ok (.invokestatic 24, 3) := by decide +kernel
theorem dX1_canSharpenBy_7 : decode cX1_canSharpenBy 7 = .ok (.ireturn, 1) := by decide +kernel
theorem dX1_sharpenBy_0 : decode cX1_sharpenBy 0 = .ok (.aload_n 0, 1) := by decide +kernel
theorem dX1_sharpenBy_1 : decode cX1_sharpenBy 1 = .ok (.bipush 99, 2) := by decide +kernel
theorem dX1_sharpenBy_3 : decode cX1_sharpenBy 3 = .ok (.aload_n 0, 1) := by decide +kernel
theorem dX1_sharpenBy_4 : decode cX1_sharpenBy 4 = .ok (.getfield 11, 3) := by decide +kernel
theorem dX1_sharpenBy_7 : decode cX1_sharpenBy 7 = .ok (.iload_n 1, 1) := by decide +kernel
theorem dX1_sharpenBy_8 : decode cX1_sharpenBy 8 = .ok (.iadd, 1) := by decide +kernel
theorem dX1_sharpenBy_9 : decode cX1_sharpenBy 9 = .ok (.invokestatic 28, 3) := by decide +kernel
theorem dX1_sharpenBy_12 : decode cX1_sharpenBy 12 = .ok (.putfield 11, 3) := by decide +kernel
theorem dX1_sharpenBy_15 : decode cX1_sharpenBy 15 = .ok (.aload_n 0, 1) := by decide +kernel
theorem dX1_sharpenBy_16 : decode cX1_sharpenBy 16 = .ok (.getfield 11, 3) := by decide +kernel
theorem dX1_sharpenBy_19 : decode cX1_sharpenBy 19 = .ok (.ireturn, 1) := by decide +kernel
theorem dX1_reachOfStroke_0 : decode cX1_reachOfStroke 0 = .ok (.iconst 0, 1) := by decide +kernel
theorem dX1_reachOfStroke_1 : decode cX1_reachOfStroke 1 = .ok (.istore_n 2, 1) := by decide +kernel
theorem dX1_reachOfStroke_2 : decode cX1_reachOfStroke 2 = .ok (.aload_n 0, 1) := by decide +kernel
theorem dX1_reachOfStroke_3 : decode cX1_reachOfStroke 3 = .ok (.getfield 11, 3) := by decide +kernel
theorem dX1_reachOfStroke_6 : decode cX1_reachOfStroke 6 = .ok (.iload_n 1, 1) := by decide +kernel
theorem dX1_reachOfStroke_7 : decode cX1_reachOfStroke 7 = .ok (.if_icmp .ge 44, 3) := by decide +kernel
theorem dX1_reachOfStroke_10 : decode cX1_reachOfStroke 10 = .ok (.aload_n 0, 1) := by decide +kernel
theorem dX1_reachOfStroke_11 : decode cX1_reachOfStroke 11 = .ok (.invokevirtual 34, 3) := by decide +kernel
theorem dX1_reachOfStroke_14 : decode cX1_reachOfStroke 14 = .ok (.bipush 100, 2) := by decide +kernel
theorem dX1_reachOfStroke_16 : decode cX1_reachOfStroke 16 = .ok (.irem, 1) := by decide +kernel
theorem dX1_reachOfStroke_17 : decode cX1_reachOfStroke 17 = .ok (.iconst 2, 1) := by decide +kernel
theorem dX1_reachOfStroke_18 : decode cX1_reachOfStroke 18 = .ok (.iload_n 1, 1) := by decide +kernel
theorem dX1_reachOfStroke_19 : decode cX1_reachOfStroke 19 = .ok (.aload_n 0, 1) := by decide +kernel
theorem dX1_reachOfStroke_20 : decode cX1_reachOfStroke 20 = .ok (.getfield 11, 3) := by decide +kernel
theorem dX1_reachOfStroke_23 : decode cX1_reachOfStroke 23 = .ok (.isub, 1) := by decide +kernel
theorem dX1_reachOfStroke_24 : decode cX1_reachOfStroke 24 = .ok (.imul, 1) := by decide +kernel
theorem dX1_reachOfStroke_25 : decode cX1_reachOfStroke 25 = .ok (.if_icmp .ge 26, 3) := by decide +kernel
theorem dX1_reachOfStroke_28 : decode cX1_reachOfStroke 28 = .ok (.bipush 100, 2) := by decide +kernel
theorem dX1_reachOfStroke_30 : decode cX1_reachOfStroke 30 = .ok (.iconst 1, 1) := by decide +kernel
theorem dX1_reachOfStroke_31 : decode cX1_reachOfStroke 31 = .ok (.aload_n 0, 1) := by decide +kernel
theorem dX1_reachOfStroke_32 : decode cX1_reachOfStroke 32 = .ok (.invokevirtual 34, 3) := by decide +kernel
theorem dX1_reachOfStroke_35 : decode cX1_reachOfStroke 35 = .ok (.bipush 20, 2) := by decide +kernel
theorem dX1_reachOfStroke_37 : decode cX1_reachOfStroke 37 = .ok (.irem, 1) := by decide +kernel
theorem dX1_reachOfStroke_38 : decode cX1_reachOfStroke 38 = .ok (.iadd, 1) := by decide +kernel
theorem dX1_reachOfStroke_39 : decode cX1_reachOfStroke 39 = .ok (.imul, 1) := by decide +kernel
theorem dX1_reachOfStroke_40 : decode cX1_reachOfStroke 40 = .ok (.istore_n 2, 1) := by decide +kernel
theorem dX1_reachOfStroke_41 : decode cX1_reachOfStroke 41 = .ok (.aload_n 0, 1) := by decide +kernel
theorem dX1_reachOfStroke_42 : decode cX1_reachOfStroke 42 = .ok (.dup, 1) := by decide +kernel
theorem dX1_reachOfStroke_43 : decode cX1_reachOfStroke 43 = .ok (.getfield 18, 3) := by decide +kernel
theorem dX1_reachOfStroke_46 : decode cX1_reachOfStroke 46 = .ok (.iconst 1, 1) := by decide +kernel
theorem dX1_reachOfStroke_47 : decode cX1_reachOfStroke 47 = .ok (.iadd, 1) := by decide +kernel
theorem dX1_reachOfStroke_48 : decode cX1_reachOfStroke 48 = .ok (.putfield 18, 3) := by decide +kernel
theorem dX1_reachOfStroke_51 : decode cX1_reachOfStroke 51 = .ok (.aload_n 0, 1) := by decide +kernel
theorem dX1_reachOfStroke_52 : decode cX1_reachOfStroke 52 = .ok (.iconst 0, 1) := by decide +kernel
theorem dX1_reachOfStroke_53 : decode cX1_reachOfStroke 53 = .ok (.aload_n 0, 1) := by decide +kernel
theorem dX1_reachOfStroke_54 : decode cX1_reachOfStroke 54 = .ok (.getfield 11, 3) := by decide +kernel
theorem dX1_reachOfStroke_57 : decode cX1_reachOfStroke 57 = .ok (.iconst 1, 1) := by decide +kernel
theorem dX1_reachOfStroke_58 : decode cX1_reachOfStroke 58 = .ok (.isub, 1) := by decide +kernel
theorem dX1_reachOfStroke_59 : decode cX1_reachOfStroke 59 = .ok (.invokestatic 38, 3) := by decide +kernel
theorem dX1_reachOfStroke_62 : decode cX1_reachOfStroke 62 = .ok (.putfield 11, 3) := by decide +kernel
theorem dX1_reachOfStroke_65 : decode cX1_reachOfStroke 65 = .ok (.aload_n 0, 1) := by decide +kernel
theorem dX1_reachOfStroke_66 : decode cX1_reachOfStroke 66 = .ok (.dup, 1) := by decide +kernel
theorem dX1_reachOfStroke_67 : decode cX1_reachOfStroke 67 = .ok (.getfield 21, 3) := by decide +kernel
theorem dX1_reachOfStroke_70 : decode cX1_reachOfStroke 70 = .ok (.iconst 1, 1) := by decide +kernel
theorem dX1_reachOfStroke_71 : decode cX1_reachOfStroke 71 = .ok (.iadd, 1) := by decide +kernel
theorem dX1_reachOfStroke_72 : decode cX1_reachOfStroke 72 = .ok (.putfield 21, 3) := by decide +kernel
theorem dX1_reachOfStroke_75 : decode cX1_reachOfStroke 75 = .ok (.iload_n 2, 1) := by decide +kernel
theorem dX1_reachOfStroke_76 : decode cX1_reachOfStroke 76 = .ok (.ireturn, 1) := by decide +kernel
theorem dX1_nextBits_0 : decode cX1_nextBits 0 = .ok (.aload_n 0, 1) := by decide +kernel
theorem dX1_nextBits_1 : decode cX1_nextBits 1 = .ok (.aload_n 0, 1) := by decide +kernel
theorem dX1_nextBits_2 : decode cX1_nextBits 2 = .ok (.getfield 15, 3) := by decide +kernel
theorem dX1_nextBits_5 : decode cX1_nextBits 5 = .ok (.ldc 41, 2) := by decide +kernel
theorem dX1_nextBits_7 : decode cX1_nextBits 7 = .ok (.imul, 1) := by decide +kernel
theorem dX1_nextBits_8 : decode cX1_nextBits 8 = .ok (.sipush 12345, 3) := by decide +kernel
theorem dX1_nextBits_11 : decode cX1_nextBits 11 = .ok (.iadd, 1) := by decide +kernel
theorem dX1_nextBits_12 : decode cX1_nextBits 12 = .ok (.putfield 15, 3) := by decide +kernel
theorem dX1_nextBits_15 : decode cX1_nextBits 15 = .ok (.aload_n 0, 1) := by decide +kernel
theorem dX1_nextBits_16 : decode cX1_nextBits 16 = .ok (.getfield 15, 3) := by decide +kernel
theorem dX1_nextBits_19 : decode cX1_nextBits 19 = .ok (.bipush 16, 2) := by decide +kernel
theorem dX1_nextBits_21 : decode cX1_nextBits 21 = .ok (.iushr, 1) := by decide +kernel
theorem dX1_nextBits_22 : decode cX1_nextBits 22 = .ok (.ireturn, 1) := by decide +kernel
theorem dX2_init_0 : decode cX2_init 0 = .ok (.aload_n 0, 1) := by decide +kernel
theorem dX2_init_1 : decode cX2_init 1 = .ok (.invokespecial 3, 3) := by decide +kernel
theorem dX2_init_4 : decode cX2_init 4 = .ok (.aload_n 0, 1) := by decide +kernel
theorem dX2_init_5 : decode cX2_init 5 = .ok (.bipush 48, 2) := by decide +kernel
theorem dX2_init_7 : decode cX2_init 7 = .ok (.newarray .int, 2) := by decide +kernel
theorem dX2_init_9 : decode cX2_init 9 = .ok (.putfield 9, 3) := by decide +kernel
theorem dX2_init_12 : decode cX2_init 12 = .ok (.aload_n 0, 1) := by decide +kernel
theorem dX2_init_13 : decode cX2_init 13 = .ok (.bipush 6, 2) := by decide +kernel
theorem dX2_init_15 : decode cX2_init 15 = .ok (.newarray .int, 2) := by decide +kernel
theorem dX2_init_17 : decode cX2_init 17 = .ok (.putfield 15, 3) := by decide +kernel
theorem dX2_init_20 : decode cX2_init 20 = .ok (.aload_n 0, 1) := by decide +kernel
theorem dX2_init_21 : decode cX2_init 21 = .ok (.bipush 6, 2) := by decide +kernel
theorem dX2_init_23 : decode cX2_init 23 = .ok (.newarray .int, 2) := by decide +kernel
theorem dX2_init_25 : decode cX2_init 25 = .ok (.putfield 18, 3) := by decide +kernel
theorem dX2_init_28 : decode cX2_init 28 = .ok (.aload_n 0, 1) := by decide +kernel
theorem dX2_init_29 : decode cX2_init 29 = .ok (.bipush 6, 2) := by decide +kernel
theorem dX2_init_31 : decode cX2_init 31 = .ok (.newarray .int, 2) := by decide +kernel
theorem dX2_init_33 : decode cX2_init 33 = .ok (.putfield 21, 3) := by decide +kernel
theorem dX2_init_36 : decode cX2_init 36 = .ok (.return_, 1) := by decide +kernel
theorem dX2_copyFrom_0 : decode cX2_copyFrom 0 = .ok (.aload_n 0, 1) := by decide +kernel
theorem dX2_copyFrom_1 : decode cX2_copyFrom 1 = .ok (.aload_n 1, 1) := by decide +kernel
theorem dX2_copyFrom_2 : decode cX2_copyFrom 2 = .ok (.getfield 24, 3) := by decide +kernel
theorem dX2_copyFrom_5 : decode cX2_copyFrom 5 = .ok (.putfield 24, 3) := by decide +kernel
theorem dX2_copyFrom_8 : decode cX2_copyFrom 8 = .ok (.iconst 0, 1) := by decide +kernel
theorem dX2_copyFrom_9 : decode cX2_copyFrom 9 = .ok (.istore_n 2, 1) := by decide +kernel
theorem dX2_copyFrom_10 : decode cX2_copyFrom 10 = .ok (.iload_n 2, 1) := by decide +kernel
theorem dX2_copyFrom_11 : decode cX2_copyFrom 11 = .ok (.aload_n 0, 1) := by decide +kernel
theorem dX2_copyFrom_12 : decode cX2_copyFrom 12 = .ok (.getfield 24, 3) := by decide +kernel
theorem dX2_copyFrom_15 : decode cX2_copyFrom 15 = .ok (.if_icmp .ge 45, 3) := by decide +kernel
theorem dX2_copyFrom_18 : decode cX2_copyFrom 18 = .ok (.aload_n 0, 1) := by decide +kernel
theorem dX2_copyFrom_19 : decode cX2_copyFrom 19 = .ok (.getfield 15, 3) := by decide +kernel
theorem dX2_copyFrom_22 : decode cX2_copyFrom 22 = .ok (.iload_n 2, 1) := by decide +kernel
theorem dX2_copyFrom_23 : decode cX2_copyFrom 23 = .ok (.aload_n 1, 1) := by decide +kernel
theorem dX2_copyFrom_24 : decode cX2_copyFrom 24 = .ok (.getfield 15, 3) := by decide +kernel
theorem dX2_copyFrom_27 : decode cX2_copyFrom 27 = .ok (.iload_n 2, 1) := by decide +kernel
theorem dX2_copyFrom_28 : decode cX2_copyFrom 28 = .ok (.iaload, 1) := by decide +kernel
theorem dX2_copyFrom_29 : decode cX2_copyFrom 29 = .ok (.iastore, 1) := by decide +kernel
theorem dX2_copyFrom_30 : decode cX2_copyFrom 30 = .ok (.aload_n 0, 1) := by decide +kernel
theorem dX2_copyFrom_31 : decode cX2_copyFrom 31 = .ok (.getfield 18, 3) := by decide +kernel
theorem dX2_copyFrom_34 : decode cX2_copyFrom 34 = .ok (.iload_n 2, 1) := by decide +kernel
theorem dX2_copyFrom_35 : decode cX2_copyFrom 35 = .ok (.aload_n 1, 1) := by decide +kernel
theorem dX2_copyFrom_36 : decode cX2_copyFrom 36 = .ok (.getfield 18, 3) := by decide +kernel
theorem dX2_copyFrom_39 : decode cX2_copyFrom 39 = .ok (.iload_n 2, 1) := by decide +kernel
theorem dX2_copyFrom_40 : decode cX2_copyFrom 40 = .ok (.iaload, 1) := by decide +kernel
theorem dX2_copyFrom_41 : decode cX2_copyFrom 41 = .ok (.iastore, 1) := by decide +kernel
theorem dX2_copyFrom_42 : decode cX2_copyFrom 42 = .ok (.aload_n 0, 1) := by decide +kernel
theorem dX2_copyFrom_43 : decode cX2_copyFrom 43 = .ok (.getfield 21, 3) := by decide +kernel
theorem dX2_copyFrom_46 : decode cX2_copyFrom 46 = .ok (.iload_n 2, 1) := by decide +kernel
theorem dX2_copyFrom_47 : decode cX2_copyFrom 47 = .ok (.aload_n 1, 1) := by decide +kernel
theorem dX2_copyFrom_48 : decode cX2_copyFrom 48 = .ok (.getfield 21, 3) := by decide +kernel
theorem dX2_copyFrom_51 : decode cX2_copyFrom 51 = .ok (.iload_n 2, 1) := by decide +kernel
theorem dX2_copyFrom_52 : decode cX2_copyFrom 52 = .ok (.iaload, 1) := by decide +kernel
theorem dX2_copyFrom_53 : decode cX2_copyFrom 53 = .ok (.iastore, 1) := by decide +kernel
theorem dX2_copyFrom_54 : decode cX2_copyFrom 54 = .ok (.iinc 2 1, 3) := by decide +kernel
theorem dX2_copyFrom_57 : decode cX2_copyFrom 57 = .ok (.goto (-47), 3) := by decide +kernel
theorem dX2_copyFrom_60 : decode cX2_copyFrom 60 = .ok (.iconst 0, 1) := by decide +kernel
theorem dX2_copyFrom_61 : decode cX2_copyFrom 61 = .ok (.istore_n 2, 1) := by decide +kernel
theorem dX2_copyFrom_62 : decode cX2_copyFrom 62 = .ok (.iload_n 2, 1) := by decide +kernel
theorem dX2_copyFrom_63 : decode cX2_copyFrom 63 = .ok (.aload_n 0, 1) := by decide +kernel
theorem dX2_copyFrom_64 : decode cX2_copyFrom 64 = .ok (.getfield 24, 3) := by decide +kernel
theorem dX2_copyFrom_67 : decode cX2_copyFrom 67 = .ok (.bipush 8, 2) := by decide +kernel
theorem dX2_copyFrom_69 : decode cX2_copyFrom 69 = .ok (.imul, 1) := by decide +kernel
theorem dX2_copyFrom_70 : decode cX2_copyFrom 70 = .ok (.if_icmp .ge 21, 3) := by decide +kernel
theorem dX2_copyFrom_73 : decode cX2_copyFrom 73 = .ok (.aload_n 0, 1) := by decide +kernel
theorem dX2_copyFrom_74 : decode cX2_copyFrom 74 = .ok (.getfield 9, 3) := by decide +kernel
theorem dX2_copyFrom_77 : decode cX2_copyFrom 77 = .ok (.iload_n 2, 1) := by decide +kernel
theorem dX2_copyFrom_78 : decode cX2_copyFrom 78 = .ok (.aload_n 1, 1) := by decide +kernel
theorem dX2_copyFrom_79 : decode cX2_copyFrom 79 = .ok (.getfield 9, 3) := by decide +kernel
theorem dX2_copyFrom_82 : decode cX2_copyFrom 82 = .ok (.iload_n 2, 1) := by decide +kernel
theorem dX2_copyFrom_83 : decode cX2_copyFrom 83 = .ok (.iaload, 1) := by decide +kernel
theorem dX2_copyFrom_84 : decode cX2_copyFrom 84 = .ok (.iastore, 1) := by decide +kernel
theorem dX2_copyFrom_85 : decode cX2_copyFrom 85 = .ok (.iinc 2 1, 3) := by decide +kernel
theorem dX2_copyFrom_88 : decode cX2_copyFrom 88 = .ok (.goto (-26), 3) := by decide +kernel
theorem dX2_copyFrom_91 : decode cX2_copyFrom 91 = .ok (.return_, 1) := by decide +kernel
theorem dX2_nameByte_0 : decode cX2_nameByte 0 = .ok (.iload_n 2, 1) := by decide +kernel
theorem dX2_nameByte_1 : decode cX2_nameByte 1 = .ok (.iconst 0, 1) := by decide +kernel
theorem dX2_nameByte_2 : decode cX2_nameByte 2 = .ok (.bipush 7, 2) := by decide +kernel
theorem dX2_nameByte_4 : decode cX2_nameByte 4 = .ok (.invokestatic 28, 3) := by decide +kernel
theorem dX2_nameByte_7 : decode cX2_nameByte 7 = .ok (.ifCond .eq 17, 3) := by decide +kernel
theorem dX2_nameByte_10 : decode cX2_nameByte 10 = .ok (.aload_n 0, 1) := by decide +kernel
theorem dX2_nameByte_11 : decode cX2_nameByte 11 = .ok (.getfield 9, 3) := by decide +kernel
theorem dX2_nameByte_14 : decode cX2_nameByte 14 = .ok (.iload_n 1, 1) := by decide +kernel
theorem dX2_nameByte_15 : decode cX2_nameByte 15 = .ok (.bipush 8, 2) := by decide +kernel
theorem dX2_nameByte_17 : decode cX2_nameByte 17 = .ok (.imul, 1) := by decide +kernel
theorem dX2_nameByte_18 : decode cX2_nameByte 18 = .ok (.iload_n 2, 1) := by decide +kernel
theorem dX2_nameByte_19 : decode cX2_nameByte 19 = .ok (.iadd, 1) := by decide +kernel
theorem dX2_nameByte_20 : decode cX2_nameByte 20 = .ok (.iaload, 1) := by decide +kernel
theorem dX2_nameByte_21 : decode cX2_nameByte 21 = .ok (.goto 4, 3) := by decide +kernel
theorem dX2_nameByte_24 : decode cX2_nameByte 24 = .ok (.iconst 0, 1) := by decide +kernel
theorem dX2_nameByte_25 : decode cX2_nameByte 25 = .ok (.ireturn, 1) := by decide +kernel
theorem dX2_beginKind_0 : decode cX2_beginKind 0 = .ok (.iconst 0, 1) := by decide +kernel
theorem dX2_beginKind_1 : decode cX2_beginKind 1 = .ok (.istore_n 2, 1) := by decide +kernel
theorem dX2_beginKind_2 : decode cX2_beginKind 2 = .ok (.iload_n 2, 1) := by decide +kernel
theorem dX2_beginKind_3 : decode cX2_beginKind 3 = .ok (.bipush 8, 2) := by decide +kernel
theorem dX2_beginKind_5 : decode cX2_beginKind 5 = .ok (.if_icmp .ge 56, 3) := by decide +kernel
theorem dX2_beginKind_8 : decode cX2_beginKind 8 = .ok (.aload_n 0, 1) := by decide +kernel
theorem dX2_beginKind_9 : decode cX2_beginKind 9 = .ok (.getfield 24, 3) := by decide +kernel
theorem dX2_beginKind_12 : decode cX2_beginKind 12 = .ok (.bipush 6, 2) := by decide +kernel
theorem dX2_beginKind_14 : decode cX2_beginKind 14 = .ok (.if_icmp .ge 47, 3) := by decide +kernel
theorem dX2_beginKind_17 : decode cX2_beginKind 17 = .ok (.aload_n 1, 1) := by decide +kernel
theorem dX2_beginKind_18 : decode cX2_beginKind 18 = .ok (.getfield 32, 3) := by decide +kernel
theorem dX2_beginKind_21 : decode cX2_beginKind 21 = .ok (.iload_n 2, 1) := by decide +kernel
theorem dX2_beginKind_22 : decode cX2_beginKind 22 = .ok (.iadd, 1) := by decide +kernel
theorem dX2_beginKind_23 : decode cX2_beginKind 23 = .ok (.istore_n 3, 1) := by decide +kernel
theorem dX2_beginKind_24 : decode cX2_beginKind 24 = .ok (.aload_n 0, 1) := by decide +kernel
theorem dX2_beginKind_25 : decode cX2_beginKind 25 = .ok (.getfield 9, 3) := by decide +kernel
theorem dX2_beginKind_28 : decode cX2_beginKind 28 = .ok (.aload_n 0, 1) := by decide +kernel
theorem dX2_beginKind_29 : decode cX2_beginKind 29 = .ok (.getfield 24, 3) := by decide +kernel
theorem dX2_beginKind_32 : decode cX2_beginKind 32 = .ok (.bipush 8, 2) := by decide +kernel
theorem dX2_beginKind_34 : decode cX2_beginKind 34 = .ok (.imul, 1) := by decide +kernel
theorem dX2_beginKind_35 : decode cX2_beginKind 35 = .ok (.iload_n 2, 1) := by decide +kernel
theorem dX2_beginKind_36 : decode cX2_beginKind 36 = .ok (.iadd, 1) := by decide +kernel
theorem dX2_beginKind_37 : decode cX2_beginKind 37 = .ok (.iload_n 3, 1) := by decide +kernel
theorem dX2_beginKind_38 : decode cX2_beginKind 38 = .ok (.aload_n 1, 1) := by decide +kernel
theorem dX2_beginKind_39 : decode cX2_beginKind 39 = .ok (.getfield 37, 3) := by decide +kernel
theorem dX2_beginKind_42 : decode cX2_beginKind 42 = .ok (.if_icmp .ge 11, 3) := by decide +kernel
theorem dX2_beginKind_45 : decode cX2_beginKind 45 = .ok (.aload_n 1, 1) := by decide +kernel
theorem dX2_beginKind_46 : decode cX2_beginKind 46 = .ok (.iload_n 3, 1) := by decide +kernel
theorem dX2_beginKind_47 : decode cX2_beginKind 47 = .ok (.invokevirtual 40, 3) := by decide +kernel
theorem dX2_beginKind_50 : decode cX2_beginKind 50 = .ok (.goto 4, 3) := by decide +kernel
theorem dX2_beginKind_53 : decode cX2_beginKind 53 = .ok (.iconst 0, 1) := by decide +kernel
theorem dX2_beginKind_54 : decode cX2_beginKind 54 = .ok (.iastore, 1) := by decide +kernel
theorem dX2_beginKind_55 : decode cX2_beginKind 55 = .ok (.iinc 2 1, 3) := by decide +kernel
theorem dX2_beginKind_58 : decode cX2_beginKind 58 = .ok (.goto (-56), 3) := by decide +kernel
theorem dX2_beginKind_61 : decode cX2_beginKind 61 = .ok (.return_, 1) := by decide +kernel
theorem dX2_isBegunNameTaken_0 : decode cX2_isBegunNameTaken 0 = .ok (.iconst 0, 1) := by decide +kernel
theorem dX2_isBegunNameTaken_1 : decode cX2_isBegunNameTaken 1 = .ok (.istore_n 1, 1) := by decide +kernel
theorem dX2_isBegunNameTaken_2 : decode cX2_isBegunNameTaken 2 = .ok (.iload_n 1, 1) := by decide +kernel
theorem dX2_isBegunNameTaken_3 : decode cX2_isBegunNameTaken 3 = .ok (.aload_n 0, 1) := by decide +kernel
theorem dX2_isBegunNameTaken_4 : decode cX2_isBegunNameTaken 4 = .ok (.getfield 24, 3) := by decide +kernel
theorem dX2_isBegunNameTaken_7 : decode cX2_isBegunNameTaken 7 = .ok (.if_icmp .ge 32, 3) := by decide +kernel
theorem dX2_isBegunNameTaken_10 : decode cX2_isBegunNameTaken 10 = .ok (.aload_n 0, 1) := by decide +kernel
theorem dX2_isBegunNameTaken_11 : decode cX2_isBegunNameTaken 11 = .ok (.getfield 24, 3) := by decide +kernel
theorem dX2_isBegunNameTaken_14 : decode cX2_isBegunNameTaken 14 = .ok (.bipush 6, 2) := by decide +kernel
theorem dX2_isBegunNameTaken_16 : decode cX2_isBegunNameTaken 16 = .ok (.if_icmp .ge 23, 3) := by decide +kernel
theorem dX2_isBegunNameTaken_19 : decode cX2_isBegunNameTaken 19 = .ok (.aload_n 0, 1) := by decide +kernel
theorem dX2_isBegunNameTaken_20 : decode cX2_isBegunNameTaken 20 = .ok (.iload_n 1, 1) := by decide +kernel
theorem dX2_isBegunNameTaken_21 : decode cX2_isBegunNameTaken 21 = .ok (.aload_n 0, 1) := by decide +kernel
theorem dX2_isBegunNameTaken_22 : decode cX2_isBegunNameTaken 22 = .ok (.getfield 24, 3) := by decide +kernel
theorem dX2_isBegunNameTaken_25 : decode cX2_isBegunNameTaken 25 = .ok (.invokevirtual 44, 3) := by decide +kernel
theorem dX2_isBegunNameTaken_28 : decode cX2_isBegunNameTaken 28 = .ok (.ifCond .eq 5, 3) := by decide +kernel
theorem dX2_isBegunNameTaken_31 : decode cX2_isBegunNameTaken 31 = .ok (.iconst 1, 1) := by decide +kernel
theorem dX2_isBegunNameTaken_32 : decode cX2_isBegunNameTaken 32 = .ok (.ireturn, 1) := by decide +kernel
theorem dX2_isBegunNameTaken_33 : decode cX2_isBegunNameTaken 33 = .ok (.iinc 1 1, 3) := by decide +kernel
theorem dX2_isBegunNameTaken_36 : decode cX2_isBegunNameTaken 36 = .ok (.goto (-34), 3) := by decide +kernel
theorem dX2_isBegunNameTaken_39 : decode cX2_isBegunNameTaken 39 = .ok (.iconst 0, 1) := by decide +kernel
theorem dX2_isBegunNameTaken_40 : decode cX2_isBegunNameTaken 40 = .ok (.ireturn, 1) := by decide +kernel
theorem dX2_isSameName_0 : decode cX2_isSameName 0 = .ok (.iconst 0, 1) := by decide +kernel
theorem dX2_isSameName_1 : decode cX2_isSameName 1 = .ok (.istore_n 3, 1) := by decide +kernel
theorem dX2_isSameName_2 : decode cX2_isSameName 2 = .ok (.iload_n 3, 1) := by decide +kernel
theorem dX2_isSameName_3 : decode cX2_isSameName 3 = .ok (.bipush 8, 2) := by decide +kernel
theorem dX2_isSameName_5 : decode cX2_isSameName 5 = .ok (.if_icmp .ge 26, 3) := by decide +kernel
theorem dX2_isSameName_8 : decode cX2_isSameName 8 = .ok (.aload_n 0, 1) := by decide +kernel
theorem dX2_isSameName_9 : decode cX2_isSameName 9 = .ok (.iload_n 1, 1) := by decide +kernel
theorem dX2_isSameName_10 : decode cX2_isSameName 10 = .ok (.iload_n 3, 1) := by decide +kernel
theorem dX2_isSameName_11 : decode cX2_isSameName 11 = .ok (.invokevirtual 48, 3) := by decide +kernel
theorem dX2_isSameName_14 : decode cX2_isSameName 14 = .ok (.aload_n 0, 1) := by decide +kernel
theorem dX2_isSameName_15 : decode cX2_isSameName 15 = .ok (.iload_n 2, 1) := by decide +kernel
theorem dX2_isSameName_16 : decode cX2_isSameName 16 = .ok (.iload_n 3, 1) := by decide +kernel
theorem dX2_isSameName_17 : decode cX2_isSameName 17 = .ok (.invokevirtual 48, 3) := by decide +kernel
theorem dX2_isSameName_20 : decode cX2_isSameName 20 = .ok (.if_icmp .eq 5, 3) := by decide +kernel
theorem dX2_isSameName_23 : decode cX2_isSameName 23 = .ok (.iconst 0, 1) := by decide +kernel
theorem dX2_isSameName_24 : decode cX2_isSameName 24 = .ok (.ireturn, 1) := by decide +kernel
theorem dX2_isSameName_25 : decode cX2_isSameName 25 = .ok (.iinc 3 1, 3) := by decide +kernel
theorem dX2_isSameName_28 : decode cX2_isSameName 28 = .ok (.goto (-26), 3) := by decide +kernel
theorem dX2_isSameName_31 : decode cX2_isSameName 31 = .ok (.iconst 1, 1) := by decide +kernel
theorem dX2_isSameName_32 : decode cX2_isSameName 32 = .ok (.ireturn, 1) := by decide +kernel
theorem dX2_endKind_0 : decode cX2_endKind 0 = .ok (.aload_n 0, 1) := by decide +kernel
theorem dX2_endKind_1 : decode cX2_endKind 1 = .ok (.getfield 24, 3) := by decide +kernel
theorem dX2_endKind_4 : decode cX2_endKind 4 = .ok (.bipush 6, 2) := by decide +kernel
theorem dX2_endKind_6 : decode cX2_endKind 6 = .ok (.if_icmp .ge 43, 3) := by decide +kernel
theorem dX2_endKind_9 : decode cX2_endKind 9 = .ok (.aload_n 0, 1) := by decide +kernel
theorem dX2_endKind_10 : decode cX2_endKind 10 = .ok (.getfield 15, 3) := by decide +kernel
theorem dX2_endKind_13 : decode cX2_endKind 13 = .ok (.aload_n 0, 1) := by decide +kernel
theorem dX2_endKind_14 : decode cX2_endKind 14 = .ok (.getfield 24, 3) := by decide +kernel
theorem dX2_endKind_17 : decode cX2_endKind 17 = .ok (.iload_n 1, 1) := by decide +kernel
theorem dX2_endKind_18 : decode cX2_endKind 18 = .ok (.iastore, 1) := by decide +kernel
theorem dX2_endKind_19 : decode cX2_endKind 19 = .ok (.aload_n 0, 1) := by decide +kernel
theorem dX2_endKind_20 : decode cX2_endKind 20 = .ok (.getfield 18, 3) := by decide +kernel
theorem dX2_endKind_23 : decode cX2_endKind 23 = .ok (.aload_n 0, 1) := by decide +kernel
theorem dX2_endKind_24 : decode cX2_endKind 24 = .ok (.getfield 24, 3) := by decide +kernel
theorem dX2_endKind_27 : decode cX2_endKind 27 = .ok (.iload_n 2, 1) := by decide +kernel
theorem dX2_endKind_28 : decode cX2_endKind 28 = .ok (.iastore, 1) := by decide +kernel
theorem dX2_endKind_29 : decode cX2_endKind 29 = .ok (.aload_n 0, 1) := by decide +kernel
theorem dX2_endKind_30 : decode cX2_endKind 30 = .ok (.getfield 21, 3) := by decide +kernel
theorem dX2_endKind_33 : decode cX2_endKind 33 = .ok (.aload_n 0, 1) := by decide +kernel
theorem dX2_endKind_34 : decode cX2_endKind 34 = .ok (.getfield 24, 3) := by decide +kernel
theorem dX2_endKind_37 : decode cX2_endKind 37 = .ok (.iload_n 3, 1) := by decide +kernel
theorem dX2_endKind_38 : decode cX2_endKind 38 = .ok (.iastore, 1) := by decide +kernel
theorem dX2_endKind_39 : decode cX2_endKind 39 = .ok (.aload_n 0, 1) := by decide +kernel
theorem dX2_endKind_40 : decode cX2_endKind 40 = .ok (.dup, 1) := by decide +kernel
theorem dX2_endKind_41 : decode cX2_endKind 41 = .ok (.getfield 24, 3) := by decide +kernel
theorem dX2_endKind_44 : decode cX2_endKind 44 = .ok (.iconst 1, 1) := by decide +kernel
theorem dX2_endKind_45 : decode cX2_endKind 45 = .ok (.iadd, 1) := by decide +kernel
theorem dX2_endKind_46 : decode cX2_endKind 46 = .ok (.putfield 24, 3) := by decide +kernel
theorem dX2_endKind_49 : decode cX2_endKind 49 = .ok (.return_, 1) := by decide +kernel
theorem dX3_init_0 : decode cX3_init 0 = .ok (.aload_n 0, 1) := by decide +kernel
theorem dX3_init_1 : decode cX3_init 1 = .ok (.invokespecial 3, 3) := by decide +kernel
theorem dX3_init_4 : decode cX3_init 4 = .ok (.aload_n 0, 1) := by decide +kernel
theorem dX3_init_5 : decode cX3_init 5 = .ok (.bipush 21, 2) := by decide +kernel
theorem dX3_init_7 : decode cX3_init 7 = .ok (.newarray .int, 2) := by decide +kernel
theorem dX3_init_9 : decode cX3_init 9 = .ok (.putfield 9, 3) := by decide +kernel
theorem dX3_init_12 : decode cX3_init 12 = .ok (.aload_n 0, 1) := by decide +kernel
theorem dX3_init_13 : decode cX3_init 13 = .ok (.bipush 21, 2) := by decide +kernel
theorem dX3_init_15 : decode cX3_init 15 = .ok (.newarray .int, 2) := by decide +kernel
theorem dX3_init_17 : decode cX3_init 17 = .ok (.putfield 15, 3) := by decide +kernel
theorem dX3_init_20 : decode cX3_init 20 = .ok (.aload_n 0, 1) := by decide +kernel
theorem dX3_init_21 : decode cX3_init 21 = .ok (.bipush 21, 2) := by decide +kernel
theorem dX3_init_23 : decode cX3_init 23 = .ok (.newarray .boolean, 2) := by decide +kernel
theorem dX3_init_25 : decode cX3_init 25 = .ok (.putfield 18, 3) := by decide +kernel
theorem dX3_init_28 : decode cX3_init 28 = .ok (.aload_n 0, 1) := by decide +kernel
theorem dX3_init_29 : decode cX3_init 29 = .ok (.bipush 6, 2) := by decide +kernel
theorem dX3_init_31 : decode cX3_init 31 = .ok (.newarray .int, 2) := by decide +kernel
theorem dX3_init_33 : decode cX3_init 33 = .ok (.putfield 22, 3) := by decide +kernel
theorem dX3_init_36 : decode cX3_init 36 = .ok (.aload_n 0, 1) := by decide +kernel
theorem dX3_init_37 : decode cX3_init 37 = .ok (.iconst 1, 1) := by decide +kernel
theorem dX3_init_38 : decode cX3_init 38 = .ok (.putfield 25, 3) := by decide +kernel
theorem dX3_init_41 : decode cX3_init 41 = .ok (.return_, 1) := by decide +kernel
theorem dX3_measure_0 : decode cX3_measure 0 = .ok (.aload_n 1, 1) := by decide +kernel
theorem dX3_measure_1 : decode cX3_measure 1 = .ok (.getfield 29, 3) := by decide +kernel
theorem dX3_measure_4 : decode cX3_measure 4 = .ok (.getfield 35, 3) := by decide +kernel
theorem dX3_measure_7 : decode cX3_measure 7 = .ok (.istore_n 2, 1) := by decide +kernel
theorem dX3_measure_8 : decode cX3_measure 8 = .ok (.iconst 0, 1) := by decide +kernel
theorem dX3_measure_9 : decode cX3_measure 9 = .ok (.istore_n 3, 1) := by decide +kernel
theorem dX3_measure_10 : decode cX3_measure 10 = .ok (.iconst 0, 1) := by decide +kernel
theorem dX3_measure_11 : decode cX3_measure 11 = .ok (.istore 4, 2) := by decide +kernel
theorem dX3_measure_13 : decode cX3_measure 13 = .ok (.iload 4, 2) := by decide +kernel
theorem dX3_measure_15 : decode cX3_measure 15 = .ok (.iload_n 2, 1) := by decide +kernel
theorem dX3_measure_16 : decode cX3_measure 16 = .ok (.if_icmp .ge 50, 3) := by decide +kernel
theorem dX3_measure_19 : decode cX3_measure 19 = .ok (.aload_n 1, 1) := by decide +kernel
theorem dX3_measure_20 : decode cX3_measure 20 = .ok (.iload 4, 2) := by decide +kernel
theorem dX3_measure_22 : decode cX3_measure 22 = .ok (.invokevirtual 40, 3) := by decide +kernel
theorem dX3_measure_25 : decode cX3_measure 25 = .ok (.istore 5, 2) := by decide +kernel
theorem dX3_measure_27 : decode cX3_measure 27 = .ok (.aload_n 1, 1) := by decide +kernel
theorem dX3_measure_28 : decode cX3_measure 28 = .ok (.getfield 29, 3) := by decide +kernel
theorem dX3_measure_31 : decode cX3_measure 31 = .ok (.iload 4, 2) := by decide +kernel
theorem dX3_measure_33 : decode cX3_measure 33 = .ok (.invokevirtual 44, 3) := by decide +kernel
theorem dX3_measure_36 : decode cX3_measure 36 = .ok (.iconst 2, 1) := by decide +kernel
theorem dX3_measure_37 : decode cX3_measure 37 = .ok (.idiv, 1) := by decide +kernel
theorem dX3_measure_38 : decode cX3_measure 38 = .ok (.istore 6, 2) := by decide +kernel
theorem dX3_measure_40 : decode cX3_measure 40 = .ok (.aload_n 0, 1) := by decide +kernel
theorem dX3_measure_41 : decode cX3_measure 41 = .ok (.getfield 9, 3) := by decide +kernel
theorem dX3_measure_44 : decode cX3_measure 44 = .ok (.iload 4, 2) := by decide +kernel
theorem dX3_measure_46 : decode cX3_measure 46 = .ok (.iload 5, 2) := by decide +kernel
theorem dX3_measure_48 : decode cX3_measure 48 = .ok (.iload 6, 2) := by decide +kernel
theorem dX3_measure_50 : decode cX3_measure 50 = .ok (.isub, 1) := by decide +kernel
theorem dX3_measure_51 : decode cX3_measure 51 = .ok (.iload_n 3, 1) := by decide +kernel
theorem dX3_measure_52 : decode cX3_measure 52 = .ok (.isub, 1) := by decide +kernel
theorem dX3_measure_53 : decode cX3_measure 53 = .ok (.iastore, 1) := by decide +kernel
theorem dX3_measure_54 : decode cX3_measure 54 = .ok (.iload 5, 2) := by decide +kernel
theorem dX3_measure_56 : decode cX3_measure 56 = .ok (.iload 6, 2) := by decide +kernel
theorem dX3_measure_58 : decode cX3_measure 58 = .ok (.iadd, 1) := by decide +kernel
theorem dX3_measure_59 : decode cX3_measure 59 = .ok (.istore_n 3, 1) := by decide +kernel
theorem dX3_measure_60 : decode cX3_measure 60 = .ok (.iinc 4 1, 3) := by decide +kernel
theorem dX3_measure_63 : decode cX3_measure 63 = .ok (.goto (-50), 3) := by decide +kernel
theorem dX3_measure_66 : decode cX3_measure 66 = .ok (.aload_n 0, 1) := by decide +kernel
theorem dX3_measure_67 : decode cX3_measure 67 = .ok (.getfield 9, 3) := by decide +kernel
theorem dX3_measure_70 : decode cX3_measure 70 = .ok (.iload_n 2, 1) := by decide +kernel
theorem dX3_measure_71 : decode cX3_measure 71 = .ok (.aload_n 1, 1) := by decide +kernel
theorem dX3_measure_72 : decode cX3_measure 72 = .ok (.getfield 47, 3) := by decide +kernel
theorem dX3_measure_75 : decode cX3_measure 75 = .ok (.invokevirtual 51, 3) := by decide +kernel
theorem dX3_measure_78 : decode cX3_measure 78 = .ok (.iload_n 3, 1) := by decide +kernel
theorem dX3_measure_79 : decode cX3_measure 79 = .ok (.isub, 1) := by decide +kernel
theorem dX3_measure_80 : decode cX3_measure 80 = .ok (.iastore, 1) := by decide +kernel
theorem dX3_measure_81 : decode cX3_measure 81 = .ok (.aload_n 0, 1) := by decide +kernel
theorem dX3_measure_82 : decode cX3_measure 82 = .ok (.iload_n 2, 1) := by decide +kernel
theorem dX3_measure_83 : decode cX3_measure 83 = .ok (.iconst 1, 1) := by decide +kernel
theorem dX3_measure_84 : decode cX3_measure 84 = .ok (.iadd, 1) := by decide +kernel
theorem dX3_measure_85 : decode cX3_measure 85 = .ok (.putfield 25, 3) := by decide +kernel
theorem dX3_measure_88 : decode cX3_measure 88 = .ok (.return_, 1) := by decide +kernel
theorem dX3_crowdedRooms_0 : decode cX3_crowdedRooms 0 = .ok (.iconst 0, 1) := by decide +kernel
theorem dX3_crowdedRooms_1 : decode cX3_crowdedRooms 1 = .ok (.istore_n 2, 1) := by decide +kernel
theorem dX3_crowdedRooms_2 : decode cX3_crowdedRooms 2 = .ok (.iconst 0, 1) := by decide +kernel
theorem dX3_crowdedRooms_3 : decode cX3_crowdedRooms 3 = .ok (.istore_n 3, 1) := by decide +kernel
theorem dX3_crowdedRooms_4 : decode cX3_crowdedRooms 4 = .ok (.iload_n 3, 1) := by decide +kernel
theorem dX3_crowdedRooms_5 : decode cX3_crowdedRooms 5 = .ok (.aload_n 0, 1) := by decide +kernel
theorem dX3_crowdedRooms_6 : decode cX3_crowdedRooms 6 = .ok (.getfield 25, 3) := by decide +kernel
theorem dX3_crowdedRooms_9 : decode cX3_crowdedRooms 9 = .ok (.if_icmp .ge 28, 3) := by decide +kernel
theorem dX3_crowdedRooms_12 : decode cX3_crowdedRooms 12 = .ok (.aload_n 0, 1) := by decide +kernel
theorem dX3_crowdedRooms_13 : decode cX3_crowdedRooms 13 = .ok (.getfield 9, 3) := by decide +kernel
theorem dX3_crowdedRooms_16 : decode cX3_crowdedRooms 16 = .ok (.iload_n 3, 1) := by decide +kernel
theorem dX3_crowdedRooms_17 : decode cX3_crowdedRooms 17 = .ok (.iaload, 1) := by decide +kernel
theorem dX3_crowdedRooms_18 : decode cX3_crowdedRooms 18 = .ok (.bipush 100, 2) := by decide +kernel
theorem dX3_crowdedRooms_20 : decode cX3_crowdedRooms 20 = .ok (.iload_n 1, 1) := by decide +kernel
theorem dX3_crowdedRooms_21 : decode cX3_crowdedRooms 21 = .ok (.imul, 1) := by decide +kernel
theorem dX3_crowdedRooms_22 : decode cX3_crowdedRooms 22 = .ok (.if_icmp .ge 9, 3) := by decide +kernel
theorem dX3_crowdedRooms_25 : decode cX3_crowdedRooms 25 = .ok (.iload_n 2, 1) := by decide +kernel
theorem dX3_crowdedRooms_26 : decode cX3_crowdedRooms 26 = .ok (.iconst 1, 1) := by decide +kernel
theorem dX3_crowdedRooms_27 : decode cX3_crowdedRooms 27 = .ok (.iload_n 3, 1) := by decide +kernel
theorem dX3_crowdedRooms_28 : decode cX3_crowdedRooms 28 = .ok (.ishl, 1) := by decide +kernel
theorem dX3_crowdedRooms_29 : decode cX3_crowdedRooms 29 = .ok (.ior, 1) := by decide +kernel
theorem dX3_crowdedRooms_30 : decode cX3_crowdedRooms 30 = .ok (.istore_n 2, 1) := by decide +kernel
theorem dX3_crowdedRooms_31 : decode cX3_crowdedRooms 31 = .ok (.iinc 3 1, 3) := by decide +kernel
theorem dX3_crowdedRooms_34 : decode cX3_crowdedRooms 34 = .ok (.goto (-30), 3) := by decide +kernel
theorem dX3_crowdedRooms_37 : decode cX3_crowdedRooms 37 = .ok (.iload_n 2, 1) := by decide +kernel
theorem dX3_crowdedRooms_38 : decode cX3_crowdedRooms 38 = .ok (.ireturn, 1) := by decide +kernel
theorem dX3_tightestRoom_0 : decode cX3_tightestRoom 0 = .ok (.iconst 0, 1) := by decide +kernel
theorem dX3_tightestRoom_1 : decode cX3_tightestRoom 1 = .ok (.istore_n 1, 1) := by decide +kernel
theorem dX3_tightestRoom_2 : decode cX3_tightestRoom 2 = .ok (.iconst 1, 1) := by decide +kernel
theorem dX3_tightestRoom_3 : decode cX3_tightestRoom 3 = .ok (.istore_n 2, 1) := by decide +kernel
theorem dX3_tightestRoom_4 : decode cX3_tightestRoom 4 = .ok (.iload_n 2, 1) := by decide +kernel
theorem dX3_tightestRoom_5 : decode cX3_tightestRoom 5 = .ok (.aload_n 0, 1) := by decide +kernel
theorem dX3_tightestRoom_6 : decode cX3_tightestRoom 6 = .ok (.getfield 25, 3) := by decide +kernel
theorem dX3_tightestRoom_9 : decode cX3_tightestRoom 9 = .ok (.if_icmp .ge 26, 3) := by decide +kernel
theorem dX3_tightestRoom_12 : decode cX3_tightestRoom 12 = .ok (.aload_n 0, 1) := by decide +kernel
theorem dX3_tightestRoom_13 : decode cX3_tightestRoom 13 = .ok (.getfield 9, 3) := by decide +kernel
theorem dX3_tightestRoom_16 : decode cX3_tightestRoom 16 = .ok (.iload_n 2, 1) := by decide +kernel
theorem dX3_tightestRoom_17 : decode cX3_tightestRoom 17 = .ok (.iaload, 1) := by decide +kernel
theorem dX3_tightestRoom_18 : decode cX3_tightestRoom 18 = .ok (.aload_n 0, 1) := by decide +kernel
theorem dX3_tightestRoom_19 : decode cX3_tightestRoom 19 = .ok (.getfield 9, 3) := by decide +kernel
theorem dX3_tightestRoom_22 : decode cX3_tightestRoom 22 = .ok (.iload_n 1, 1) := by decide +kernel
theorem dX3_tightestRoom_23 : decode cX3_tightestRoom 23 = .ok (.iaload, 1) := by decide +kernel
theorem dX3_tightestRoom_24 : decode cX3_tightestRoom 24 = .ok (.if_icmp .ge 5, 3) := by decide +kernel
theorem dX3_tightestRoom_27 : decode cX3_tightestRoom 27 = .ok (.iload_n 2, 1) := by decide +kernel
theorem dX3_tightestRoom_28 : decode cX3_tightestRoom 28 = .ok (.istore_n 1, 1) := by decide +kernel
theorem dX3_tightestRoom_29 : decode cX3_tightestRoom 29 = .ok (.iinc 2 1, 3) := by decide +kernel
theorem dX3_tightestRoom_32 : decode cX3_tightestRoom 32 = .ok (.goto (-28), 3) := by decide +kernel
theorem dX3_tightestRoom_35 : decode cX3_tightestRoom 35 = .ok (.iload_n 1, 1) := by decide +kernel
theorem dX3_tightestRoom_36 : decode cX3_tightestRoom 36 = .ok (.ireturn, 1) := by decide +kernel
theorem dX3_meanParts_0 : decode cX3_meanParts 0 = .ok (.iconst 0, 1) := by decide +kernel
theorem dX3_meanParts_1 : decode cX3_meanParts 1 = .ok (.istore_n 1, 1) := by decide +kernel
theorem dX3_meanParts_2 : decode cX3_meanParts 2 = .ok (.iconst 0, 1) := by decide +kernel
theorem dX3_meanParts_3 : decode cX3_meanParts 3 = .ok (.istore_n 2, 1) := by decide +kernel
theorem dX3_meanParts_4 : decode cX3_meanParts 4 = .ok (.iload_n 2, 1) := by decide +kernel
theorem dX3_meanParts_5 : decode cX3_meanParts 5 = .ok (.aload_n 0, 1) := by decide +kernel
theorem dX3_meanParts_6 : decode cX3_meanParts 6 = .ok (.getfield 25, 3) := by decide +kernel
theorem dX3_meanParts_9 : decode cX3_meanParts 9 = .ok (.if_icmp .ge 18, 3) := by decide +kernel
theorem dX3_meanParts_12 : decode cX3_meanParts 12 = .ok (.iload_n 1, 1) := by decide +kernel
theorem dX3_meanParts_13 : decode cX3_meanParts 13 = .ok (.aload_n 0, 1) := by decide +kernel
theorem dX3_meanParts_14 : decode cX3_meanParts 14 = .ok (.getfield 9, 3) := by decide +kernel
theorem dX3_meanParts_17 : decode cX3_meanParts 17 = .ok (.iload_n 2, 1) := by decide +kernel
theorem dX3_meanParts_18 : decode cX3_meanParts 18 = .ok (.iaload, 1) := by decide +kernel
theorem dX3_meanParts_19 : decode cX3_meanParts 19 = .ok (.iadd, 1) := by decide +kernel
theorem dX3_meanParts_20 : decode cX3_meanParts 20 = .ok (.istore_n 1, 1) := by decide +kernel
theorem dX3_meanParts_21 : decode cX3_meanParts 21 = .ok (.iinc 2 1, 3) := by decide +kernel
theorem dX3_meanParts_24 : decode cX3_meanParts 24 = .ok (.goto (-20), 3) := by decide +kernel
theorem dX3_meanParts_27 : decode cX3_meanParts 27 = .ok (.aload_n 0, 1) := by decide +kernel
theorem dX3_meanParts_28 : decode cX3_meanParts 28 = .ok (.getfield 25, 3) := by decide +kernel
theorem dX3_meanParts_31 : decode cX3_meanParts 31 = .ok (.ifCond .le 14, 3) := by decide +kernel
theorem dX3_meanParts_34 : decode cX3_meanParts 34 = .ok (.iload_n 1, 1) := by decide +kernel
theorem dX3_meanParts_35 : decode cX3_meanParts 35 = .ok (.i2d, 1) := by decide +kernel
theorem dX3_meanParts_36 : decode cX3_meanParts 36 = .ok (.aload_n 0, 1) := by decide +kernel
theorem dX3_meanParts_37 : decode cX3_meanParts 37 = .ok (.getfield 25, 3) := by decide +kernel
theorem dX3_meanParts_40 : decode cX3_meanParts 40 = .ok (.i2d, 1) := by decide +kernel
theorem dX3_meanParts_41 : decode cX3_meanParts 41 = .ok (.ddiv, 1) := by decide +kernel
theorem dX3_meanParts_42 : decode cX3_meanParts 42 = .ok (.goto 4, 3) := by decide +kernel
theorem dX3_meanParts_45 : decode cX3_meanParts 45 = .ok (.dconst 0, 1) := by decide +kernel
theorem dX3_meanParts_46 : decode cX3_meanParts 46 = .ok (.dreturn, 1) := by decide +kernel
theorem dX3_letterSpoiledBy_0 : decode cX3_letterSpoiledBy 0 = .ok (.aload_n 1, 1) := by decide +kernel
theorem dX3_letterSpoiledBy_1 : decode cX3_letterSpoiledBy 1 = .ok (.getfield 57, 3) := by decide +kernel
theorem dX3_letterSpoiledBy_4 : decode cX3_letterSpoiledBy 4 = .ok (.getfield 61, 3) := by decide +kernel
theorem dX3_letterSpoiledBy_7 : decode cX3_letterSpoiledBy 7 = .ok (.iload_n 2, 1) := by decide +kernel
theorem dX3_letterSpoiledBy_8 : decode cX3_letterSpoiledBy 8 = .ok (.iaload, 1) := by decide +kernel
theorem dX3_letterSpoiledBy_9 : decode cX3_letterSpoiledBy 9 = .ok (.iconst 1, 1) := by decide +kernel
theorem dX3_letterSpoiledBy_10 : decode cX3_letterSpoiledBy 10 = .ok (.iadd, 1) := by decide +kernel
theorem dX3_letterSpoiledBy_11 : decode cX3_letterSpoiledBy 11 = .ok (.istore_n 3, 1) := by decide +kernel
theorem dX3_letterSpoiledBy_12 : decode cX3_letterSpoiledBy 12 = .ok (.aload_n 1, 1) := by decide +kernel
theorem dX3_letterSpoiledBy_13 : decode cX3_letterSpoiledBy 13 = .ok (.iload_n 3, 1) := by decide +kernel
theorem dX3_letterSpoiledBy_14 : decode cX3_letterSpoiledBy 14 = .ok (.invokevirtual 65, 3) := by decide +kernel
theorem dX3_letterSpoiledBy_17 : decode cX3_letterSpoiledBy 17 = .ok (.ifCond .eq 25, 3) := by decide +kernel
theorem dX3_letterSpoiledBy_20 : decode cX3_letterSpoiledBy 20 = .ok (.aload_n 1, 1) := by decide +kernel
theorem dX3_letterSpoiledBy_21 : decode cX3_letterSpoiledBy 21 = .ok (.getfield 57, 3) := by decide +kernel
theorem dX3_letterSpoiledBy_24 : decode cX3_letterSpoiledBy 24 = .ok (.getfield 69, 3) := by decide +kernel
theorem dX3_letterSpoiledBy_27 : decode cX3_letterSpoiledBy 27 = .ok (.iload_n 2, 1) := by decide +kernel
theorem dX3_letterSpoiledBy_28 : decode cX3_letterSpoiledBy 28 = .ok (.iaload, 1) := by decide +kernel
theorem dX3_letterSpoiledBy_29 : decode cX3_letterSpoiledBy 29 = .ok (.aload_n 0, 1) := by decide +kernel
theorem dX3_letterSpoiledBy_30 : decode cX3_letterSpoiledBy 30 = .ok (.getfield 9, 3) := by decide +kernel
theorem dX3_letterSpoiledBy_33 : decode cX3_letterSpoiledBy 33 = .ok (.iload_n 3, 1) := by decide +kernel
theorem dX3_letterSpoiledBy_34 : decode cX3_letterSpoiledBy 34 = .ok (.iaload, 1) := by decide +kernel
theorem dX3_letterSpoiledBy_35 : decode cX3_letterSpoiledBy 35 = .ok (.if_icmp .le 7, 3) := by decide +kernel
theorem dX3_letterSpoiledBy_38 : decode cX3_letterSpoiledBy 38 = .ok (.iconst 1, 1) := by decide +kernel
theorem dX3_letterSpoiledBy_39 : decode cX3_letterSpoiledBy 39 = .ok (.goto 4, 3) := by decide +kernel
theorem dX3_letterSpoiledBy_42 : decode cX3_letterSpoiledBy 42 = .ok (.iconst 0, 1) := by decide +kernel
theorem dX3_letterSpoiledBy_43 : decode cX3_letterSpoiledBy 43 = .ok (.istore 4, 2) := by decide +kernel
theorem dX3_letterSpoiledBy_45 : decode cX3_letterSpoiledBy 45 = .ok (.iload 4, 2) := by decide +kernel
theorem dX3_letterSpoiledBy_47 : decode cX3_letterSpoiledBy 47 = .ok (.ifCond .eq 7, 3) := by decide +kernel
theorem dX3_letterSpoiledBy_50 : decode cX3_letterSpoiledBy 50 = .ok (.iload_n 3, 1) := by decide +kernel
theorem dX3_letterSpoiledBy_51 : decode cX3_letterSpoiledBy 51 = .ok (.goto 4, 3) := by decide +kernel
theorem dX3_letterSpoiledBy_54 : decode cX3_letterSpoiledBy 54 = .ok (.iconst (-1), 1) := by decide +kernel
theorem dX3_letterSpoiledBy_55 : decode cX3_letterSpoiledBy 55 = .ok (.ireturn, 1) := by decide +kernel
theorem dX3_isSpoiled_0 : decode cX3_isSpoiled 0 = .ok (.iconst 0, 1) := by decide +kernel
theorem dX3_isSpoiled_1 : decode cX3_isSpoiled 1 = .ok (.istore_n 3, 1) := by decide +kernel
theorem dX3_isSpoiled_2 : decode cX3_isSpoiled 2 = .ok (.iload_n 3, 1) := by decide +kernel
theorem dX3_isSpoiled_3 : decode cX3_isSpoiled 3 = .ok (.aload_n 1, 1) := by decide +kernel
theorem dX3_isSpoiled_4 : decode cX3_isSpoiled 4 = .ok (.getfield 57, 3) := by decide +kernel
theorem dX3_isSpoiled_7 : decode cX3_isSpoiled 7 = .ok (.getfield 72, 3) := by decide +kernel
theorem dX3_isSpoiled_10 : decode cX3_isSpoiled 10 = .ok (.if_icmp .ge 21, 3) := by decide +kernel
theorem dX3_isSpoiled_13 : decode cX3_isSpoiled 13 = .ok (.aload_n 0, 1) := by decide +kernel
theorem dX3_isSpoiled_14 : decode cX3_isSpoiled 14 = .ok (.aload_n 1, 1) := by decide +kernel
theorem dX3_isSpoiled_15 : decode cX3_isSpoiled 15 = .ok (.iload_n 3, 1) := by decide +kernel
theorem dX3_isSpoiled_16 : decode cX3_isSpoiled 16 = .ok (.invokevirtual 73, 3) := by decide +kernel
theorem dX3_isSpoiled_19 : decode cX3_isSpoiled 19 = .ok (.iload_n 2, 1) := by decide +kernel
theorem dX3_isSpoiled_20 : decode cX3_isSpoiled 20 = .ok (.if_icmp .ne 5, 3) := by decide +kernel
theorem dX3_isSpoiled_23 : decode cX3_isSpoiled 23 = .ok (.iconst 1, 1) := by decide +kernel
theorem dX3_isSpoiled_24 : decode cX3_isSpoiled 24 = .ok (.ireturn, 1) := by decide +kernel
theorem dX3_isSpoiled_25 : decode cX3_isSpoiled 25 = .ok (.iinc 3 1, 3) := by decide +kernel
theorem dX3_isSpoiled_28 : decode cX3_isSpoiled 28 = .ok (.goto (-26), 3) := by decide +kernel
theorem dX3_isSpoiled_31 : decode cX3_isSpoiled 31 = .ok (.iconst 0, 1) := by decide +kernel
theorem dX3_isSpoiled_32 : decode cX3_isSpoiled 32 = .ok (.ireturn, 1) := by decide +kernel
theorem dX3_fill_0 : decode cX3_fill 0 = .ok (.aload_n 0, 1) := by decide +kernel
theorem dX3_fill_1 : decode cX3_fill 1 = .ok (.aload_n 1, 1) := by decide +kernel
theorem dX3_fill_2 : decode cX3_fill 2 = .ok (.invokevirtual 77, 3) := by decide +kernel
theorem dX3_fill_5 : decode cX3_fill 5 = .ok (.iconst 0, 1) := by decide +kernel
theorem dX3_fill_6 : decode cX3_fill 6 = .ok (.istore_n 2, 1) := by decide +kernel
theorem dX3_fill_7 : decode cX3_fill 7 = .ok (.iload_n 2, 1) := by decide +kernel
theorem dX3_fill_8 : decode cX3_fill 8 = .ok (.aload_n 1, 1) := by decide +kernel
theorem dX3_fill_9 : decode cX3_fill 9 = .ok (.getfield 81, 3) := by decide +kernel
theorem dX3_fill_12 : decode cX3_fill 12 = .ok (.getfield 85, 3) := by decide +kernel
theorem dX3_fill_15 : decode cX3_fill 15 = .ok (.if_icmp .ge 24, 3) := by decide +kernel
theorem dX3_fill_18 : decode cX3_fill 18 = .ok (.aload_n 0, 1) := by decide +kernel
theorem dX3_fill_19 : decode cX3_fill 19 = .ok (.getfield 22, 3) := by decide +kernel
theorem dX3_fill_22 : decode cX3_fill 22 = .ok (.iload_n 2, 1) := by decide +kernel
theorem dX3_fill_23 : decode cX3_fill 23 = .ok (.aload_n 1, 1) := by decide +kernel
theorem dX3_fill_24 : decode cX3_fill 24 = .ok (.getfield 81, 3) := by decide +kernel
theorem dX3_fill_27 : decode cX3_fill 27 = .ok (.getfield 88, 3) := by decide +kernel
theorem dX3_fill_30 : decode cX3_fill 30 = .ok (.iload_n 2, 1) := by decide +kernel
theorem dX3_fill_31 : decode cX3_fill 31 = .ok (.iaload, 1) := by decide +kernel
theorem dX3_fill_32 : decode cX3_fill 32 = .ok (.iastore, 1) := by decide +kernel
theorem dX3_fill_33 : decode cX3_fill 33 = .ok (.iinc 2 1, 3) := by decide +kernel
theorem dX3_fill_36 : decode cX3_fill 36 = .ok (.goto (-29), 3) := by decide +kernel
theorem dX3_fill_39 : decode cX3_fill 39 = .ok (.iconst 0, 1) := by decide +kernel
theorem dX3_fill_40 : decode cX3_fill 40 = .ok (.istore_n 2, 1) := by decide +kernel
theorem dX3_fill_41 : decode cX3_fill 41 = .ok (.iload_n 2, 1) := by decide +kernel
theorem dX3_fill_42 : decode cX3_fill 42 = .ok (.aload_n 0, 1) := by decide +kernel
theorem dX3_fill_43 : decode cX3_fill 43 = .ok (.getfield 25, 3) := by decide +kernel
theorem dX3_fill_46 : decode cX3_fill 46 = .ok (.if_icmp .ge 23, 3) := by decide +kernel
theorem dX3_fill_49 : decode cX3_fill 49 = .ok (.aload_n 0, 1) := by decide +kernel
theorem dX3_fill_50 : decode cX3_fill 50 = .ok (.getfield 15, 3) := by decide +kernel
theorem dX3_fill_53 : decode cX3_fill 53 = .ok (.iload_n 2, 1) := by decide +kernel
theorem dX3_fill_54 : decode cX3_fill 54 = .ok (.iconst (-1), 1) := by decide +kernel
theorem dX3_fill_55 : decode cX3_fill 55 = .ok (.iastore, 1) := by decide +kernel
theorem dX3_fill_56 : decode cX3_fill 56 = .ok (.aload_n 0, 1) := by decide +kernel
theorem dX3_fill_57 : decode cX3_fill 57 = .ok (.getfield 18, 3) := by decide +kernel
theorem dX3_fill_60 : decode cX3_fill 60 = .ok (.iload_n 2, 1) := by decide +kernel
theorem dX3_fill_61 : decode cX3_fill 61 = .ok (.iconst 0, 1) := by decide +kernel
theorem dX3_fill_62 : decode cX3_fill 62 = .ok (.bastore, 1) := by decide +kernel
theorem dX3_fill_63 : decode cX3_fill 63 = .ok (.iinc 2 1, 3) := by decide +kernel
theorem dX3_fill_66 : decode cX3_fill 66 = .ok (.goto (-25), 3) := by decide +kernel
theorem dX3_fill_69 : decode cX3_fill 69 = .ok (.iconst 0, 1) := by decide +kernel
theorem dX3_fill_70 : decode cX3_fill 70 = .ok (.istore_n 2, 1) := by decide +kernel
theorem dX3_fill_71 : decode cX3_fill 71 = .ok (.iload_n 2, 1) := by decide +kernel
theorem dX3_fill_72 : decode cX3_fill 72 = .ok (.aload_n 0, 1) := by decide +kernel
theorem dX3_fill_73 : decode cX3_fill 73 = .ok (.getfield 25, 3) := by decide +kernel
theorem dX3_fill_76 : decode cX3_fill 76 = .ok (.if_icmp .ge 14, 3) := by decide +kernel
theorem dX3_fill_79 : decode cX3_fill 79 = .ok (.aload_n 0, 1) := by decide +kernel
theorem dX3_fill_80 : decode cX3_fill 80 = .ok (.aload_n 1, 1) := by decide +kernel
theorem dX3_fill_81 : decode cX3_fill 81 = .ok (.invokevirtual 91, 3) := by decide +kernel
theorem dX3_fill_84 : decode cX3_fill 84 = .ok (.iinc 2 1, 3) := by decide +kernel
theorem dX3_fill_87 : decode cX3_fill 87 = .ok (.goto (-16), 3) := by decide +kernel
theorem dX3_fill_90 : decode cX3_fill 90 = .ok (.return_, 1) := by decide +kernel
theorem dX3_fillLargest_0 : decode cX3_fillLargest 0 = .ok (.aload_n 0, 1) := by decide +kernel
theorem dX3_fillLargest_1 : decode cX3_fillLargest 1 = .ok (.invokevirtual 94, 3) := by decide +kernel
theorem dX3_fillLargest_4 : decode cX3_fillLargest 4 = .ok (.istore_n 2, 1) := by decide +kernel
theorem dX3_fillLargest_5 : decode cX3_fillLargest 5 = .ok (.iload_n 2, 1) := by decide +kernel
theorem dX3_fillLargest_6 : decode cX3_fillLargest 6 = .ok (.iconst (-1), 1) := by decide +kernel
theorem dX3_fillLargest_7 : decode cX3_fillLargest 7 = .ok (.if_icmp .eq 56, 3) := by decide +kernel
theorem dX3_fillLargest_10 : decode cX3_fillLargest 10 = .ok (.aload_n 0, 1) := by decide +kernel
theorem dX3_fillLargest_11 : decode cX3_fillLargest 11 = .ok (.getfield 18, 3) := by decide +kernel
theorem dX3_fillLargest_14 : decode cX3_fillLargest 14 = .ok (.iload_n 2, 1) := by decide +kernel
theorem dX3_fillLargest_15 : decode cX3_fillLargest 15 = .ok (.iconst 1, 1) := by decide +kernel
theorem dX3_fillLargest_16 : decode cX3_fillLargest 16 = .ok (.bastore, 1) := by decide +kernel
theorem dX3_fillLargest_17 : decode cX3_fillLargest 17 = .ok (.aload_n 0, 1) := by decide +kernel
theorem dX3_fillLargest_18 : decode cX3_fillLargest 18 = .ok (.aload_n 1, 1) := by decide +kernel
theorem dX3_fillLargest_19 : decode cX3_fillLargest 19 = .ok (.getfield 81, 3) := by decide +kernel
theorem dX3_fillLargest_22 : decode cX3_fillLargest 22 = .ok (.aload_n 0, 1) := by decide +kernel
theorem dX3_fillLargest_23 : decode cX3_fillLargest 23 = .ok (.getfield 9, 3) := by decide +kernel
theorem dX3_fillLargest_26 : decode cX3_fillLargest 26 = .ok (.iload_n 2, 1) := by decide +kernel
theorem dX3_fillLargest_27 : decode cX3_fillLargest 27 = .ok (.iaload, 1) := by decide +kernel
theorem dX3_fillLargest_28 : decode cX3_fillLargest 28 = .ok (.sipush 200, 3) := by decide +kernel
theorem dX3_fillLargest_31 : decode cX3_fillLargest 31 = .ok (.aload_n 1, 1) := by decide +kernel
theorem dX3_fillLargest_32 : decode cX3_fillLargest 32 = .ok (.getfield 97, 3) := by decide +kernel
theorem dX3_fillLargest_35 : decode cX3_fillLargest 35 = .ok (.imul, 1) := by decide +kernel
theorem dX3_fillLargest_36 : decode cX3_fillLargest 36 = .ok (.isub, 1) := by decide +kernel
theorem dX3_fillLargest_37 : decode cX3_fillLargest 37 = .ok (.invokevirtual 100, 3) := by decide +kernel
theorem dX3_fillLargest_40 : decode cX3_fillLargest 40 = .ok (.istore_n 3, 1) := by decide +kernel
theorem dX3_fillLargest_41 : decode cX3_fillLargest 41 = .ok (.aload_n 0, 1) := by decide +kernel
theorem dX3_fillLargest_42 : decode cX3_fillLargest 42 = .ok (.getfield 15, 3) := by decide +kernel
theorem dX3_fillLargest_45 : decode cX3_fillLargest 45 = .ok (.iload_n 2, 1) := by decide +kernel
theorem dX3_fillLargest_46 : decode cX3_fillLargest 46 = .ok (.iload_n 3, 1) := by decide +kernel
theorem dX3_fillLargest_47 : decode cX3_fillLargest 47 = .ok (.iastore, 1) := by decide +kernel
theorem dX3_fillLargest_48 : decode cX3_fillLargest 48 = .ok (.iload_n 3, 1) := by decide +kernel
theorem dX3_fillLargest_49 : decode cX3_fillLargest 49 = .ok (.iconst (-1), 1) := by decide +kernel
theorem dX3_fillLargest_50 : decode cX3_fillLargest 50 = .ok (.if_icmp .eq 13, 3) := by decide +kernel
theorem dX3_fillLargest_53 : decode cX3_fillLargest 53 = .ok (.aload_n 0, 1) := by decide +kernel
theorem dX3_fillLargest_54 : decode cX3_fillLargest 54 = .ok (.getfield 22, 3) := by decide +kernel
theorem dX3_fillLargest_57 : decode cX3_fillLargest 57 = .ok (.iload_n 3, 1) := by decide +kernel
theorem dX3_fillLargest_58 : decode cX3_fillLargest 58 = .ok (.dup2, 1) := by decide +kernel
theorem dX3_fillLargest_59 : decode cX3_fillLargest 59 = .ok (.iaload, 1) := by decide +kernel
theorem dX3_fillLargest_60 : decode cX3_fillLargest 60 = .ok (.iconst 1, 1) := by decide +kernel
theorem dX3_fillLargest_61 : decode cX3_fillLargest 61 = .ok (.isub, 1) := by decide +kernel
theorem dX3_fillLargest_62 : decode cX3_fillLargest 62 = .ok (.iastore, 1) := by decide +kernel
theorem dX3_fillLargest_63 : decode cX3_fillLargest 63 = .ok (.return_, 1) := by decide +kernel
theorem dX3_largestUnserved_0 : decode cX3_largestUnserved 0 = .ok (.iconst (-1), 1) := by decide +kernel
theorem dX3_largestUnserved_1 : decode cX3_largestUnserved 1 = .ok (.istore_n 1, 1) := by decide +kernel
theorem dX3_largestUnserved_2 : decode cX3_largestUnserved 2 = .ok (.iconst 0, 1) := by decide +kernel
theorem dX3_largestUnserved_3 : decode cX3_largestUnserved 3 = .ok (.istore_n 2, 1) := by decide +kernel
theorem dX3_largestUnserved_4 : decode cX3_largestUnserved 4 = .ok (.iload_n 2, 1) := by decide +kernel
theorem dX3_largestUnserved_5 : decode cX3_largestUnserved 5 = .ok (.aload_n 0, 1) := by decide +kernel
theorem dX3_largestUnserved_6 : decode cX3_largestUnserved 6 = .ok (.getfield 25, 3) := by decide +kernel
theorem dX3_largestUnserved_9 : decode cX3_largestUnserved 9 = .ok (.if_icmp .ge 40, 3) := by decide +kernel
theorem dX3_largestUnserved_12 : decode cX3_largestUnserved 12 = .ok (.aload_n 0, 1) := by decide +kernel
theorem dX3_largestUnserved_13 : decode cX3_largestUnserved 13 = .ok (.getfield 18, 3) := by decide +kernel
theorem dX3_largestUnserved_16 : decode cX3_largestUnserved 16 = .ok (.iload_n 2, 1) := by decide +kernel
theorem dX3_largestUnserved_17 : decode cX3_largestUnserved 17 = .ok (.baload, 1) := by decide +kernel
theorem dX3_largestUnserved_18 : decode cX3_largestUnserved 18 = .ok (.ifCond .ne 25, 3) := by decide +kernel
theorem dX3_largestUnserved_21 : decode cX3_largestUnserved 21 = .ok (.iload_n 1, 1) := by decide +kernel
theorem dX3_largestUnserved_22 : decode cX3_largestUnserved 22 = .ok (.iconst (-1), 1) := by decide +kernel
theorem dX3_largestUnserved_23 : decode cX3_largestUnserved 23 = .ok (.if_icmp .eq 18, 3) := by decide +kernel
theorem dX3_largestUnserved_26 : decode cX3_largestUnserved 26 = .ok (.aload_n 0, 1) := by decide +kernel
theorem dX3_largestUnserved_27 : decode cX3_largestUnserved 27 = .ok (.getfield 9, 3) := by decide +kernel
theorem dX3_largestUnserved_30 : decode cX3_largestUnserved 30 = .ok (.iload_n 2, 1) := by decide +kernel
theorem dX3_largestUnserved_31 : decode cX3_largestUnserved 31 = .ok (.iaload, 1) := by decide +kernel
theorem dX3_largestUnserved_32 : decode cX3_largestUnserved 32 = .ok (.aload_n 0, 1) := by decide +kernel
theorem dX3_largestUnserved_33 : decode cX3_largestUnserved 33 = .ok (.getfield 9, 3) := by decide +kernel
theorem dX3_largestUnserved_36 : decode cX3_largestUnserved 36 = .ok (.iload_n 1, 1) := by decide +kernel
theorem dX3_largestUnserved_37 : decode cX3_largestUnserved 37 = .ok (.iaload, 1) := by decide +kernel
theorem dX3_largestUnserved_38 : decode cX3_largestUnserved 38 = .ok (.if_icmp .le 5, 3) := by decide +kernel
theorem dX3_largestUnserved_41 : decode cX3_largestUnserved 41 = .ok (.iload_n 2, 1) := by decide +kernel
theorem dX3_largestUnserved_42 : decode cX3_largestUnserved 42 = .ok (.istore_n 1, 1) := by decide +kernel
theorem dX3_largestUnserved_43 : decode cX3_largestUnserved 43 = .ok (.iinc 2 1, 3) := by decide +kernel
theorem dX3_largestUnserved_46 : decode cX3_largestUnserved 46 = .ok (.goto (-42), 3) := by decide +kernel
theorem dX3_largestUnserved_49 : decode cX3_largestUnserved 49 = .ok (.iload_n 1, 1) := by decide +kernel
theorem dX3_largestUnserved_50 : decode cX3_largestUnserved 50 = .ok (.ireturn, 1) := by decide +kernel
theorem dX3_bestKind_0 : decode cX3_bestKind 0 = .ok (.iconst (-1), 1) := by decide +kernel
theorem dX3_bestKind_1 : decode cX3_bestKind 1 = .ok (.istore_n 3, 1) := by decide +kernel
theorem dX3_bestKind_2 : decode cX3_bestKind 2 = .ok (.iconst 0, 1) := by decide +kernel
theorem dX3_bestKind_3 : decode cX3_bestKind 3 = .ok (.istore 4, 2) := by decide +kernel
theorem dX3_bestKind_5 : decode cX3_bestKind 5 = .ok (.iload 4, 2) := by decide +kernel
theorem dX3_bestKind_7 : decode cX3_bestKind 7 = .ok (.aload_n 1, 1) := by decide +kernel
theorem dX3_bestKind_8 : decode cX3_bestKind 8 = .ok (.getfield 85, 3) := by decide +kernel
theorem dX3_bestKind_11 : decode cX3_bestKind 11 = .ok (.if_icmp .ge 70, 3) := by decide +kernel
theorem dX3_bestKind_14 : decode cX3_bestKind 14 = .ok (.aload_n 0, 1) := by decide +kernel
theorem dX3_bestKind_15 : decode cX3_bestKind 15 = .ok (.getfield 22, 3) := by decide +kernel
theorem dX3_bestKind_18 : decode cX3_bestKind 18 = .ok (.iload 4, 2) := by decide +kernel
theorem dX3_bestKind_20 : decode cX3_bestKind 20 = .ok (.iaload, 1) := by decide +kernel
theorem dX3_bestKind_21 : decode cX3_bestKind 21 = .ok (.ifCond .le 22, 3) := by decide +kernel
theorem dX3_bestKind_24 : decode cX3_bestKind 24 = .ok (.sipush 1000, 3) := by decide +kernel
theorem dX3_bestKind_27 : decode cX3_bestKind 27 = .ok (.aload_n 1, 1) := by decide +kernel
theorem dX3_bestKind_28 : decode cX3_bestKind 28 = .ok (.getfield 104, 3) := by decide +kernel
theorem dX3_bestKind_31 : decode cX3_bestKind 31 = .ok (.iload 4, 2) := by decide +kernel
theorem dX3_bestKind_33 : decode cX3_bestKind 33 = .ok (.iaload, 1) := by decide +kernel
theorem dX3_bestKind_34 : decode cX3_bestKind 34 = .ok (.imul, 1) := by decide +kernel
theorem dX3_bestKind_35 : decode cX3_bestKind 35 = .ok (.iload_n 2, 1) := by decide +kernel
theorem dX3_bestKind_36 : decode cX3_bestKind 36 = .ok (.if_icmp .gt 7, 3) := by decide +kernel
theorem dX3_bestKind_39 : decode cX3_bestKind 39 = .ok (.iconst 1, 1) := by decide +kernel
theorem dX3_bestKind_40 : decode cX3_bestKind 40 = .ok (.goto 4, 3) := by decide +kernel
theorem dX3_bestKind_43 : decode cX3_bestKind 43 = .ok (.iconst 0, 1) := by decide +kernel
theorem dX3_bestKind_44 : decode cX3_bestKind 44 = .ok (.istore 5, 2) := by decide +kernel
theorem dX3_bestKind_46 : decode cX3_bestKind 46 = .ok (.iload 5, 2) := by decide +kernel
theorem dX3_bestKind_48 : decode cX3_bestKind 48 = .ok (.ifCond .eq 27, 3) := by decide +kernel
theorem dX3_bestKind_51 : decode cX3_bestKind 51 = .ok (.iload_n 3, 1) := by decide +kernel
theorem dX3_bestKind_52 : decode cX3_bestKind 52 = .ok (.iconst (-1), 1) := by decide +kernel
theorem dX3_bestKind_53 : decode cX3_bestKind 53 = .ok (.if_icmp .eq 19, 3) := by decide +kernel
theorem dX3_bestKind_56 : decode cX3_bestKind 56 = .ok (.aload_n 1, 1) := by decide +kernel
theorem dX3_bestKind_57 : decode cX3_bestKind 57 = .ok (.getfield 107, 3) := by decide +kernel
theorem dX3_bestKind_60 : decode cX3_bestKind 60 = .ok (.iload 4, 2) := by decide +kernel
theorem dX3_bestKind_62 : decode cX3_bestKind 62 = .ok (.iaload, 1) := by decide +kernel
theorem dX3_bestKind_63 : decode cX3_bestKind 63 = .ok (.aload_n 1, 1) := by decide +kernel
theorem dX3_bestKind_64 : decode cX3_bestKind 64 = .ok (.getfield 107, 3) := by decide +kernel
theorem dX3_bestKind_67 : decode cX3_bestKind 67 = .ok (.iload_n 3, 1) := by decide +kernel
theorem dX3_bestKind_68 : decode cX3_bestKind 68 = .ok (.iaload, 1) := by decide +kernel
theorem dX3_bestKind_69 : decode cX3_bestKind 69 = .ok (.if_icmp .le 6, 3) := by decide +kernel
theorem dX3_bestKind_72 : decode cX3_bestKind 72 = .ok (.iload 4, 2) := by decide +kernel
theorem dX3_bestKind_74 : decode cX3_bestKind 74 = .ok (.istore_n 3, 1) := by decide +kernel
theorem dX3_bestKind_75 : decode cX3_bestKind 75 = .ok (.iinc 4 1, 3) := by decide +kernel
theorem dX3_bestKind_78 : decode cX3_bestKind 78 = .ok (.goto (-73), 3) := by decide +kernel
theorem dX3_bestKind_81 : decode cX3_bestKind 81 = .ok (.iload_n 3, 1) := by decide +kernel
theorem dX3_bestKind_82 : decode cX3_bestKind 82 = .ok (.ireturn, 1) := by decide +kernel
theorem dX3_worthOfFillings_0 : decode cX3_worthOfFillings 0 = .ok (.iconst 0, 1) := by decide +kernel
theorem dX3_worthOfFillings_1 : decode cX3_worthOfFillings 1 = .ok (.istore_n 2, 1) := by decide +kernel
theorem dX3_worthOfFillings_2 : decode cX3_worthOfFillings 2 = .ok (.iconst 0, 1) := by decide +kernel
theorem dX3_worthOfFillings_3 : decode cX3_worthOfFillings 3 = .ok (.istore_n 3, 1) := by decide +kernel
theorem dX3_worthOfFillings_4 : decode cX3_worthOfFillings 4 = .ok (.iload_n 3, 1) := by decide +kernel
theorem dX3_worthOfFillings_5 : decode cX3_worthOfFillings 5 = .ok (.aload_n 0, 1) := by decide +kernel
theorem dX3_worthOfFillings_6 : decode cX3_worthOfFillings 6 = .ok (.getfield 25, 3) := by decide +kernel
theorem dX3_worthOfFillings_9 : decode cX3_worthOfFillings 9 = .ok (.if_icmp .ge 33, 3) := by decide +kernel
theorem dX3_worthOfFillings_12 : decode cX3_worthOfFillings 12 = .ok (.aload_n 0, 1) := by decide +kernel
theorem dX3_worthOfFillings_13 : decode cX3_worthOfFillings 13 = .ok (.getfield 15, 3) := by decide +kernel
theorem dX3_worthOfFillings_16 : decode cX3_worthOfFillings 16 = .ok (.iload_n 3, 1) := by decide +kernel
theorem dX3_worthOfFillings_17 : decode cX3_worthOfFillings 17 = .ok (.iaload, 1) := by decide +kernel
theorem dX3_worthOfFillings_18 : decode cX3_worthOfFillings 18 = .ok (.iconst (-1), 1) := by decide +kernel
theorem dX3_worthOfFillings_19 : decode cX3_worthOfFillings 19 = .ok (.if_icmp .eq 17, 3) := by decide +kernel
theorem dX3_worthOfFillings_22 : decode cX3_worthOfFillings 22 = .ok (.iload_n 2, 1) := by decide +kernel
theorem dX3_worthOfFillings_23 : decode cX3_worthOfFillings 23 = .ok (.aload_n 1, 1) := by decide +kernel
theorem dX3_worthOfFillings_24 : decode cX3_worthOfFillings 24 = .ok (.getfield 107, 3) := by decide +kernel
theorem dX3_worthOfFillings_27 : decode cX3_worthOfFillings 27 = .ok (.aload_n 0, 1) := by decide +kernel
theorem dX3_worthOfFillings_28 : decode cX3_worthOfFillings 28 = .ok (.getfield 15, 3) := by decide +kernel
theorem dX3_worthOfFillings_31 : decode cX3_worthOfFillings 31 = .ok (.iload_n 3, 1) := by decide +kernel
theorem dX3_worthOfFillings_32 : decode cX3_worthOfFillings 32 = .ok (.iaload, 1) := by decide +kernel
theorem dX3_worthOfFillings_33 : decode cX3_worthOfFillings 33 = .ok (.iaload, 1) := by decide +kernel
theorem dX3_worthOfFillings_34 : decode cX3_worthOfFillings 34 = .ok (.iadd, 1) := by decide +kernel
theorem dX3_worthOfFillings_35 : decode cX3_worthOfFillings 35 = .ok (.istore_n 2, 1) := by decide +kernel
theorem dX3_worthOfFillings_36 : decode cX3_worthOfFillings 36 = .ok (.iinc 3 1, 3) := by decide +kernel
theorem dX3_worthOfFillings_39 : decode cX3_worthOfFillings 39 = .ok (.goto (-35), 3) := by decide +kernel
theorem dX3_worthOfFillings_42 : decode cX3_worthOfFillings 42 = .ok (.iload_n 2, 1) := by decide +kernel
theorem dX3_worthOfFillings_43 : decode cX3_worthOfFillings 43 = .ok (.ireturn, 1) := by decide +kernel
theorem dX4_init_0 : decode cX4_init 0 = .ok (.aload_n 0, 1) := by decide +kernel
theorem dX4_init_1 : decode cX4_init 1 = .ok (.invokespecial 3, 3) := by decide +kernel
theorem dX4_init_4 : decode cX4_init 4 = .ok (.aload_n 0, 1) := by decide +kernel
theorem dX4_init_5 : decode cX4_init 5 = .ok (.bipush 20, 2) := by decide +kernel
theorem dX4_init_7 : decode cX4_init 7 = .ok (.newarray .int, 2) := by decide +kernel
theorem dX4_init_9 : decode cX4_init 9 = .ok (.putfield 9, 3) := by decide +kernel
theorem dX4_init_12 : decode cX4_init 12 = .ok (.aload_n 0, 1) := by decide +kernel
theorem dX4_init_13 : decode cX4_init 13 = .ok (.bipush 20, 2) := by decide +kernel
theorem dX4_init_15 : decode cX4_init 15 = .ok (.newarray .boolean, 2) := by decide +kernel
theorem dX4_init_17 : decode cX4_init 17 = .ok (.putfield 15, 3) := by decide +kernel
theorem dX4_init_20 : decode cX4_init 20 = .ok (.aload_n 0, 1) := by decide +kernel
theorem dX4_init_21 : decode cX4_init 21 = .ok (.bipush 20, 2) := by decide +kernel
theorem dX4_init_23 : decode cX4_init 23 = .ok (.newarray .int, 2) := by decide +kernel
theorem dX4_init_25 : decode cX4_init 25 = .ok (.putfield 19, 3) := by decide +kernel
theorem dX4_init_28 : decode cX4_init 28 = .ok (.aload_n 0, 1) := by decide +kernel
theorem dX4_init_29 : decode cX4_init 29 = .ok (.bipush 26, 2) := by decide +kernel
theorem dX4_init_31 : decode cX4_init 31 = .ok (.newarray .int, 2) := by decide +kernel
theorem dX4_init_33 : decode cX4_init 33 = .ok (.putfield 22, 3) := by decide +kernel
theorem dX4_init_36 : decode cX4_init 36 = .ok (.aload_n 0, 1) := by decide +kernel
theorem dX4_init_37 : decode cX4_init 37 = .ok (.invokevirtual 25, 3) := by decide +kernel
theorem dX4_init_40 : decode cX4_init 40 = .ok (.return_, 1) := by decide +kernel
theorem dX4_clear_0 : decode cX4_clear 0 = .ok (.aload_n 0, 1) := by decide +kernel
theorem dX4_clear_1 : decode cX4_clear 1 = .ok (.iconst 0, 1) := by decide +kernel
theorem dX4_clear_2 : decode cX4_clear 2 = .ok (.putfield 28, 3) := by decide +kernel
theorem dX4_clear_5 : decode cX4_clear 5 = .ok (.iconst 0, 1) := by decide +kernel
theorem dX4_clear_6 : decode cX4_clear 6 = .ok (.istore_n 1, 1) := by decide +kernel
theorem dX4_clear_7 : decode cX4_clear 7 = .ok (.iload_n 1, 1) := by decide +kernel
theorem dX4_clear_8 : decode cX4_clear 8 = .ok (.bipush 26, 2) := by decide +kernel
theorem dX4_clear_10 : decode cX4_clear 10 = .ok (.if_icmp .ge 16, 3) := by decide +kernel
theorem dX4_clear_13 : decode cX4_clear 13 = .ok (.aload_n 0, 1) := by decide +kernel
theorem dX4_clear_14 : decode cX4_clear 14 = .ok (.getfield 22, 3) := by decide +kernel
theorem dX4_clear_17 : decode cX4_clear 17 = .ok (.iload_n 1, 1) := by decide +kernel
theorem dX4_clear_18 : decode cX4_clear 18 = .ok (.iconst 4, 1) := by decide +kernel
theorem dX4_clear_19 : decode cX4_clear 19 = .ok (.iastore, 1) := by decide +kernel
theorem dX4_clear_20 : decode cX4_clear 20 = .ok (.iinc 1 1, 3) := by decide +kernel
theorem dX4_clear_23 : decode cX4_clear 23 = .ok (.goto (-16), 3) := by decide +kernel
theorem dX4_clear_26 : decode cX4_clear 26 = .ok (.return_, 1) := by decide +kernel
theorem dX4_copyFrom_0 : decode cX4_copyFrom 0 = .ok (.aload_n 0, 1) := by decide +kernel
theorem dX4_copyFrom_1 : decode cX4_copyFrom 1 = .ok (.aload_n 1, 1) := by decide +kernel
theorem dX4_copyFrom_2 : decode cX4_copyFrom 2 = .ok (.getfield 28, 3) := by decide +kernel
theorem dX4_copyFrom_5 : decode cX4_copyFrom 5 = .ok (.putfield 28, 3) := by decide +kernel
theorem dX4_copyFrom_8 : decode cX4_copyFrom 8 = .ok (.iconst 0, 1) := by decide +kernel
theorem dX4_copyFrom_9 : decode cX4_copyFrom 9 = .ok (.istore_n 2, 1) := by decide +kernel
theorem dX4_copyFrom_10 : decode cX4_copyFrom 10 = .ok (.iload_n 2, 1) := by decide +kernel
theorem dX4_copyFrom_11 : decode cX4_copyFrom 11 = .ok (.aload_n 0, 1) := by decide +kernel
theorem dX4_copyFrom_12 : decode cX4_copyFrom 12 = .ok (.getfield 28, 3) := by decide +kernel
theorem dX4_copyFrom_15 : decode cX4_copyFrom 15 = .ok (.if_icmp .ge 45, 3) := by decide +kernel
theorem dX4_copyFrom_18 : decode cX4_copyFrom 18 = .ok (.aload_n 0, 1) := by decide +kernel
theorem dX4_copyFrom_19 : decode cX4_copyFrom 19 = .ok (.getfield 9, 3) := by decide +kernel
theorem dX4_copyFrom_22 : decode cX4_copyFrom 22 = .ok (.iload_n 2, 1) := by decide +kernel
theorem dX4_copyFrom_23 : decode cX4_copyFrom 23 = .ok (.aload_n 1, 1) := by decide +kernel
theorem dX4_copyFrom_24 : decode cX4_copyFrom 24 = .ok (.getfield 9, 3) := by decide +kernel
theorem dX4_copyFrom_27 : decode cX4_copyFrom 27 = .ok (.iload_n 2, 1) := by decide +kernel
theorem dX4_copyFrom_28 : decode cX4_copyFrom 28 = .ok (.iaload, 1) := by decide +kernel
theorem dX4_copyFrom_29 : decode cX4_copyFrom 29 = .ok (.iastore, 1) := by decide +kernel
theorem dX4_copyFrom_30 : decode cX4_copyFrom 30 = .ok (.aload_n 0, 1) := by decide +kernel
theorem dX4_copyFrom_31 : decode cX4_copyFrom 31 = .ok (.getfield 15, 3) := by decide +kernel
theorem dX4_copyFrom_34 : decode cX4_copyFrom 34 = .ok (.iload_n 2, 1) := by decide +kernel
theorem dX4_copyFrom_35 : decode cX4_copyFrom 35 = .ok (.aload_n 1, 1) := by decide +kernel
theorem dX4_copyFrom_36 : decode cX4_copyFrom 36 = .ok (.getfield 15, 3) := by decide +kernel
theorem dX4_copyFrom_39 : decode cX4_copyFrom 39 = .ok (.iload_n 2, 1) := by decide +kernel
theorem dX4_copyFrom_40 : decode cX4_copyFrom 40 = .ok (.baload, 1) := by decide +kernel
theorem dX4_copyFrom_41 : decode cX4_copyFrom 41 = .ok (.bastore, 1) := by decide +kernel
theorem dX4_copyFrom_42 : decode cX4_copyFrom 42 = .ok (.aload_n 0, 1) := by decide +kernel
theorem dX4_copyFrom_43 : decode cX4_copyFrom 43 = .ok (.getfield 19, 3) := by decide +kernel
theorem dX4_copyFrom_46 : decode cX4_copyFrom 46 = .ok (.iload_n 2, 1) := by decide +kernel
theorem dX4_copyFrom_47 : decode cX4_copyFrom 47 = .ok (.aload_n 1, 1) := by decide +kernel
theorem dX4_copyFrom_48 : decode cX4_copyFrom 48 = .ok (.getfield 19, 3) := by decide +kernel
theorem dX4_copyFrom_51 : decode cX4_copyFrom 51 = .ok (.iload_n 2, 1) := by decide +kernel
theorem dX4_copyFrom_52 : decode cX4_copyFrom 52 = .ok (.iaload, 1) := by decide +kernel
theorem dX4_copyFrom_53 : decode cX4_copyFrom 53 = .ok (.iastore, 1) := by decide +kernel
theorem dX4_copyFrom_54 : decode cX4_copyFrom 54 = .ok (.iinc 2 1, 3) := by decide +kernel
theorem dX4_copyFrom_57 : decode cX4_copyFrom 57 = .ok (.goto (-47), 3) := by decide +kernel
theorem dX4_copyFrom_60 : decode cX4_copyFrom 60 = .ok (.iconst 0, 1) := by decide +kernel
theorem dX4_copyFrom_61 : decode cX4_copyFrom 61 = .ok (.istore_n 2, 1) := by decide +kernel
theorem dX4_copyFrom_62 : decode cX4_copyFrom 62 = .ok (.iload_n 2, 1) := by decide +kernel
theorem dX4_copyFrom_63 : decode cX4_copyFrom 63 = .ok (.bipush 26, 2) := by decide +kernel
theorem dX4_copyFrom_65 : decode cX4_copyFrom 65 = .ok (.if_icmp .ge 21, 3) := by decide +kernel
theorem dX4_copyFrom_68 : decode cX4_copyFrom 68 = .ok (.aload_n 0, 1) := by decide +kernel
theorem dX4_copyFrom_69 : decode cX4_copyFrom 69 = .ok (.getfield 22, 3) := by decide +kernel
theorem dX4_copyFrom_72 : decode cX4_copyFrom 72 = .ok (.iload_n 2, 1) := by decide +kernel
theorem dX4_copyFrom_73 : decode cX4_copyFrom 73 = .ok (.aload_n 1, 1) := by decide +kernel
theorem dX4_copyFrom_74 : decode cX4_copyFrom 74 = .ok (.getfield 22, 3) := by decide +kernel
theorem dX4_copyFrom_77 : decode cX4_copyFrom 77 = .ok (.iload_n 2, 1) := by decide +kernel
theorem dX4_copyFrom_78 : decode cX4_copyFrom 78 = .ok (.iaload, 1) := by decide +kernel
theorem dX4_copyFrom_79 : decode cX4_copyFrom 79 = .ok (.iastore, 1) := by decide +kernel
theorem dX4_copyFrom_80 : decode cX4_copyFrom 80 = .ok (.iinc 2 1, 3) := by decide +kernel
theorem dX4_copyFrom_83 : decode cX4_copyFrom 83 = .ok (.goto (-21), 3) := by decide +kernel
theorem dX4_copyFrom_86 : decode cX4_copyFrom 86 = .ok (.return_, 1) := by decide +kernel
theorem dX4_addWord_0 : decode cX4_addWord 0 = .ok (.iload_n 2, 1) := by decide +kernel
theorem dX4_addWord_1 : decode cX4_addWord 1 = .ok (.istore 4, 2) := by decide +kernel
theorem dX4_addWord_3 : decode cX4_addWord 3 = .ok (.iload 4, 2) := by decide +kernel
theorem dX4_addWord_5 : decode cX4_addWord 5 = .ok (.iload_n 3, 1) := by decide +kernel
theorem dX4_addWord_6 : decode cX4_addWord 6 = .ok (.if_icmp .ge 75, 3) := by decide +kernel
theorem dX4_addWord_9 : decode cX4_addWord 9 = .ok (.aload_n 1, 1) := by decide +kernel
theorem dX4_addWord_10 : decode cX4_addWord 10 = .ok (.iload 4, 2) := by decide +kernel
theorem dX4_addWord_12 : decode cX4_addWord 12 = .ok (.invokevirtual 32, 3) := by decide +kernel
theorem dX4_addWord_15 : decode cX4_addWord 15 = .ok (.istore 5, 2) := by decide +kernel
theorem dX4_addWord_17 : decode cX4_addWord 17 = .ok (.aload_n 0, 1) := by decide +kernel
theorem dX4_addWord_18 : decode cX4_addWord 18 = .ok (.getfield 28, 3) := by decide +kernel
theorem dX4_addWord_21 : decode cX4_addWord 21 = .ok (.bipush 20, 2) := by decide +kernel
theorem dX4_addWord_23 : decode cX4_addWord 23 = .ok (.if_icmp .ge 52, 3) := by decide +kernel
theorem dX4_addWord_26 : decode cX4_addWord 26 = .ok (.iload 5, 2) := by decide +kernel
theorem dX4_addWord_28 : decode cX4_addWord 28 = .ok (.invokestatic 38, 3) := by decide +kernel
theorem dX4_addWord_31 : decode cX4_addWord 31 = .ok (.ifCond .eq 44, 3) := by decide +kernel
theorem dX4_addWord_34 : decode cX4_addWord 34 = .ok (.aload_n 0, 1) := by decide +kernel
theorem dX4_addWord_35 : decode cX4_addWord 35 = .ok (.getfield 9, 3) := by decide +kernel
theorem dX4_addWord_38 : decode cX4_addWord 38 = .ok (.aload_n 0, 1) := by decide +kernel
theorem dX4_addWord_39 : decode cX4_addWord 39 = .ok (.getfield 28, 3) := by decide +kernel
theorem dX4_addWord_42 : decode cX4_addWord 42 = .ok (.iload 5, 2) := by decide +kernel
theorem dX4_addWord_44 : decode cX4_addWord 44 = .ok (.iastore, 1) := by decide +kernel
theorem dX4_addWord_45 : decode cX4_addWord 45 = .ok (.aload_n 0, 1) := by decide +kernel
theorem dX4_addWord_46 : decode cX4_addWord 46 = .ok (.getfield 15, 3) := by decide +kernel
theorem dX4_addWord_49 : decode cX4_addWord 49 = .ok (.aload_n 0, 1) := by decide +kernel
theorem dX4_addWord_50 : decode cX4_addWord 50 = .ok (.getfield 28, 3) := by decide +kernel
theorem dX4_addWord_53 : decode cX4_addWord 53 = .ok (.iconst 0, 1) := by decide +kernel
theorem dX4_addWord_54 : decode cX4_addWord 54 = .ok (.bastore, 1) := by decide +kernel
theorem dX4_addWord_55 : decode cX4_addWord 55 = .ok (.aload_n 0, 1) := by decide +kernel
theorem dX4_addWord_56 : decode cX4_addWord 56 = .ok (.getfield 19, 3) := by decide +kernel
theorem dX4_addWord_59 : decode cX4_addWord 59 = .ok (.aload_n 0, 1) := by decide +kernel
theorem dX4_addWord_60 : decode cX4_addWord 60 = .ok (.getfield 28, 3) := by decide +kernel
theorem dX4_addWord_63 : decode cX4_addWord 63 = .ok (.iconst 0, 1) := by decide +kernel
theorem dX4_addWord_64 : decode cX4_addWord 64 = .ok (.iastore, 1) := by decide +kernel
theorem dX4_addWord_65 : decode cX4_addWord 65 = .ok (.aload_n 0, 1) := by decide +kernel
theorem dX4_addWord_66 : decode cX4_addWord 66 = .ok (.dup, 1) := by decide +kernel
theorem dX4_addWord_67 : decode cX4_addWord 67 = .ok (.getfield 28, 3) := by decide +kernel
theorem dX4_addWord_70 : decode cX4_addWord 70 = .ok (.iconst 1, 1) := by decide +kernel
theorem dX4_addWord_71 : decode cX4_addWord 71 = .ok (.iadd, 1) := by decide +kernel
theorem dX4_addWord_72 : decode cX4_addWord 72 = .ok (.putfield 28, 3) := by decide +kernel
theorem dX4_addWord_75 : decode cX4_addWord 75 = .ok (.iinc 4 1, 3) := by decide +kernel
theorem dX4_addWord_78 : decode cX4_addWord 78 = .ok (.goto (-75), 3) := by decide +kernel
theorem dX4_addWord_81 : decode cX4_addWord 81 = .ok (.return_, 1) := by decide +kernel
theorem dX4_widenWord_0 : decode cX4_widenWord 0 = .ok (.iload_n 2, 1) := by decide +kernel
theorem dX4_widenWord_1 : decode cX4_widenWord 1 = .ok (.istore 5, 2) := by decide +kernel
theorem dX4_widenWord_3 : decode cX4_widenWord 3 = .ok (.iload 5, 2) := by decide +kernel
theorem dX4_widenWord_5 : decode cX4_widenWord 5 = .ok (.iload_n 3, 1) := by decide +kernel
theorem dX4_widenWord_6 : decode cX4_widenWord 6 = .ok (.if_icmp .ge 34, 3) := by decide +kernel
theorem dX4_widenWord_9 : decode cX4_widenWord 9 = .ok (.aload_n 1, 1) := by decide +kernel
theorem dX4_widenWord_10 : decode cX4_widenWord 10 = .ok (.iload 5, 2) := by decide +kernel
theorem dX4_widenWord_12 : decode cX4_widenWord 12 = .ok (.invokevirtual 32, 3) := by decide +kernel
theorem dX4_widenWord_15 : decode cX4_widenWord 15 = .ok (.istore 6, 2) := by decide +kernel
theorem dX4_widenWord_17 : decode cX4_widenWord 17 = .ok (.iload 6, 2) := by decide +kernel
theorem dX4_widenWord_19 : decode cX4_widenWord 19 = .ok (.invokestatic 38, 3) := by decide +kernel
theorem dX4_widenWord_22 : decode cX4_widenWord 22 = .ok (.ifCond .eq 12, 3) := by decide +kernel
theorem dX4_widenWord_25 : decode cX4_widenWord 25 = .ok (.aload_n 0, 1) := by decide +kernel
theorem dX4_widenWord_26 : decode cX4_widenWord 26 = .ok (.getfield 22, 3) := by decide +kernel
theorem dX4_widenWord_29 : decode cX4_widenWord 29 = .ok (.iload 6, 2) := by decide +kernel
theorem dX4_widenWord_31 : decode cX4_widenWord 31 = .ok (.iload 4, 2) := by decide +kernel
theorem dX4_widenWord_33 : decode cX4_widenWord 33 = .ok (.iastore, 1) := by decide +kernel
theorem dX4_widenWord_34 : decode cX4_widenWord 34 = .ok (.iinc 5 1, 3) := by decide +kernel
theorem dX4_widenWord_37 : decode cX4_widenWord 37 = .ok (.goto (-34), 3) := by decide +kernel
theorem dX4_widenWord_40 : decode cX4_widenWord 40 = .ok (.return_, 1) := by decide +kernel
theorem dX4_partsOf_0 : decode cX4_partsOf 0 = .ok (.sipush 1000, 3) := by decide +kernel
theorem dX4_partsOf_3 : decode cX4_partsOf 3 = .ok (.aload_n 0, 1) := by decide +kernel
theorem dX4_partsOf_4 : decode cX4_partsOf 4 = .ok (.getfield 22, 3) := by decide +kernel
theorem dX4_partsOf_7 : decode cX4_partsOf 7 = .ok (.aload_n 0, 1) := by decide +kernel
theorem dX4_partsOf_8 : decode cX4_partsOf 8 = .ok (.getfield 9, 3) := by decide +kernel
theorem dX4_partsOf_11 : decode cX4_partsOf 11 = .ok (.iload_n 1, 1) := by decide +kernel
theorem dX4_partsOf_12 : decode cX4_partsOf 12 = .ok (.iaload, 1) := by decide +kernel
theorem dX4_partsOf_13 : decode cX4_partsOf 13 = .ok (.iaload, 1) := by decide +kernel
theorem dX4_partsOf_14 : decode cX4_partsOf 14 = .ok (.imul, 1) := by decide +kernel
theorem dX4_partsOf_15 : decode cX4_partsOf 15 = .ok (.ireturn, 1) := by decide +kernel
theorem dX4_partsOfAll_0 : decode cX4_partsOfAll 0 = .ok (.iconst 0, 1) := by decide +kernel
theorem dX4_partsOfAll_1 : decode cX4_partsOfAll 1 = .ok (.istore_n 1, 1) := by decide +kernel
theorem dX4_partsOfAll_2 : decode cX4_partsOfAll 2 = .ok (.iconst 0, 1) := by decide +kernel
theorem dX4_partsOfAll_3 : decode cX4_partsOfAll 3 = .ok (.istore_n 2, 1) := by decide +kernel
theorem dX4_partsOfAll_4 : decode cX4_partsOfAll 4 = .ok (.iload_n 2, 1) := by decide +kernel
theorem dX4_partsOfAll_5 : decode cX4_partsOfAll 5 = .ok (.aload_n 0, 1) := by decide +kernel
theorem dX4_partsOfAll_6 : decode cX4_partsOfAll 6 = .ok (.getfield 28, 3) := by decide +kernel
theorem dX4_partsOfAll_9 : decode cX4_partsOfAll 9 = .ok (.if_icmp .ge 17, 3) := by decide +kernel
theorem dX4_partsOfAll_12 : decode cX4_partsOfAll 12 = .ok (.iload_n 1, 1) := by decide +kernel
theorem dX4_partsOfAll_13 : decode cX4_partsOfAll 13 = .ok (.aload_n 0, 1) := by decide +kernel
theorem dX4_partsOfAll_14 : decode cX4_partsOfAll 14 = .ok (.iload_n 2, 1) := by decide +kernel
theorem dX4_partsOfAll_15 : decode cX4_partsOfAll 15 = .ok (.invokevirtual 42, 3) := by decide +kernel
theorem dX4_partsOfAll_18 : decode cX4_partsOfAll 18 = .ok (.iadd, 1) := by decide +kernel
theorem dX4_partsOfAll_19 : decode cX4_partsOfAll 19 = .ok (.istore_n 1, 1) := by decide +kernel
theorem dX4_partsOfAll_20 : decode cX4_partsOfAll 20 = .ok (.iinc 2 1, 3) := by decide +kernel
theorem dX4_partsOfAll_23 : decode cX4_partsOfAll 23 = .ok (.goto (-19), 3) := by decide +kernel
theorem dX4_partsOfAll_26 : decode cX4_partsOfAll 26 = .ok (.iload_n 1, 1) := by decide +kernel
theorem dX4_partsOfAll_27 : decode cX4_partsOfAll 27 = .ok (.ireturn, 1) := by decide +kernel
theorem dX4_strokesOf_0 : decode cX4_strokesOf 0 = .ok (.iconst 1, 1) := by decide +kernel
theorem dX4_strokesOf_1 : decode cX4_strokesOf 1 = .ok (.aload_n 0, 1) := by decide +kernel
theorem dX4_strokesOf_2 : decode cX4_strokesOf 2 = .ok (.getfield 9, 3) := by decide +kernel
theorem dX4_strokesOf_5 : decode cX4_strokesOf 5 = .ok (.iload_n 1, 1) := by decide +kernel
theorem dX4_strokesOf_6 : decode cX4_strokesOf 6 = .ok (.iaload, 1) := by decide +kernel
theorem dX4_strokesOf_7 : decode cX4_strokesOf 7 = .ok (.iconst 4, 1) := by decide +kernel
theorem dX4_strokesOf_8 : decode cX4_strokesOf 8 = .ok (.irem, 1) := by decide +kernel
theorem dX4_strokesOf_9 : decode cX4_strokesOf 9 = .ok (.iadd, 1) := by decide +kernel
theorem dX4_strokesOf_10 : decode cX4_strokesOf 10 = .ok (.ireturn, 1) := by decide +kernel
theorem dX4_engravedLetters_0 : decode cX4_engravedLetters 0 = .ok (.iconst 0, 1) := by decide +kernel
theorem dX4_engravedLetters_1 : decode cX4_engravedLetters 1 = .ok (.istore_n 1, 1) := by decide +kernel
theorem dX4_engravedLetters_2 : decode cX4_engravedLetters 2 = .ok (.iconst 0, 1) := by decide +kernel
theorem dX4_engravedLetters_3 : decode cX4_engravedLetters 3 = .ok (.istore_n 2, 1) := by decide +kernel
theorem dX4_engravedLetters_4 : decode cX4_engravedLetters 4 = .ok (.iload_n 2, 1) := by decide +kernel
theorem dX4_engravedLetters_5 : decode cX4_engravedLetters 5 = .ok (.aload_n 0, 1) := by decide +kernel
theorem dX4_engravedLetters_6 : decode cX4_engravedLetters 6 = .ok (.getfield 28, 3) := by decide +kernel
theorem dX4_engravedLetters_9 : decode cX4_engravedLetters 9 = .ok (.if_icmp .ge 21, 3) := by decide +kernel
theorem dX4_engravedLetters_12 : decode cX4_engravedLetters 12 = .ok (.aload_n 0, 1) := by decide +kernel
theorem dX4_engravedLetters_13 : decode cX4_engravedLetters 13 = .ok (.getfield 15, 3) := by decide +kernel
theorem dX4_engravedLetters_16 : decode cX4_engravedLetters 16 = .ok (.iload_n 2, 1) := by decide +kernel
theorem dX4_engravedLetters_17 : decode cX4_engravedLetters 17 = .ok (.baload, 1) := by decide +kernel
theorem dX4_engravedLetters_18 : decode cX4_engravedLetters 18 = .ok (.ifCond .eq 6, 3) := by decide +kernel
theorem dX4_engravedLetters_21 : decode cX4_engravedLetters 21 = .ok (.iinc 1 1, 3) := by decide +kernel
theorem dX4_engravedLetters_24 : decode cX4_engravedLetters 24 = .ok (.iinc 2 1, 3) := by decide +kernel
theorem dX4_engravedLetters_27 : decode cX4_engravedLetters 27 = .ok (.goto (-23), 3) := by decide +kernel
theorem dX4_engravedLetters_30 : decode cX4_engravedLetters 30 = .ok (.iload_n 1, 1) := by decide +kernel
theorem dX4_engravedLetters_31 : decode cX4_engravedLetters 31 = .ok (.ireturn, 1) := by decide +kernel
theorem dX5_init_0 : decode cX5_init 0 = .ok (.aload_n 0, 1) := by decide +kernel
theorem dX5_init_1 : decode cX5_init 1 = .ok (.invokespecial 3, 3) := by decide +kernel
theorem dX5_init_4 : decode cX5_init 4 = .ok (.aload_n 0, 1) := by decide +kernel
theorem dX5_init_5 : decode cX5_init 5 = .ok (.new 9, 3) := by decide +kernel
theorem dX5_init_8 : decode cX5_init 8 = .ok (.dup, 1) := by decide +kernel
theorem dX5_init_9 : decode cX5_init 9 = .ok (.invokespecial 11, 3) := by decide +kernel
theorem dX5_init_12 : decode cX5_init 12 = .ok (.putfield 12, 3) := by decide +kernel
theorem dX5_init_15 : decode cX5_init 15 = .ok (.aload_n 0, 1) := by decide +kernel
theorem dX5_init_16 : decode cX5_init 16 = .ok (.new 18, 3) := by decide +kernel
theorem dX5_init_19 : decode cX5_init 19 = .ok (.dup, 1) := by decide +kernel
theorem dX5_init_20 : decode cX5_init 20 = .ok (.invokespecial 20, 3) := by decide +kernel
theorem dX5_init_23 : decode cX5_init 23 = .ok (.putfield 21, 3) := by decide +kernel
theorem dX5_init_26 : decode cX5_init 26 = .ok (.aload_n 0, 1) := by decide +kernel
theorem dX5_init_27 : decode cX5_init 27 = .ok (.new 25, 3) := by decide +kernel
theorem dX5_init_30 : decode cX5_init 30 = .ok (.dup, 1) := by decide +kernel
theorem dX5_init_31 : decode cX5_init 31 = .ok (.invokespecial 27, 3) := by decide +kernel
theorem dX5_init_34 : decode cX5_init 34 = .ok (.putfield 28, 3) := by decide +kernel
theorem dX5_init_37 : decode cX5_init 37 = .ok (.aload_n 0, 1) := by decide +kernel
theorem dX5_init_38 : decode cX5_init 38 = .ok (.new 32, 3) := by decide +kernel
theorem dX5_init_41 : decode cX5_init 41 = .ok (.dup, 1) := by decide +kernel
theorem dX5_init_42 : decode cX5_init 42 = .ok (.invokespecial 34, 3) := by decide +kernel
theorem dX5_init_45 : decode cX5_init 45 = .ok (.putfield 35, 3) := by decide +kernel
theorem dX5_init_48 : decode cX5_init 48 = .ok (.aload_n 0, 1) := by decide +kernel
theorem dX5_init_49 : decode cX5_init 49 = .ok (.new 39, 3) := by decide +kernel
theorem dX5_init_52 : decode cX5_init 52 = .ok (.dup, 1) := by decide +kernel
theorem dX5_init_53 : decode cX5_init 53 = .ok (.invokespecial 41, 3) := by decide +kernel
theorem dX5_init_56 : decode cX5_init 56 = .ok (.putfield 42, 3) := by decide +kernel
theorem dX5_init_59 : decode cX5_init 59 = .ok (.aload_n 0, 1) := by decide +kernel
theorem dX5_init_60 : decode cX5_init 60 = .ok (.iconst 1, 1) := by decide +kernel
theorem dX5_init_61 : decode cX5_init 61 = .ok (.putfield 46, 3) := by decide +kernel
theorem dX5_init_64 : decode cX5_init 64 = .ok (.return_, 1) := by decide +kernel
theorem dX5_clear_0 : decode cX5_clear 0 = .ok (.aload_n 0, 1) := by decide +kernel
theorem dX5_clear_1 : decode cX5_clear 1 = .ok (.getfield 12, 3) := by decide +kernel
theorem dX5_clear_4 : decode cX5_clear 4 = .ok (.iconst 0, 1) := by decide +kernel
theorem dX5_clear_5 : decode cX5_clear 5 = .ok (.putfield 50, 3) := by decide +kernel
theorem dX5_clear_8 : decode cX5_clear 8 = .ok (.aload_n 0, 1) := by decide +kernel
theorem dX5_clear_9 : decode cX5_clear 9 = .ok (.getfield 21, 3) := by decide +kernel
theorem dX5_clear_12 : decode cX5_clear 12 = .ok (.invokevirtual 53, 3) := by decide +kernel
theorem dX5_clear_15 : decode cX5_clear 15 = .ok (.aload_n 0, 1) := by decide +kernel
theorem dX5_clear_16 : decode cX5_clear 16 = .ok (.getfield 28, 3) := by decide +kernel
theorem dX5_clear_19 : decode cX5_clear 19 = .ok (.iconst 0, 1) := by decide +kernel
theorem dX5_clear_20 : decode cX5_clear 20 = .ok (.putfield 56, 3) := by decide +kernel
theorem dX5_clear_23 : decode cX5_clear 23 = .ok (.aload_n 0, 1) := by decide +kernel
theorem dX5_clear_24 : decode cX5_clear 24 = .ok (.getfield 35, 3) := by decide +kernel
theorem dX5_clear_27 : decode cX5_clear 27 = .ok (.invokevirtual 59, 3) := by decide +kernel
theorem dX5_clear_30 : decode cX5_clear 30 = .ok (.aload_n 0, 1) := by decide +kernel
theorem dX5_clear_31 : decode cX5_clear 31 = .ok (.getfield 42, 3) := by decide +kernel
theorem dX5_clear_34 : decode cX5_clear 34 = .ok (.iconst 0, 1) := by decide +kernel
theorem dX5_clear_35 : decode cX5_clear 35 = .ok (.putfield 60, 3) := by decide +kernel
theorem dX5_clear_38 : decode cX5_clear 38 = .ok (.aload_n 0, 1) := by decide +kernel
theorem dX5_clear_39 : decode cX5_clear 39 = .ok (.iconst 1, 1) := by decide +kernel
theorem dX5_clear_40 : decode cX5_clear 40 = .ok (.putfield 46, 3) := by decide +kernel
theorem dX5_clear_43 : decode cX5_clear 43 = .ok (.return_, 1) := by decide +kernel
theorem dX5_copyFrom_0 : decode cX5_copyFrom 0 = .ok (.aload_n 0, 1) := by decide +kernel
theorem dX5_copyFrom_1 : decode cX5_copyFrom 1 = .ok (.getfield 12, 3) := by decide +kernel
theorem dX5_copyFrom_4 : decode cX5_copyFrom 4 = .ok (.aload_n 1, 1) := by decide +kernel
theorem dX5_copyFrom_5 : decode cX5_copyFrom 5 = .ok (.getfield 12, 3) := by decide +kernel
theorem dX5_copyFrom_8 : decode cX5_copyFrom 8 = .ok (.invokevirtual 61, 3) := by decide +kernel
theorem dX5_copyFrom_11 : decode cX5_copyFrom 11 = .ok (.aload_n 0, 1) := by decide +kernel
theorem dX5_copyFrom_12 : decode cX5_copyFrom 12 = .ok (.getfield 21, 3) := by decide +kernel
theorem dX5_copyFrom_15 : decode cX5_copyFrom 15 = .ok (.aload_n 1, 1) := by decide +kernel
theorem dX5_copyFrom_16 : decode cX5_copyFrom 16 = .ok (.getfield 21, 3) := by decide +kernel
theorem dX5_copyFrom_19 : decode cX5_copyFrom 19 = .ok (.invokevirtual 65, 3) := by decide +kernel
theorem dX5_copyFrom_22 : decode cX5_copyFrom 22 = .ok (.aload_n 0, 1) := by decide +kernel
theorem dX5_copyFrom_23 : decode cX5_copyFrom 23 = .ok (.getfield 28, 3) := by decide +kernel
theorem dX5_copyFrom_26 : decode cX5_copyFrom 26 = .ok (.aload_n 1, 1) := by decide +kernel
theorem dX5_copyFrom_27 : decode cX5_copyFrom 27 = .ok (.getfield 28, 3) := by decide +kernel
theorem dX5_copyFrom_30 : decode cX5_copyFrom 30 = .ok (.invokevirtual 68, 3) := by decide +kernel
theorem dX5_copyFrom_33 : decode cX5_copyFrom 33 = .ok (.aload_n 0, 1) := by decide +kernel
theorem dX5_copyFrom_34 : decode cX5_copyFrom 34 = .ok (.getfield 35, 3) := by decide +kernel
theorem dX5_copyFrom_37 : decode cX5_copyFrom 37 = .ok (.aload_n 1, 1) := by decide +kernel
theorem dX5_copyFrom_38 : decode cX5_copyFrom 38 = .ok (.getfield 35, 3) := by decide +kernel
theorem dX5_copyFrom_41 : decode cX5_copyFrom 41 = .ok (.invokevirtual 71, 3) := by decide +kernel
theorem dX5_copyFrom_44 : decode cX5_copyFrom 44 = .ok (.aload_n 0, 1) := by decide +kernel
theorem dX5_copyFrom_45 : decode cX5_copyFrom 45 = .ok (.getfield 42, 3) := by decide +kernel
theorem dX5_copyFrom_48 : decode cX5_copyFrom 48 = .ok (.aload_n 1, 1) := by decide +kernel
theorem dX5_copyFrom_49 : decode cX5_copyFrom 49 = .ok (.getfield 42, 3) := by decide +kernel
theorem dX5_copyFrom_52 : decode cX5_copyFrom 52 = .ok (.invokevirtual 74, 3) := by decide +kernel
theorem dX5_copyFrom_55 : decode cX5_copyFrom 55 = .ok (.aload_n 0, 1) := by decide +kernel
theorem dX5_copyFrom_56 : decode cX5_copyFrom 56 = .ok (.aload_n 1, 1) := by decide +kernel
theorem dX5_copyFrom_57 : decode cX5_copyFrom 57 = .ok (.getfield 46, 3) := by decide +kernel
theorem dX5_copyFrom_60 : decode cX5_copyFrom 60 = .ok (.putfield 46, 3) := by decide +kernel
theorem dX5_copyFrom_63 : decode cX5_copyFrom 63 = .ok (.return_, 1) := by decide +kernel
theorem dX5_hasArc_0 : decode cX5_hasArc 0 = .ok (.iload_n 1, 1) := by decide +kernel
theorem dX5_hasArc_1 : decode cX5_hasArc 1 = .ok (.iconst 0, 1) := by decide +kernel
theorem dX5_hasArc_2 : decode cX5_hasArc 2 = .ok (.aload_n 0, 1) := by decide +kernel
theorem dX5_hasArc_3 : decode cX5_hasArc 3 = .ok (.getfield 12, 3) := by decide +kernel
theorem dX5_hasArc_6 : decode cX5_hasArc 6 = .ok (.getfield 50, 3) := by decide +kernel
theorem dX5_hasArc_9 : decode cX5_hasArc 9 = .ok (.iconst 1, 1) := by decide +kernel
theorem dX5_hasArc_10 : decode cX5_hasArc 10 = .ok (.isub, 1) := by decide +kernel
theorem dX5_hasArc_11 : decode cX5_hasArc 11 = .ok (.invokestatic 77, 3) := by decide +kernel
theorem dX5_hasArc_14 : decode cX5_hasArc 14 = .ok (.ireturn, 1) := by decide +kernel
theorem dX5_hasLetter_0 : decode cX5_hasLetter 0 = .ok (.iload_n 1, 1) := by decide +kernel
theorem dX5_hasLetter_1 : decode cX5_hasLetter 1 = .ok (.iconst 0, 1) := by decide +kernel
theorem dX5_hasLetter_2 : decode cX5_hasLetter 2 = .ok (.aload_n 0, 1) := by decide +kernel
theorem dX5_hasLetter_3 : decode cX5_hasLetter 3 = .ok (.getfield 21, 3) := by decide +kernel
theorem dX5_hasLetter_6 : decode cX5_hasLetter 6 = .ok (.getfield 81, 3) := by decide +kernel
theorem dX5_hasLetter_9 : decode cX5_hasLetter 9 = .ok (.iconst 1, 1) := by decide +kernel
theorem dX5_hasLetter_10 : decode cX5_hasLetter 10 = .ok (.isub, 1) := by decide +kernel
theorem dX5_hasLetter_11 : decode cX5_hasLetter 11 = .ok (.invokestatic 77, 3) := by decide +kernel
theorem dX5_hasLetter_14 : decode cX5_hasLetter 14 = .ok (.ireturn, 1) := by decide +kernel
theorem dX5_hasRoom_0 : decode cX5_hasRoom 0 = .ok (.iload_n 1, 1) := by decide +kernel
theorem dX5_hasRoom_1 : decode cX5_hasRoom 1 = .ok (.iconst 0, 1) := by decide +kernel
theorem dX5_hasRoom_2 : decode cX5_hasRoom 2 = .ok (.aload_n 0, 1) := by decide +kernel
theorem dX5_hasRoom_3 : decode cX5_hasRoom 3 = .ok (.getfield 21, 3) := by decide +kernel
theorem dX5_hasRoom_6 : decode cX5_hasRoom 6 = .ok (.getfield 81, 3) := by decide +kernel
theorem dX5_hasRoom_9 : decode cX5_hasRoom 9 = .ok (.invokestatic 77, 3) := by decide +kernel
theorem dX5_hasRoom_12 : decode cX5_hasRoom 12 = .ok (.ireturn, 1) := by decide +kernel
theorem dX5_hasKind_0 : decode cX5_hasKind 0 = .ok (.iload_n 1, 1) := by decide +kernel
theorem dX5_hasKind_1 : decode cX5_hasKind 1 = .ok (.iconst 0, 1) := by decide +kernel
theorem dX5_hasKind_2 : decode cX5_hasKind 2 = .ok (.aload_n 0, 1) := by decide +kernel
theorem dX5_hasKind_3 : decode cX5_hasKind 3 = .ok (.getfield 28, 3) := by decide +kernel
theorem dX5_hasKind_6 : decode cX5_hasKind 6 = .ok (.getfield 56, 3) := by decide +kernel
theorem dX5_hasKind_9 : decode cX5_hasKind 9 = .ok (.iconst 1, 1) := by decide +kernel
theorem dX5_hasKind_10 : decode cX5_hasKind 10 = .ok (.isub, 1) := by decide +kernel
theorem dX5_hasKind_11 : decode cX5_hasKind 11 = .ok (.invokestatic 77, 3) := by decide +kernel
theorem dX5_hasKind_14 : decode cX5_hasKind 14 = .ok (.ireturn, 1) := by decide +kernel
theorem dX5_hasScratch_0 : decode cX5_hasScratch 0 = .ok (.iload_n 1, 1) := by decide +kernel
theorem dX5_hasScratch_1 : decode cX5_hasScratch 1 = .ok (.iconst 0, 1) := by decide +kernel
theorem dX5_hasScratch_2 : decode cX5_hasScratch 2 = .ok (.aload_n 0, 1) := by decide +kernel
theorem dX5_hasScratch_3 : decode cX5_hasScratch 3 = .ok (.getfield 42, 3) := by decide +kernel
theorem dX5_hasScratch_6 : decode cX5_hasScratch 6 = .ok (.getfield 60, 3) := by decide +kernel
theorem dX5_hasScratch_9 : decode cX5_hasScratch 9 = .ok (.iconst 1, 1) := by decide +kernel
theorem dX5_hasScratch_10 : decode cX5_hasScratch 10 = .ok (.isub, 1) := by decide +kernel
theorem dX5_hasScratch_11 : decode cX5_hasScratch 11 = .ok (.invokestatic 77, 3) := by decide +kernel
theorem dX5_hasScratch_14 : decode cX5_hasScratch 14 = .ok (.ireturn, 1) := by decide +kernel
theorem dX5_canHaveMargin_0 : decode cX5_canHaveMargin 0 = .ok (.iload_n 0, 1) := by decide +kernel
theorem dX5_canHaveMargin_1 : decode cX5_canHaveMargin 1 = .ok (.iconst 0, 1) := by decide +kernel
theorem dX5_canHaveMargin_2 : decode cX5_canHaveMargin 2 = .ok (.bipush 99, 2) := by decide +kernel
theorem dX5_canHaveMargin_4 : decode cX5_canHaveMargin 4 = .ok (.invokestatic 77, 3) := by decide +kernel
theorem dX5_canHaveMargin_7 : decode cX5_canHaveMargin 7 = .ok (.ireturn, 1) := by decide +kernel
theorem dX5_centreTurn_0 : decode cX5_centreTurn 0 = .ok (.aload_n 0, 1) := by decide +kernel
theorem dX5_centreTurn_1 : decode cX5_centreTurn 1 = .ok (.getfield 21, 3) := by decide +kernel
theorem dX5_centreTurn_4 : decode cX5_centreTurn 4 = .ok (.getfield 81, 3) := by decide +kernel
theorem dX5_centreTurn_7 : decode cX5_centreTurn 7 = .ok (.istore_n 2, 1) := by decide +kernel
theorem dX5_centreTurn_8 : decode cX5_centreTurn 8 = .ok (.iload_n 2, 1) := by decide +kernel
theorem dX5_centreTurn_9 : decode cX5_centreTurn 9 = .ok (.ifCond .le 30, 3) := by decide +kernel
theorem dX5_centreTurn_12 : decode cX5_centreTurn 12 = .ok (.iconst 2, 1) := by decide +kernel
theorem dX5_centreTurn_13 : decode cX5_centreTurn 13 = .ok (.iload_n 1, 1) := by decide +kernel
theorem dX5_centreTurn_14 : decode cX5_centreTurn 14 = .ok (.imul, 1) := by decide +kernel
theorem dX5_centreTurn_15 : decode cX5_centreTurn 15 = .ok (.iconst 1, 1) := by decide +kernel
theorem dX5_centreTurn_16 : decode cX5_centreTurn 16 = .ok (.iadd, 1) := by decide +kernel
theorem dX5_centreTurn_17 : decode cX5_centreTurn 17 = .ok (.aload_n 0, 1) := by decide +kernel
theorem dX5_centreTurn_18 : decode cX5_centreTurn 18 = .ok (.getfield 12, 3) := by decide +kernel
theorem dX5_centreTurn_21 : decode cX5_centreTurn 21 = .ok (.aload_n 0, 1) := by decide +kernel
theorem dX5_centreTurn_22 : decode cX5_centreTurn 22 = .ok (.getfield 12, 3) := by decide +kernel
theorem dX5_centreTurn_25 : decode cX5_centreTurn 25 = .ok (.getfield 50, 3) := by decide +kernel
theorem dX5_centreTurn_28 : decode cX5_centreTurn 28 = .ok (.invokevirtual 84, 3) := by decide +kernel
theorem dX5_centreTurn_31 : decode cX5_centreTurn 31 = .ok (.imul, 1) := by decide +kernel
theorem dX5_centreTurn_32 : decode cX5_centreTurn 32 = .ok (.iconst 2, 1) := by decide +kernel
theorem dX5_centreTurn_33 : decode cX5_centreTurn 33 = .ok (.iload_n 2, 1) := by decide +kernel
theorem dX5_centreTurn_34 : decode cX5_centreTurn 34 = .ok (.imul, 1) := by decide +kernel
theorem dX5_centreTurn_35 : decode cX5_centreTurn 35 = .ok (.idiv, 1) := by decide +kernel
theorem dX5_centreTurn_36 : decode cX5_centreTurn 36 = .ok (.goto 4, 3) := by decide +kernel
theorem dX5_centreTurn_39 : decode cX5_centreTurn 39 = .ok (.iconst 0, 1) := by decide +kernel
theorem dX5_centreTurn_40 : decode cX5_centreTurn 40 = .ok (.ireturn, 1) := by decide +kernel
theorem dX5_centreParts_0 : decode cX5_centreParts 0 = .ok (.aload_n 0, 1) := by decide +kernel
theorem dX5_centreParts_1 : decode cX5_centreParts 1 = .ok (.getfield 12, 3) := by decide +kernel
theorem dX5_centreParts_4 : decode cX5_centreParts 4 = .ok (.aload_n 0, 1) := by decide +kernel
theorem dX5_centreParts_5 : decode cX5_centreParts 5 = .ok (.iload_n 1, 1) := by decide +kernel
theorem dX5_centreParts_6 : decode cX5_centreParts 6 = .ok (.invokevirtual 88, 3) := by decide +kernel
theorem dX5_centreParts_9 : decode cX5_centreParts 9 = .ok (.invokevirtual 91, 3) := by decide +kernel
theorem dX5_centreParts_12 : decode cX5_centreParts 12 = .ok (.ireturn, 1) := by decide +kernel
theorem dX5_leftEdge_0 : decode cX5_leftEdge 0 = .ok (.aload_n 0, 1) := by decide +kernel
theorem dX5_leftEdge_1 : decode cX5_leftEdge 1 = .ok (.iload_n 1, 1) := by decide +kernel
theorem dX5_leftEdge_2 : decode cX5_leftEdge 2 = .ok (.invokevirtual 94, 3) := by decide +kernel
theorem dX5_leftEdge_5 : decode cX5_leftEdge 5 = .ok (.aload_n 0, 1) := by decide +kernel
theorem dX5_leftEdge_6 : decode cX5_leftEdge 6 = .ok (.getfield 21, 3) := by decide +kernel
theorem dX5_leftEdge_9 : decode cX5_leftEdge 9 = .ok (.iload_n 1, 1) := by decide +kernel
theorem dX5_leftEdge_10 : decode cX5_leftEdge 10 = .ok (.invokevirtual 97, 3) := by decide +kernel
theorem dX5_leftEdge_13 : decode cX5_leftEdge 13 = .ok (.iconst 2, 1) := by decide +kernel
theorem dX5_leftEdge_14 : decode cX5_leftEdge 14 = .ok (.idiv, 1) := by decide +kernel
theorem dX5_leftEdge_15 : decode cX5_leftEdge 15 = .ok (.isub, 1) := by decide +kernel
theorem dX5_leftEdge_16 : decode cX5_leftEdge 16 = .ok (.ireturn, 1) := by decide +kernel
theorem dX5_rightEdge_0 : decode cX5_rightEdge 0 = .ok (.aload_n 0, 1) := by decide +kernel
theorem dX5_rightEdge_1 : decode cX5_rightEdge 1 = .ok (.iload_n 1, 1) := by decide +kernel
theorem dX5_rightEdge_2 : decode cX5_rightEdge 2 = .ok (.invokevirtual 94, 3) := by decide +kernel
theorem dX5_rightEdge_5 : decode cX5_rightEdge 5 = .ok (.aload_n 0, 1) := by decide +kernel
theorem dX5_rightEdge_6 : decode cX5_rightEdge 6 = .ok (.getfield 21, 3) := by decide +kernel
theorem dX5_rightEdge_9 : decode cX5_rightEdge 9 = .ok (.iload_n 1, 1) := by decide +kernel
theorem dX5_rightEdge_10 : decode cX5_rightEdge 10 = .ok (.invokevirtual 97, 3) := by decide +kernel
theorem dX5_rightEdge_13 : decode cX5_rightEdge 13 = .ok (.iconst 2, 1) := by decide +kernel
theorem dX5_rightEdge_14 : decode cX5_rightEdge 14 = .ok (.idiv, 1) := by decide +kernel
theorem dX5_rightEdge_15 : decode cX5_rightEdge 15 = .ok (.iadd, 1) := by decide +kernel
theorem dX5_rightEdge_16 : decode cX5_rightEdge 16 = .ok (.ireturn, 1) := by decide +kernel
theorem dX5_arcUnder_0 : decode cX5_arcUnder 0 = .ok (.aload_n 0, 1) := by decide +kernel
theorem dX5_arcUnder_1 : decode cX5_arcUnder 1 = .ok (.getfield 12, 3) := by decide +kernel
theorem dX5_arcUnder_4 : decode cX5_arcUnder 4 = .ok (.aload_n 0, 1) := by decide +kernel
theorem dX5_arcUnder_5 : decode cX5_arcUnder 5 = .ok (.iload_n 1, 1) := by decide +kernel
theorem dX5_arcUnder_6 : decode cX5_arcUnder 6 = .ok (.invokevirtual 88, 3) := by decide +kernel
theorem dX5_arcUnder_9 : decode cX5_arcUnder 9 = .ok (.invokevirtual 100, 3) := by decide +kernel
theorem dX5_arcUnder_12 : decode cX5_arcUnder 12 = .ok (.ireturn, 1) := by decide +kernel
theorem dX5_hardnessUnder_0 : decode cX5_hardnessUnder 0 = .ok (.aload_n 0, 1) := by decide +kernel
theorem dX5_hardnessUnder_1 : decode cX5_hardnessUnder 1 = .ok (.getfield 12, 3) := by decide +kernel
theorem dX5_hardnessUnder_4 : decode cX5_hardnessUnder 4 = .ok (.aload_n 0, 1) := by decide +kernel
theorem dX5_hardnessUnder_5 : decode cX5_hardnessUnder 5 = .ok (.iload_n 1, 1) := by decide +kernel
theorem dX5_hardnessUnder_6 : decode cX5_hardnessUnder 6 = .ok (.invokevirtual 88, 3) := by decide +kernel
theorem dX5_hardnessUnder_9 : decode cX5_hardnessUnder 9 = .ok (.invokevirtual 103, 3) := by decide +kernel
theorem dX5_hardnessUnder_12 : decode cX5_hardnessUnder 12 = .ok (.ireturn, 1) := by decide +kernel
theorem dX5_centresOn_0 : decode cX5_centresOn 0 = .ok (.iconst 0, 1) := by decide +kernel
theorem dX5_centresOn_1 : decode cX5_centresOn 1 = .ok (.istore_n 2, 1) := by decide +kernel
theorem dX5_centresOn_2 : decode cX5_centresOn 2 = .ok (.iconst 0, 1) := by decide +kernel
theorem dX5_centresOn_3 : decode cX5_centresOn 3 = .ok (.istore_n 3, 1) := by decide +kernel
theorem dX5_centresOn_4 : decode cX5_centresOn 4 = .ok (.iload_n 3, 1) := by decide +kernel
theorem dX5_centresOn_5 : decode cX5_centresOn 5 = .ok (.aload_n 0, 1) := by decide +kernel
theorem dX5_centresOn_6 : decode cX5_centresOn 6 = .ok (.getfield 21, 3) := by decide +kernel
theorem dX5_centresOn_9 : decode cX5_centresOn 9 = .ok (.getfield 81, 3) := by decide +kernel
theorem dX5_centresOn_12 : decode cX5_centresOn 12 = .ok (.if_icmp .ge 21, 3) := by decide +kernel
theorem dX5_centresOn_15 : decode cX5_centresOn 15 = .ok (.aload_n 0, 1) := by decide +kernel
theorem dX5_centresOn_16 : decode cX5_centresOn 16 = .ok (.iload_n 3, 1) := by decide +kernel
theorem dX5_centresOn_17 : decode cX5_centresOn 17 = .ok (.invokevirtual 106, 3) := by decide +kernel
theorem dX5_centresOn_20 : decode cX5_centresOn 20 = .ok (.iload_n 1, 1) := by decide +kernel
theorem dX5_centresOn_21 : decode cX5_centresOn 21 = .ok (.if_icmp .ne 6, 3) := by decide +kernel
theorem dX5_centresOn_24 : decode cX5_centresOn 24 = .ok (.iinc 2 1, 3) := by decide +kernel
theorem dX5_centresOn_27 : decode cX5_centresOn 27 = .ok (.iinc 3 1, 3) := by decide +kernel
theorem dX5_centresOn_30 : decode cX5_centresOn 30 = .ok (.goto (-26), 3) := by decide +kernel
theorem dX5_centresOn_33 : decode cX5_centresOn 33 = .ok (.iload_n 2, 1) := by decide +kernel
theorem dX5_centresOn_34 : decode cX5_centresOn 34 = .ok (.ireturn, 1) := by decide +kernel
theorem dX5_slipsBy_0 : decode cX5_slipsBy 0 = .ok (.aload_n 1, 1) := by decide +kernel
theorem dX5_slipsBy_1 : decode cX5_slipsBy 1 = .ok (.getfield 109, 3) := by decide +kernel
theorem dX5_slipsBy_4 : decode cX5_slipsBy 4 = .ok (.istore_n 2, 1) := by decide +kernel
theorem dX5_slipsBy_5 : decode cX5_slipsBy 5 = .ok (.iconst 0, 1) := by decide +kernel
theorem dX5_slipsBy_6 : decode cX5_slipsBy 6 = .ok (.istore_n 3, 1) := by decide +kernel
theorem dX5_slipsBy_7 : decode cX5_slipsBy 7 = .ok (.iload_n 3, 1) := by decide +kernel
theorem dX5_slipsBy_8 : decode cX5_slipsBy 8 = .ok (.aload_n 0, 1) := by decide +kernel
theorem dX5_slipsBy_9 : decode cX5_slipsBy 9 = .ok (.getfield 21, 3) := by decide +kernel
theorem dX5_slipsBy_12 : decode cX5_slipsBy 12 = .ok (.getfield 81, 3) := by decide +kernel
theorem dX5_slipsBy_15 : decode cX5_slipsBy 15 = .ok (.if_icmp .ge 65, 3) := by decide +kernel
theorem dX5_slipsBy_18 : decode cX5_slipsBy 18 = .ok (.aload_n 0, 1) := by decide +kernel
theorem dX5_slipsBy_19 : decode cX5_slipsBy 19 = .ok (.iload_n 3, 1) := by decide +kernel
theorem dX5_slipsBy_20 : decode cX5_slipsBy 20 = .ok (.invokevirtual 112, 3) := by decide +kernel
theorem dX5_slipsBy_23 : decode cX5_slipsBy 23 = .ok (.istore 4, 2) := by decide +kernel
theorem dX5_slipsBy_25 : decode cX5_slipsBy 25 = .ok (.aload_n 0, 1) := by decide +kernel
theorem dX5_slipsBy_26 : decode cX5_slipsBy 26 = .ok (.getfield 21, 3) := by decide +kernel
theorem dX5_slipsBy_29 : decode cX5_slipsBy 29 = .ok (.getfield 115, 3) := by decide +kernel
theorem dX5_slipsBy_32 : decode cX5_slipsBy 32 = .ok (.iload_n 3, 1) := by decide +kernel
theorem dX5_slipsBy_33 : decode cX5_slipsBy 33 = .ok (.baload, 1) := by decide +kernel
theorem dX5_slipsBy_34 : decode cX5_slipsBy 34 = .ok (.ifCond .eq 7, 3) := by decide +kernel
theorem dX5_slipsBy_37 : decode cX5_slipsBy 37 = .ok (.iconst 0, 1) := by decide +kernel
theorem dX5_slipsBy_38 : decode cX5_slipsBy 38 = .ok (.goto 11, 3) := by decide +kernel
theorem dX5_slipsBy_41 : decode cX5_slipsBy 41 = .ok (.aload_n 0, 1) := by decide +kernel
theorem dX5_slipsBy_42 : decode cX5_slipsBy 42 = .ok (.getfield 21, 3) := by decide +kernel
theorem dX5_slipsBy_45 : decode cX5_slipsBy 45 = .ok (.iload_n 3, 1) := by decide +kernel
theorem dX5_slipsBy_46 : decode cX5_slipsBy 46 = .ok (.invokevirtual 119, 3) := by decide +kernel
theorem dX5_slipsBy_49 : decode cX5_slipsBy 49 = .ok (.istore 5, 2) := by decide +kernel
theorem dX5_slipsBy_51 : decode cX5_slipsBy 51 = .ok (.iconst 0, 1) := by decide +kernel
theorem dX5_slipsBy_52 : decode cX5_slipsBy 52 = .ok (.istore 6, 2) := by decide +kernel
theorem dX5_slipsBy_54 : decode cX5_slipsBy 54 = .ok (.iload 6, 2) := by decide +kernel
theorem dX5_slipsBy_56 : decode cX5_slipsBy 56 = .ok (.iload 5, 2) := by decide +kernel
theorem dX5_slipsBy_58 : decode cX5_slipsBy 58 = .ok (.if_icmp .ge 16, 3) := by decide +kernel
theorem dX5_slipsBy_61 : decode cX5_slipsBy 61 = .ok (.aload_n 1, 1) := by decide +kernel
theorem dX5_slipsBy_62 : decode cX5_slipsBy 62 = .ok (.iload 4, 2) := by decide +kernel
theorem dX5_slipsBy_64 : decode cX5_slipsBy 64 = .ok (.invokevirtual 122, 3) := by decide +kernel
theorem dX5_slipsBy_67 : decode cX5_slipsBy 67 = .ok (.pop, 1) := by decide +kernel
theorem dX5_slipsBy_68 : decode cX5_slipsBy 68 = .ok (.iinc 6 1, 3) := by decide +kernel
theorem dX5_slipsBy_71 : decode cX5_slipsBy 71 = .ok (.goto (-17), 3) := by decide +kernel
theorem dX5_slipsBy_74 : decode cX5_slipsBy 74 = .ok (.iinc 3 1, 3) := by decide +kernel
theorem dX5_slipsBy_77 : decode cX5_slipsBy 77 = .ok (.goto (-70), 3) := by decide +kernel
theorem dX5_slipsBy_80 : decode cX5_slipsBy 80 = .ok (.aload_n 1, 1) := by decide +kernel
theorem dX5_slipsBy_81 : decode cX5_slipsBy 81 = .ok (.getfield 109, 3) := by decide +kernel
theorem dX5_slipsBy_84 : decode cX5_slipsBy 84 = .ok (.iload_n 2, 1) := by decide +kernel
theorem dX5_slipsBy_85 : decode cX5_slipsBy 85 = .ok (.isub, 1) := by decide +kernel
theorem dX5_slipsBy_86 : decode cX5_slipsBy 86 = .ok (.ireturn, 1) := by decide +kernel
theorem dX5_canEngraveAny_0 : decode cX5_canEngraveAny 0 = .ok (.aload_n 0, 1) := by decide +kernel
theorem dX5_canEngraveAny_1 : decode cX5_canEngraveAny 1 = .ok (.getfield 12, 3) := by decide +kernel
theorem dX5_canEngraveAny_4 : decode cX5_canEngraveAny 4 = .ok (.getfield 50, 3) := by decide +kernel
theorem dX5_canEngraveAny_7 : decode cX5_canEngraveAny 7 = .ok (.ifCond .le 19, 3) := by decide +kernel
theorem dX5_canEngraveAny_10 : decode cX5_canEngraveAny 10 = .ok (.aload_n 0, 1) := by decide +kernel
theorem dX5_canEngraveAny_11 : decode cX5_canEngraveAny 11 = .ok (.getfield 42, 3) := by decide +kernel
theorem dX5_canEngraveAny_14 : decode cX5_canEngraveAny 14 = .ok (.getfield 60, 3) := by decide +kernel
theorem dX5_canEngraveAny_17 : decode cX5_canEngraveAny 17 = .ok (.bipush 40, 2) := by decide +kernel
theorem dX5_canEngraveAny_19 : decode cX5_canEngraveAny 19 = .ok (.if_icmp .gt 7, 3) := by decide +kernel
theorem dX5_canEngraveAny_22 : decode cX5_canEngraveAny 22 = .ok (.iconst 1, 1) := by decide +kernel
theorem dX5_canEngraveAny_23 : decode cX5_canEngraveAny 23 = .ok (.goto 4, 3) := by decide +kernel
theorem dX5_canEngraveAny_26 : decode cX5_canEngraveAny 26 = .ok (.iconst 0, 1) := by decide +kernel
theorem dX5_canEngraveAny_27 : decode cX5_canEngraveAny 27 = .ok (.ireturn, 1) := by decide +kernel
theorem dX5_canEngrave_0 : decode cX5_canEngrave 0 = .ok (.aload_n 0, 1) := by decide +kernel
theorem dX5_canEngrave_1 : decode cX5_canEngrave 1 = .ok (.iload_n 1, 1) := by decide +kernel
theorem dX5_canEngrave_2 : decode cX5_canEngrave 2 = .ok (.invokevirtual 125, 3) := by decide +kernel
theorem dX5_canEngrave_5 : decode cX5_canEngrave 5 = .ok (.ifCond .eq 26, 3) := by decide +kernel
theorem dX5_canEngrave_8 : decode cX5_canEngrave 8 = .ok (.aload_n 0, 1) := by decide +kernel
theorem dX5_canEngrave_9 : decode cX5_canEngrave 9 = .ok (.getfield 21, 3) := by decide +kernel
theorem dX5_canEngrave_12 : decode cX5_canEngrave 12 = .ok (.getfield 115, 3) := by decide +kernel
theorem dX5_canEngrave_15 : decode cX5_canEngrave 15 = .ok (.iload_n 1, 1) := by decide +kernel
theorem dX5_canEngrave_16 : decode cX5_canEngrave 16 = .ok (.baload, 1) := by decide +kernel
theorem dX5_canEngrave_17 : decode cX5_canEngrave 17 = .ok (.ifCond .ne 14, 3) := by decide +kernel
theorem dX5_canEngrave_20 : decode cX5_canEngrave 20 = .ok (.aload_n 0, 1) := by decide +kernel
theorem dX5_canEngrave_21 : decode cX5_canEngrave 21 = .ok (.invokevirtual 129, 3) := by decide +kernel
theorem dX5_canEngrave_24 : decode cX5_canEngrave 24 = .ok (.ifCond .eq 7, 3) := by decide +kernel
theorem dX5_canEngrave_27 : decode cX5_canEngrave 27 = .ok (.iconst 1, 1) := by decide +kernel
theorem dX5_canEngrave_28 : decode cX5_canEngrave 28 = .ok (.goto 4, 3) := by decide +kernel
theorem dX5_canEngrave_31 : decode cX5_canEngrave 31 = .ok (.iconst 0, 1) := by decide +kernel
theorem dX5_canEngrave_32 : decode cX5_canEngrave 32 = .ok (.ireturn, 1) := by decide +kernel
theorem dX5_engraveLetter_0 : decode cX5_engraveLetter 0 = .ok (.aload_n 0, 1) := by decide +kernel
theorem dX5_engraveLetter_1 : decode cX5_engraveLetter 1 = .ok (.getfield 42, 3) := by decide +kernel
theorem dX5_engraveLetter_4 : decode cX5_engraveLetter 4 = .ok (.getfield 60, 3) := by decide +kernel
theorem dX5_engraveLetter_7 : decode cX5_engraveLetter 7 = .ok (.istore_n 2, 1) := by decide +kernel
theorem dX5_engraveLetter_8 : decode cX5_engraveLetter 8 = .ok (.aload_n 0, 1) := by decide +kernel
theorem dX5_engraveLetter_9 : decode cX5_engraveLetter 9 = .ok (.iload_n 1, 1) := by decide +kernel
theorem dX5_engraveLetter_10 : decode cX5_engraveLetter 10 = .ok (.invokevirtual 112, 3) := by decide +kernel
theorem dX5_engraveLetter_13 : decode cX5_engraveLetter 13 = .ok (.istore_n 3, 1) := by decide +kernel
theorem dX5_engraveLetter_14 : decode cX5_engraveLetter 14 = .ok (.aload_n 0, 1) := by decide +kernel
theorem dX5_engraveLetter_15 : decode cX5_engraveLetter 15 = .ok (.getfield 21, 3) := by decide +kernel
theorem dX5_engraveLetter_18 : decode cX5_engraveLetter 18 = .ok (.iload_n 1, 1) := by decide +kernel
theorem dX5_engraveLetter_19 : decode cX5_engraveLetter 19 = .ok (.invokevirtual 119, 3) := by decide +kernel
theorem dX5_engraveLetter_22 : decode cX5_engraveLetter 22 = .ok (.istore 4, 2) := by decide +kernel
theorem dX5_engraveLetter_24 : decode cX5_engraveLetter 24 = .ok (.iconst 0, 1) := by decide +kernel
theorem dX5_engraveLetter_25 : decode cX5_engraveLetter 25 = .ok (.istore 5, 2) := by decide +kernel
theorem dX5_engraveLetter_27 : decode cX5_engraveLetter 27 = .ok (.iload 5, 2) := by decide +kernel
theorem dX5_engraveLetter_29 : decode cX5_engraveLetter 29 = .ok (.iload 4, 2) := by decide +kernel
theorem dX5_engraveLetter_31 : decode cX5_engraveLetter 31 = .ok (.if_icmp .ge 34, 3) := by decide +kernel
theorem dX5_engraveLetter_34 : decode cX5_engraveLetter 34 = .ok (.aload_n 0, 1) := by decide +kernel
theorem dX5_engraveLetter_35 : decode cX5_engraveLetter 35 = .ok (.getfield 35, 3) := by decide +kernel
theorem dX5_engraveLetter_38 : decode cX5_engraveLetter 38 = .ok (.iload_n 3, 1) := by decide +kernel
theorem dX5_engraveLetter_39 : decode cX5_engraveLetter 39 = .ok (.invokevirtual 122, 3) := by decide +kernel
theorem dX5_engraveLetter_42 : decode cX5_engraveLetter 42 = .ok (.istore 6, 2) := by decide +kernel
theorem dX5_engraveLetter_44 : decode cX5_engraveLetter 44 = .ok (.iload 6, 2) := by decide +kernel
theorem dX5_engraveLetter_46 : decode cX5_engraveLetter 46 = .ok (.ifCond .le 13, 3) := by decide +kernel
theorem dX5_engraveLetter_49 : decode cX5_engraveLetter 49 = .ok (.aload_n 0, 1) := by decide +kernel
theorem dX5_engraveLetter_50 : decode cX5_engraveLetter 50 = .ok (.getfield 42, 3) := by decide +kernel
theorem dX5_engraveLetter_53 : decode cX5_engraveLetter 53 = .ok (.iload_n 1, 1) := by decide +kernel
theorem dX5_engraveLetter_54 : decode cX5_engraveLetter 54 = .ok (.iload 6, 2) := by decide +kernel
theorem dX5_engraveLetter_56 : decode cX5_engraveLetter 56 = .ok (.invokevirtual 133, 3) := by decide +kernel
theorem dX5_engraveLetter_59 : decode cX5_engraveLetter 59 = .ok (.iinc 5 1, 3) := by decide +kernel
theorem dX5_engraveLetter_62 : decode cX5_engraveLetter 62 = .ok (.goto (-35), 3) := by decide +kernel
theorem dX5_engraveLetter_65 : decode cX5_engraveLetter 65 = .ok (.aload_n 0, 1) := by decide +kernel
theorem dX5_engraveLetter_66 : decode cX5_engraveLetter 66 = .ok (.getfield 21, 3) := by decide +kernel
theorem dX5_engraveLetter_69 : decode cX5_engraveLetter 69 = .ok (.getfield 115, 3) := by decide +kernel
theorem dX5_engraveLetter_72 : decode cX5_engraveLetter 72 = .ok (.iload_n 1, 1) := by decide +kernel
theorem dX5_engraveLetter_73 : decode cX5_engraveLetter 73 = .ok (.iconst 1, 1) := by decide +kernel
theorem dX5_engraveLetter_74 : decode cX5_engraveLetter 74 = .ok (.bastore, 1) := by decide +kernel
theorem dX5_engraveLetter_75 : decode cX5_engraveLetter 75 = .ok (.aload_n 0, 1) := by decide +kernel
theorem dX5_engraveLetter_76 : decode cX5_engraveLetter 76 = .ok (.getfield 42, 3) := by decide +kernel
theorem dX5_engraveLetter_79 : decode cX5_engraveLetter 79 = .ok (.getfield 60, 3) := by decide +kernel
theorem dX5_engraveLetter_82 : decode cX5_engraveLetter 82 = .ok (.iload_n 2, 1) := by decide +kernel
theorem dX5_engraveLetter_83 : decode cX5_engraveLetter 83 = .ok (.isub, 1) := by decide +kernel
theorem dX5_engraveLetter_84 : decode cX5_engraveLetter 84 = .ok (.ireturn, 1) := by decide +kernel
theorem dX5_canEngravePlanned_0 : decode cX5_canEngravePlanned 0 = .ok (.aload_n 0, 1) := by decide +kernel
theorem dX5_canEngravePlanned_1 : decode cX5_canEngravePlanned 1 = .ok (.getfield 21, 3) := by decide +kernel
theorem dX5_canEngravePlanned_4 : decode cX5_canEngravePlanned 4 = .ok (.invokevirtual 137, 3) := by decide +kernel
theorem dX5_canEngravePlanned_7 : decode cX5_canEngravePlanned 7 = .ok (.aload_n 0, 1) := by decide +kernel
theorem dX5_canEngravePlanned_8 : decode cX5_canEngravePlanned 8 = .ok (.getfield 21, 3) := by decide +kernel
theorem dX5_canEngravePlanned_11 : decode cX5_canEngravePlanned 11 = .ok (.getfield 81, 3) := by decide +kernel
theorem dX5_canEngravePlanned_14 : decode cX5_canEngravePlanned 14 = .ok (.if_icmp .ge 14, 3) := by decide +kernel
theorem dX5_canEngravePlanned_17 : decode cX5_canEngravePlanned 17 = .ok (.aload_n 0, 1) := by decide +kernel
theorem dX5_canEngravePlanned_18 : decode cX5_canEngravePlanned 18 = .ok (.invokevirtual 129, 3) := by decide +kernel
theorem dX5_canEngravePlanned_21 : decode cX5_canEngravePlanned 21 = .ok (.ifCond .eq 7, 3) := by decide +kernel
theorem dX5_canEngravePlanned_24 : decode cX5_canEngravePlanned 24 = .ok (.iconst 1, 1) := by decide +kernel
theorem dX5_canEngravePlanned_25 : decode cX5_canEngravePlanned 25 = .ok (.goto 4, 3) := by decide +kernel
theorem dX5_canEngravePlanned_28 : decode cX5_canEngravePlanned 28 = .ok (.iconst 0, 1) := by decide +kernel
theorem dX5_canEngravePlanned_29 : decode cX5_canEngravePlanned 29 = .ok (.ireturn, 1) := by decide +kernel
theorem dX5_engravePlanned_0 : decode cX5_engravePlanned 0 = .ok (.iconst 0, 1) := by decide +kernel
theorem dX5_engravePlanned_1 : decode cX5_engravePlanned 1 = .ok (.istore_n 1, 1) := by decide +kernel
theorem dX5_engravePlanned_2 : decode cX5_engravePlanned 2 = .ok (.iconst 0, 1) := by decide +kernel
theorem dX5_engravePlanned_3 : decode cX5_engravePlanned 3 = .ok (.istore_n 2, 1) := by decide +kernel
theorem dX5_engravePlanned_4 : decode cX5_engravePlanned 4 = .ok (.iload_n 2, 1) := by decide +kernel
theorem dX5_engravePlanned_5 : decode cX5_engravePlanned 5 = .ok (.aload_n 0, 1) := by decide +kernel
theorem dX5_engravePlanned_6 : decode cX5_engravePlanned 6 = .ok (.getfield 21, 3) := by decide +kernel
theorem dX5_engravePlanned_9 : decode cX5_engravePlanned 9 = .ok (.getfield 81, 3) := by decide +kernel
theorem dX5_engravePlanned_12 : decode cX5_engravePlanned 12 = .ok (.if_icmp .ge 26, 3) := by decide +kernel
theorem dX5_engravePlanned_15 : decode cX5_engravePlanned 15 = .ok (.aload_n 0, 1) := by decide +kernel
theorem dX5_engravePlanned_16 : decode cX5_engravePlanned 16 = .ok (.iload_n 2, 1) := by decide +kernel
theorem dX5_engravePlanned_17 : decode cX5_engravePlanned 17 = .ok (.invokevirtual 141, 3) := by decide +kernel
theorem dX5_engravePlanned_20 : decode cX5_engravePlanned 20 = .ok (.ifCond .eq 12, 3) := by decide +kernel
theorem dX5_engravePlanned_23 : decode cX5_engravePlanned 23 = .ok (.aload_n 0, 1) := by decide +kernel
theorem dX5_engravePlanned_24 : decode cX5_engravePlanned 24 = .ok (.iload_n 2, 1) := by decide +kernel
theorem dX5_engravePlanned_25 : decode cX5_engravePlanned 25 = .ok (.invokevirtual 144, 3) := by decide +kernel
theorem dX5_engravePlanned_28 : decode cX5_engravePlanned 28 = .ok (.pop, 1) := by decide +kernel
theorem dX5_engravePlanned_29 : decode cX5_engravePlanned 29 = .ok (.iinc 1 1, 3) := by decide +kernel
theorem dX5_engravePlanned_32 : decode cX5_engravePlanned 32 = .ok (.iinc 2 1, 3) := by decide +kernel
theorem dX5_engravePlanned_35 : decode cX5_engravePlanned 35 = .ok (.goto (-31), 3) := by decide +kernel
theorem dX5_engravePlanned_38 : decode cX5_engravePlanned 38 = .ok (.iload_n 1, 1) := by decide +kernel
theorem dX5_engravePlanned_39 : decode cX5_engravePlanned 39 = .ok (.ireturn, 1) := by decide +kernel
theorem dX5_canMend_0 : decode cX5_canMend 0 = .ok (.aload_n 0, 1) := by decide +kernel
theorem dX5_canMend_1 : decode cX5_canMend 1 = .ok (.iload_n 1, 1) := by decide +kernel
theorem dX5_canMend_2 : decode cX5_canMend 2 = .ok (.invokevirtual 147, 3) := by decide +kernel
theorem dX5_canMend_5 : decode cX5_canMend 5 = .ok (.ifCond .eq 28, 3) := by decide +kernel
theorem dX5_canMend_8 : decode cX5_canMend 8 = .ok (.aload_n 0, 1) := by decide +kernel
theorem dX5_canMend_9 : decode cX5_canMend 9 = .ok (.getfield 21, 3) := by decide +kernel
theorem dX5_canMend_12 : decode cX5_canMend 12 = .ok (.getfield 150, 3) := by decide +kernel
theorem dX5_canMend_15 : decode cX5_canMend 15 = .ok (.aload_n 0, 1) := by decide +kernel
theorem dX5_canMend_16 : decode cX5_canMend 16 = .ok (.getfield 42, 3) := by decide +kernel
theorem dX5_canMend_19 : decode cX5_canMend 19 = .ok (.getfield 154, 3) := by decide +kernel
theorem dX5_canMend_22 : decode cX5_canMend 22 = .ok (.iload_n 1, 1) := by decide +kernel
theorem dX5_canMend_23 : decode cX5_canMend 23 = .ok (.iaload, 1) := by decide +kernel
theorem dX5_canMend_24 : decode cX5_canMend 24 = .ok (.iaload, 1) := by decide +kernel
theorem dX5_canMend_25 : decode cX5_canMend 25 = .ok (.iconst 3, 1) := by decide +kernel
theorem dX5_canMend_26 : decode cX5_canMend 26 = .ok (.if_icmp .ge 7, 3) := by decide +kernel
theorem dX5_canMend_29 : decode cX5_canMend 29 = .ok (.iconst 1, 1) := by decide +kernel
theorem dX5_canMend_30 : decode cX5_canMend 30 = .ok (.goto 4, 3) := by decide +kernel
theorem dX5_canMend_33 : decode cX5_canMend 33 = .ok (.iconst 0, 1) := by decide +kernel
theorem dX5_canMend_34 : decode cX5_canMend 34 = .ok (.ireturn, 1) := by decide +kernel
theorem dX5_mendScratch_0 : decode cX5_mendScratch 0 = .ok (.aload_n 0, 1) := by decide +kernel
theorem dX5_mendScratch_1 : decode cX5_mendScratch 1 = .ok (.getfield 21, 3) := by decide +kernel
theorem dX5_mendScratch_4 : decode cX5_mendScratch 4 = .ok (.getfield 150, 3) := by decide +kernel
theorem dX5_mendScratch_7 : decode cX5_mendScratch 7 = .ok (.aload_n 0, 1) := by decide +kernel
theorem dX5_mendScratch_8 : decode cX5_mendScratch 8 = .ok (.getfield 42, 3) := by decide +kernel
theorem dX5_mendScratch_11 : decode cX5_mendScratch 11 = .ok (.getfield 154, 3) := by decide +kernel
theorem dX5_mendScratch_14 : decode cX5_mendScratch 14 = .ok (.iload_n 1, 1) := by decide +kernel
theorem dX5_mendScratch_15 : decode cX5_mendScratch 15 = .ok (.iaload, 1) := by decide +kernel
theorem dX5_mendScratch_16 : decode cX5_mendScratch 16 = .ok (.dup2, 1) := by decide +kernel
theorem dX5_mendScratch_17 : decode cX5_mendScratch 17 = .ok (.iaload, 1) := by decide +kernel
theorem dX5_mendScratch_18 : decode cX5_mendScratch 18 = .ok (.iconst 1, 1) := by decide +kernel
theorem dX5_mendScratch_19 : decode cX5_mendScratch 19 = .ok (.iadd, 1) := by decide +kernel
theorem dX5_mendScratch_20 : decode cX5_mendScratch 20 = .ok (.iastore, 1) := by decide +kernel
theorem dX5_mendScratch_21 : decode cX5_mendScratch 21 = .ok (.aload_n 0, 1) := by decide +kernel
theorem dX5_mendScratch_22 : decode cX5_mendScratch 22 = .ok (.getfield 42, 3) := by decide +kernel
theorem dX5_mendScratch_25 : decode cX5_mendScratch 25 = .ok (.iload_n 1, 1) := by decide +kernel
theorem dX5_mendScratch_26 : decode cX5_mendScratch 26 = .ok (.invokevirtual 156, 3) := by decide +kernel
theorem dX5_mendScratch_29 : decode cX5_mendScratch 29 = .ok (.aload_n 0, 1) := by decide +kernel
theorem dX5_mendScratch_30 : decode cX5_mendScratch 30 = .ok (.getfield 42, 3) := by decide +kernel
theorem dX5_mendScratch_33 : decode cX5_mendScratch 33 = .ok (.getfield 60, 3) := by decide +kernel
theorem dX5_mendScratch_36 : decode cX5_mendScratch 36 = .ok (.ireturn, 1) := by decide +kernel
theorem dX5_canPolish_0 : decode cX5_canPolish 0 = .ok (.aload_n 0, 1) := by decide +kernel
theorem dX5_canPolish_1 : decode cX5_canPolish 1 = .ok (.iload_n 1, 1) := by decide +kernel
theorem dX5_canPolish_2 : decode cX5_canPolish 2 = .ok (.invokevirtual 125, 3) := by decide +kernel
theorem dX5_canPolish_5 : decode cX5_canPolish 5 = .ok (.ifCond .eq 32, 3) := by decide +kernel
theorem dX5_canPolish_8 : decode cX5_canPolish 8 = .ok (.aload_n 0, 1) := by decide +kernel
theorem dX5_canPolish_9 : decode cX5_canPolish 9 = .ok (.getfield 21, 3) := by decide +kernel
theorem dX5_canPolish_12 : decode cX5_canPolish 12 = .ok (.getfield 115, 3) := by decide +kernel
theorem dX5_canPolish_15 : decode cX5_canPolish 15 = .ok (.iload_n 1, 1) := by decide +kernel
theorem dX5_canPolish_16 : decode cX5_canPolish 16 = .ok (.baload, 1) := by decide +kernel
theorem dX5_canPolish_17 : decode cX5_canPolish 17 = .ok (.ifCond .eq 20, 3) := by decide +kernel
theorem dX5_canPolish_20 : decode cX5_canPolish 20 = .ok (.aload_n 0, 1) := by decide +kernel
theorem dX5_canPolish_21 : decode cX5_canPolish 21 = .ok (.getfield 21, 3) := by decide +kernel
theorem dX5_canPolish_24 : decode cX5_canPolish 24 = .ok (.getfield 150, 3) := by decide +kernel
theorem dX5_canPolish_27 : decode cX5_canPolish 27 = .ok (.iload_n 1, 1) := by decide +kernel
theorem dX5_canPolish_28 : decode cX5_canPolish 28 = .ok (.iaload, 1) := by decide +kernel
theorem dX5_canPolish_29 : decode cX5_canPolish 29 = .ok (.iconst 3, 1) := by decide +kernel
theorem dX5_canPolish_30 : decode cX5_canPolish 30 = .ok (.if_icmp .ge 7, 3) := by decide +kernel
theorem dX5_canPolish_33 : decode cX5_canPolish 33 = .ok (.iconst 1, 1) := by decide +kernel
theorem dX5_canPolish_34 : decode cX5_canPolish 34 = .ok (.goto 4, 3) := by decide +kernel
theorem dX5_canPolish_37 : decode cX5_canPolish 37 = .ok (.iconst 0, 1) := by decide +kernel
theorem dX5_canPolish_38 : decode cX5_canPolish 38 = .ok (.ireturn, 1) := by decide +kernel
theorem dX5_polishLetter_0 : decode cX5_polishLetter 0 = .ok (.aload_n 0, 1) := by decide +kernel
theorem dX5_polishLetter_1 : decode cX5_polishLetter 1 = .ok (.getfield 21, 3) := by decide +kernel
theorem dX5_polishLetter_4 : decode cX5_polishLetter 4 = .ok (.getfield 115, 3) := by decide +kernel
theorem dX5_polishLetter_7 : decode cX5_polishLetter 7 = .ok (.iload_n 1, 1) := by decide +kernel
theorem dX5_polishLetter_8 : decode cX5_polishLetter 8 = .ok (.iconst 0, 1) := by decide +kernel
theorem dX5_polishLetter_9 : decode cX5_polishLetter 9 = .ok (.bastore, 1) := by decide +kernel
theorem dX5_polishLetter_10 : decode cX5_polishLetter 10 = .ok (.aload_n 0, 1) := by decide +kernel
theorem dX5_polishLetter_11 : decode cX5_polishLetter 11 = .ok (.getfield 21, 3) := by decide +kernel
theorem dX5_polishLetter_14 : decode cX5_polishLetter 14 = .ok (.getfield 150, 3) := by decide +kernel
theorem dX5_polishLetter_17 : decode cX5_polishLetter 17 = .ok (.iload_n 1, 1) := by decide +kernel
theorem dX5_polishLetter_18 : decode cX5_polishLetter 18 = .ok (.dup2, 1) := by decide +kernel
theorem dX5_polishLetter_19 : decode cX5_polishLetter 19 = .ok (.iaload, 1) := by decide +kernel
theorem dX5_polishLetter_20 : decode cX5_polishLetter 20 = .ok (.iconst 1, 1) := by decide +kernel
theorem dX5_polishLetter_21 : decode cX5_polishLetter 21 = .ok (.iadd, 1) := by decide +kernel
theorem dX5_polishLetter_22 : decode cX5_polishLetter 22 = .ok (.iastore, 1) := by decide +kernel
theorem dX5_polishLetter_23 : decode cX5_polishLetter 23 = .ok (.aload_n 0, 1) := by decide +kernel
theorem dX5_polishLetter_24 : decode cX5_polishLetter 24 = .ok (.getfield 42, 3) := by decide +kernel
theorem dX5_polishLetter_27 : decode cX5_polishLetter 27 = .ok (.iload_n 1, 1) := by decide +kernel
theorem dX5_polishLetter_28 : decode cX5_polishLetter 28 = .ok (.invokevirtual 160, 3) := by decide +kernel
theorem dX5_polishLetter_31 : decode cX5_polishLetter 31 = .ok (.ireturn, 1) := by decide +kernel
theorem dX6_init_0 : decode cX6_init 0 = .ok (.aload_n 0, 1) := by decide +kernel
theorem dX6_init_1 : decode cX6_init 1 = .ok (.invokespecial 3, 3) := by decide +kernel
theorem dX6_init_4 : decode cX6_init 4 = .ok (.aload_n 0, 1) := by decide +kernel
theorem dX6_init_5 : decode cX6_init 5 = .ok (.sipush 294, 3) := by decide +kernel
theorem dX6_init_8 : decode cX6_init 8 = .ok (.newarray .byte, 2) := by decide +kernel
theorem dX6_init_10 : decode cX6_init 10 = .ok (.putfield 11, 3) := by decide +kernel
theorem dX6_init_13 : decode cX6_init 13 = .ok (.return_, 1) := by decide +kernel
theorem dX6_put_0 : decode cX6_put 0 = .ok (.aload_n 0, 1) := by decide +kernel
theorem dX6_put_1 : decode cX6_put 1 = .ok (.getfield 15, 3) := by decide +kernel
theorem dX6_put_4 : decode cX6_put 4 = .ok (.sipush 294, 3) := by decide +kernel
theorem dX6_put_7 : decode cX6_put 7 = .ok (.if_icmp .ge 24, 3) := by decide +kernel
theorem dX6_put_10 : decode cX6_put 10 = .ok (.aload_n 0, 1) := by decide +kernel
theorem dX6_put_11 : decode cX6_put 11 = .ok (.getfield 11, 3) := by decide +kernel
theorem dX6_put_14 : decode cX6_put 14 = .ok (.aload_n 0, 1) := by decide +kernel
theorem dX6_put_15 : decode cX6_put 15 = .ok (.getfield 15, 3) := by decide +kernel
theorem dX6_put_18 : decode cX6_put 18 = .ok (.iload_n 1, 1) := by decide +kernel
theorem dX6_put_19 : decode cX6_put 19 = .ok (.i2b, 1) := by decide +kernel
theorem dX6_put_20 : decode cX6_put 20 = .ok (.bastore, 1) := by decide +kernel
theorem dX6_put_21 : decode cX6_put 21 = .ok (.aload_n 0, 1) := by decide +kernel
theorem dX6_put_22 : decode cX6_put 22 = .ok (.dup, 1) := by decide +kernel
theorem dX6_put_23 : decode cX6_put 23 = .ok (.getfield 15, 3) := by decide +kernel
theorem dX6_put_26 : decode cX6_put 26 = .ok (.iconst 1, 1) := by decide +kernel
theorem dX6_put_27 : decode cX6_put 27 = .ok (.iadd, 1) := by decide +kernel
theorem dX6_put_28 : decode cX6_put 28 = .ok (.putfield 15, 3) := by decide +kernel
theorem dX6_put_31 : decode cX6_put 31 = .ok (.return_, 1) := by decide +kernel
theorem dX6_putName_0 : decode cX6_putName 0 = .ok (.aload_n 0, 1) := by decide +kernel
theorem dX6_putName_1 : decode cX6_putName 1 = .ok (.bipush 40, 2) := by decide +kernel
theorem dX6_putName_3 : decode cX6_putName 3 = .ok (.invokevirtual 19, 3) := by decide +kernel
theorem dX6_putName_6 : decode cX6_putName 6 = .ok (.iconst 0, 1) := by decide +kernel
theorem dX6_putName_7 : decode cX6_putName 7 = .ok (.istore_n 3, 1) := by decide +kernel
theorem dX6_putName_8 : decode cX6_putName 8 = .ok (.iload_n 3, 1) := by decide +kernel
theorem dX6_putName_9 : decode cX6_putName 9 = .ok (.bipush 8, 2) := by decide +kernel
theorem dX6_putName_11 : decode cX6_putName 11 = .ok (.if_icmp .ge 28, 3) := by decide +kernel
theorem dX6_putName_14 : decode cX6_putName 14 = .ok (.aload_n 1, 1) := by decide +kernel
theorem dX6_putName_15 : decode cX6_putName 15 = .ok (.iload_n 2, 1) := by decide +kernel
theorem dX6_putName_16 : decode cX6_putName 16 = .ok (.iload_n 3, 1) := by decide +kernel
theorem dX6_putName_17 : decode cX6_putName 17 = .ok (.invokevirtual 23, 3) := by decide +kernel
theorem dX6_putName_20 : decode cX6_putName 20 = .ok (.ifCond .eq 19, 3) := by decide +kernel
theorem dX6_putName_23 : decode cX6_putName 23 = .ok (.aload_n 0, 1) := by decide +kernel
theorem dX6_putName_24 : decode cX6_putName 24 = .ok (.aload_n 1, 1) := by decide +kernel
theorem dX6_putName_25 : decode cX6_putName 25 = .ok (.iload_n 2, 1) := by decide +kernel
theorem dX6_putName_26 : decode cX6_putName 26 = .ok (.iload_n 3, 1) := by decide +kernel
theorem dX6_putName_27 : decode cX6_putName 27 = .ok (.invokevirtual 23, 3) := by decide +kernel
theorem dX6_putName_30 : decode cX6_putName 30 = .ok (.invokevirtual 19, 3) := by decide +kernel
theorem dX6_putName_33 : decode cX6_putName 33 = .ok (.iinc 3 1, 3) := by decide +kernel
theorem dX6_putName_36 : decode cX6_putName 36 = .ok (.goto (-28), 3) := by decide +kernel
theorem dX6_putName_39 : decode cX6_putName 39 = .ok (.aload_n 0, 1) := by decide +kernel
theorem dX6_putName_40 : decode cX6_putName 40 = .ok (.bipush 41, 2) := by decide +kernel
theorem dX6_putName_42 : decode cX6_putName 42 = .ok (.invokevirtual 19, 3) := by decide +kernel
theorem dX6_putName_45 : decode cX6_putName 45 = .ok (.return_, 1) := by decide +kernel
theorem dX6_putLetter_0 : decode cX6_putLetter 0 = .ok (.aload_n 0, 1) := by decide +kernel
theorem dX6_putLetter_1 : decode cX6_putLetter 1 = .ok (.aload_n 1, 1) := by decide +kernel
theorem dX6_putLetter_2 : decode cX6_putLetter 2 = .ok (.getfield 29, 3) := by decide +kernel
theorem dX6_putLetter_5 : decode cX6_putLetter 5 = .ok (.getfield 35, 3) := by decide +kernel
theorem dX6_putLetter_8 : decode cX6_putLetter 8 = .ok (.iload_n 2, 1) := by decide +kernel
theorem dX6_putLetter_9 : decode cX6_putLetter 9 = .ok (.baload, 1) := by decide +kernel
theorem dX6_putLetter_10 : decode cX6_putLetter 10 = .ok (.ifCond .eq 8, 3) := by decide +kernel
theorem dX6_putLetter_13 : decode cX6_putLetter 13 = .ok (.bipush 65, 2) := by decide +kernel
theorem dX6_putLetter_15 : decode cX6_putLetter 15 = .ok (.goto 5, 3) := by decide +kernel
theorem dX6_putLetter_18 : decode cX6_putLetter 18 = .ok (.bipush 97, 2) := by decide +kernel
theorem dX6_putLetter_20 : decode cX6_putLetter 20 = .ok (.aload_n 1, 1) := by decide +kernel
theorem dX6_putLetter_21 : decode cX6_putLetter 21 = .ok (.getfield 29, 3) := by decide +kernel
theorem dX6_putLetter_24 : decode cX6_putLetter 24 = .ok (.getfield 41, 3) := by decide +kernel
theorem dX6_putLetter_27 : decode cX6_putLetter 27 = .ok (.iload_n 2, 1) := by decide +kernel
theorem dX6_putLetter_28 : decode cX6_putLetter 28 = .ok (.iaload, 1) := by decide +kernel
theorem dX6_putLetter_29 : decode cX6_putLetter 29 = .ok (.iadd, 1) := by decide +kernel
theorem dX6_putLetter_30 : decode cX6_putLetter 30 = .ok (.invokevirtual 19, 3) := by decide +kernel
theorem dX6_putLetter_33 : decode cX6_putLetter 33 = .ok (.iload_n 3, 1) := by decide +kernel
theorem dX6_putLetter_34 : decode cX6_putLetter 34 = .ok (.ifCond .eq 9, 3) := by decide +kernel
theorem dX6_putLetter_37 : decode cX6_putLetter 37 = .ok (.aload_n 0, 1) := by decide +kernel
theorem dX6_putLetter_38 : decode cX6_putLetter 38 = .ok (.bipush 33, 2) := by decide +kernel
theorem dX6_putLetter_40 : decode cX6_putLetter 40 = .ok (.invokevirtual 19, 3) := by decide +kernel
theorem dX6_putLetter_43 : decode cX6_putLetter 43 = .ok (.aload_n 1, 1) := by decide +kernel
theorem dX6_putLetter_44 : decode cX6_putLetter 44 = .ok (.getfield 45, 3) := by decide +kernel
theorem dX6_putLetter_47 : decode cX6_putLetter 47 = .ok (.iload_n 2, 1) := by decide +kernel
theorem dX6_putLetter_48 : decode cX6_putLetter 48 = .ok (.invokevirtual 49, 3) := by decide +kernel
theorem dX6_putLetter_51 : decode cX6_putLetter 51 = .ok (.istore 4, 2) := by decide +kernel
theorem dX6_putLetter_53 : decode cX6_putLetter 53 = .ok (.iconst 0, 1) := by decide +kernel
theorem dX6_putLetter_54 : decode cX6_putLetter 54 = .ok (.istore 5, 2) := by decide +kernel
theorem dX6_putLetter_56 : decode cX6_putLetter 56 = .ok (.iload 5, 2) := by decide +kernel
theorem dX6_putLetter_58 : decode cX6_putLetter 58 = .ok (.iload 4, 2) := by decide +kernel
theorem dX6_putLetter_60 : decode cX6_putLetter 60 = .ok (.if_icmp .ge 15, 3) := by decide +kernel
theorem dX6_putLetter_63 : decode cX6_putLetter 63 = .ok (.aload_n 0, 1) := by decide +kernel
theorem dX6_putLetter_64 : decode cX6_putLetter 64 = .ok (.bipush 42, 2) := by decide +kernel
theorem dX6_putLetter_66 : decode cX6_putLetter 66 = .ok (.invokevirtual 19, 3) := by decide +kernel
theorem dX6_putLetter_69 : decode cX6_putLetter 69 = .ok (.iinc 5 1, 3) := by decide +kernel
theorem dX6_putLetter_72 : decode cX6_putLetter 72 = .ok (.goto (-16), 3) := by decide +kernel
theorem dX6_putLetter_75 : decode cX6_putLetter 75 = .ok (.return_, 1) := by decide +kernel
theorem dX7_init_0 : decode cX7_init 0 = .ok (.aload_n 0, 1) := by decide +kernel
theorem dX7_init_1 : decode cX7_init 1 = .ok (.invokespecial 3, 3) := by decide +kernel
theorem dX7_init_4 : decode cX7_init 4 = .ok (.aload_n 0, 1) := by decide +kernel
theorem dX7_init_5 : decode cX7_init 5 = .ok (.bipush 44, 2) := by decide +kernel
theorem dX7_init_7 : decode cX7_init 7 = .ok (.newarray .int, 2) := by decide +kernel
theorem dX7_init_9 : decode cX7_init 9 = .ok (.putfield 9, 3) := by decide +kernel
theorem dX7_init_12 : decode cX7_init 12 = .ok (.aload_n 0, 1) := by decide +kernel
theorem dX7_init_13 : decode cX7_init 13 = .ok (.bipush 44, 2) := by decide +kernel
theorem dX7_init_15 : decode cX7_init 15 = .ok (.newarray .int, 2) := by decide +kernel
theorem dX7_init_17 : decode cX7_init 17 = .ok (.putfield 15, 3) := by decide +kernel
theorem dX7_init_20 : decode cX7_init 20 = .ok (.return_, 1) := by decide +kernel
theorem dX7_copyFrom_0 : decode cX7_copyFrom 0 = .ok (.aload_n 0, 1) := by decide +kernel
theorem dX7_copyFrom_1 : decode cX7_copyFrom 1 = .ok (.aload_n 1, 1) := by decide +kernel
theorem dX7_copyFrom_2 : decode cX7_copyFrom 2 = .ok (.getfield 18, 3) := by decide +kernel
theorem dX7_copyFrom_5 : decode cX7_copyFrom 5 = .ok (.putfield 18, 3) := by decide +kernel
theorem dX7_copyFrom_8 : decode cX7_copyFrom 8 = .ok (.iconst 0, 1) := by decide +kernel
theorem dX7_copyFrom_9 : decode cX7_copyFrom 9 = .ok (.istore_n 2, 1) := by decide +kernel
theorem dX7_copyFrom_10 : decode cX7_copyFrom 10 = .ok (.iload_n 2, 1) := by decide +kernel
theorem dX7_copyFrom_11 : decode cX7_copyFrom 11 = .ok (.aload_n 0, 1) := by decide +kernel
theorem dX7_copyFrom_12 : decode cX7_copyFrom 12 = .ok (.getfield 18, 3) := by decide +kernel
theorem dX7_copyFrom_15 : decode cX7_copyFrom 15 = .ok (.if_icmp .ge 33, 3) := by decide +kernel
theorem dX7_copyFrom_18 : decode cX7_copyFrom 18 = .ok (.aload_n 0, 1) := by decide +kernel
theorem dX7_copyFrom_19 : decode cX7_copyFrom 19 = .ok (.getfield 9, 3) := by decide +kernel
theorem dX7_copyFrom_22 : decode cX7_copyFrom 22 = .ok (.iload_n 2, 1) := by decide +kernel
theorem dX7_copyFrom_23 : decode cX7_copyFrom 23 = .ok (.aload_n 1, 1) := by decide +kernel
theorem dX7_copyFrom_24 : decode cX7_copyFrom 24 = .ok (.getfield 9, 3) := by decide +kernel
theorem dX7_copyFrom_27 : decode cX7_copyFrom 27 = .ok (.iload_n 2, 1) := by decide +kernel
theorem dX7_copyFrom_28 : decode cX7_copyFrom 28 = .ok (.iaload, 1) := by decide +kernel
theorem dX7_copyFrom_29 : decode cX7_copyFrom 29 = .ok (.iastore, 1) := by decide +kernel
theorem dX7_copyFrom_30 : decode cX7_copyFrom 30 = .ok (.aload_n 0, 1) := by decide +kernel
theorem dX7_copyFrom_31 : decode cX7_copyFrom 31 = .ok (.getfield 15, 3) := by decide +kernel
theorem dX7_copyFrom_34 : decode cX7_copyFrom 34 = .ok (.iload_n 2, 1) := by decide +kernel
theorem dX7_copyFrom_35 : decode cX7_copyFrom 35 = .ok (.aload_n 1, 1) := by decide +kernel
theorem dX7_copyFrom_36 : decode cX7_copyFrom 36 = .ok (.getfield 15, 3) := by decide +kernel
theorem dX7_copyFrom_39 : decode cX7_copyFrom 39 = .ok (.iload_n 2, 1) := by decide +kernel
theorem dX7_copyFrom_40 : decode cX7_copyFrom 40 = .ok (.iaload, 1) := by decide +kernel
theorem dX7_copyFrom_41 : decode cX7_copyFrom 41 = .ok (.iastore, 1) := by decide +kernel
theorem dX7_copyFrom_42 : decode cX7_copyFrom 42 = .ok (.iinc 2 1, 3) := by decide +kernel
theorem dX7_copyFrom_45 : decode cX7_copyFrom 45 = .ok (.goto (-35), 3) := by decide +kernel
theorem dX7_copyFrom_48 : decode cX7_copyFrom 48 = .ok (.return_, 1) := by decide +kernel
theorem dX7_add_0 : decode cX7_add 0 = .ok (.aload_n 0, 1) := by decide +kernel
theorem dX7_add_1 : decode cX7_add 1 = .ok (.getfield 18, 3) := by decide +kernel
theorem dX7_add_4 : decode cX7_add 4 = .ok (.bipush 44, 2) := by decide +kernel
theorem dX7_add_6 : decode cX7_add 6 = .ok (.if_icmp .ge 33, 3) := by decide +kernel
theorem dX7_add_9 : decode cX7_add 9 = .ok (.aload_n 0, 1) := by decide +kernel
theorem dX7_add_10 : decode cX7_add 10 = .ok (.getfield 9, 3) := by decide +kernel
theorem dX7_add_13 : decode cX7_add 13 = .ok (.aload_n 0, 1) := by decide +kernel
theorem dX7_add_14 : decode cX7_add 14 = .ok (.getfield 18, 3) := by decide +kernel
theorem dX7_add_17 : decode cX7_add 17 = .ok (.iload_n 1, 1) := by decide +kernel
theorem dX7_add_18 : decode cX7_add 18 = .ok (.iastore, 1) := by decide +kernel
theorem dX7_add_19 : decode cX7_add 19 = .ok (.aload_n 0, 1) := by decide +kernel
theorem dX7_add_20 : decode cX7_add 20 = .ok (.getfield 15, 3) := by decide +kernel
theorem dX7_add_23 : decode cX7_add 23 = .ok (.aload_n 0, 1) := by decide +kernel
theorem dX7_add_24 : decode cX7_add 24 = .ok (.getfield 18, 3) := by decide +kernel
theorem dX7_add_27 : decode cX7_add 27 = .ok (.iload_n 2, 1) := by decide +kernel
theorem dX7_add_28 : decode cX7_add 28 = .ok (.iastore, 1) := by decide +kernel
theorem dX7_add_29 : decode cX7_add 29 = .ok (.aload_n 0, 1) := by decide +kernel
theorem dX7_add_30 : decode cX7_add 30 = .ok (.dup, 1) := by decide +kernel
theorem dX7_add_31 : decode cX7_add 31 = .ok (.getfield 18, 3) := by decide +kernel
theorem dX7_add_34 : decode cX7_add 34 = .ok (.iconst 1, 1) := by decide +kernel
theorem dX7_add_35 : decode cX7_add 35 = .ok (.iadd, 1) := by decide +kernel
theorem dX7_add_36 : decode cX7_add 36 = .ok (.putfield 18, 3) := by decide +kernel
theorem dX7_add_39 : decode cX7_add 39 = .ok (.return_, 1) := by decide +kernel
theorem dX7_remove_0 : decode cX7_remove 0 = .ok (.iload_n 1, 1) := by decide +kernel
theorem dX7_remove_1 : decode cX7_remove 1 = .ok (.iconst 1, 1) := by decide +kernel
theorem dX7_remove_2 : decode cX7_remove 2 = .ok (.iadd, 1) := by decide +kernel
theorem dX7_remove_3 : decode cX7_remove 3 = .ok (.istore_n 2, 1) := by decide +kernel
theorem dX7_remove_4 : decode cX7_remove 4 = .ok (.iload_n 2, 1) := by decide +kernel
theorem dX7_remove_5 : decode cX7_remove 5 = .ok (.aload_n 0, 1) := by decide +kernel
theorem dX7_remove_6 : decode cX7_remove 6 = .ok (.getfield 18, 3) := by decide +kernel
theorem dX7_remove_9 : decode cX7_remove 9 = .ok (.if_icmp .ge 37, 3) := by decide +kernel
theorem dX7_remove_12 : decode cX7_remove 12 = .ok (.aload_n 0, 1) := by decide +kernel
theorem dX7_remove_13 : decode cX7_remove 13 = .ok (.getfield 9, 3) := by decide +kernel
theorem dX7_remove_16 : decode cX7_remove 16 = .ok (.iload_n 2, 1) := by decide +kernel
theorem dX7_remove_17 : decode cX7_remove 17 = .ok (.iconst 1, 1) := by decide +kernel
theorem dX7_remove_18 : decode cX7_remove 18 = .ok (.isub, 1) := by decide +kernel
theorem dX7_remove_19 : decode cX7_remove 19 = .ok (.aload_n 0, 1) := by decide +kernel
theorem dX7_remove_20 : decode cX7_remove 20 = .ok (.getfield 9, 3) := by decide +kernel
theorem dX7_remove_23 : decode cX7_remove 23 = .ok (.iload_n 2, 1) := by decide +kernel
theorem dX7_remove_24 : decode cX7_remove 24 = .ok (.iaload, 1) := by decide +kernel
theorem dX7_remove_25 : decode cX7_remove 25 = .ok (.iastore, 1) := by decide +kernel
theorem dX7_remove_26 : decode cX7_remove 26 = .ok (.aload_n 0, 1) := by decide +kernel
theorem dX7_remove_27 : decode cX7_remove 27 = .ok (.getfield 15, 3) := by decide +kernel
theorem dX7_remove_30 : decode cX7_remove 30 = .ok (.iload_n 2, 1) := by decide +kernel
theorem dX7_remove_31 : decode cX7_remove 31 = .ok (.iconst 1, 1) := by decide +kernel
theorem dX7_remove_32 : decode cX7_remove 32 = .ok (.isub, 1) := by decide +kernel
theorem dX7_remove_33 : decode cX7_remove 33 = .ok (.aload_n 0, 1) := by decide +kernel
theorem dX7_remove_34 : decode cX7_remove 34 = .ok (.getfield 15, 3) := by decide +kernel
theorem dX7_remove_37 : decode cX7_remove 37 = .ok (.iload_n 2, 1) := by decide +kernel
theorem dX7_remove_38 : decode cX7_remove 38 = .ok (.iaload, 1) := by decide +kernel
theorem dX7_remove_39 : decode cX7_remove 39 = .ok (.iastore, 1) := by decide +kernel
theorem dX7_remove_40 : decode cX7_remove 40 = .ok (.iinc 2 1, 3) := by decide +kernel
theorem dX7_remove_43 : decode cX7_remove 43 = .ok (.goto (-39), 3) := by decide +kernel
theorem dX7_remove_46 : decode cX7_remove 46 = .ok (.aload_n 0, 1) := by decide +kernel
theorem dX7_remove_47 : decode cX7_remove 47 = .ok (.dup, 1) := by decide +kernel
theorem dX7_remove_48 : decode cX7_remove 48 = .ok (.getfield 18, 3) := by decide +kernel
theorem dX7_remove_51 : decode cX7_remove 51 = .ok (.iconst 1, 1) := by decide +kernel
theorem dX7_remove_52 : decode cX7_remove 52 = .ok (.isub, 1) := by decide +kernel
theorem dX7_remove_53 : decode cX7_remove 53 = .ok (.putfield 18, 3) := by decide +kernel
theorem dX7_remove_56 : decode cX7_remove 56 = .ok (.return_, 1) := by decide +kernel
theorem dX7_removeAllOf_0 : decode cX7_removeAllOf 0 = .ok (.iconst 0, 1) := by decide +kernel
theorem dX7_removeAllOf_1 : decode cX7_removeAllOf 1 = .ok (.istore_n 2, 1) := by decide +kernel
theorem dX7_removeAllOf_2 : decode cX7_removeAllOf 2 = .ok (.iconst 0, 1) := by decide +kernel
theorem dX7_removeAllOf_3 : decode cX7_removeAllOf 3 = .ok (.istore_n 3, 1) := by decide +kernel
theorem dX7_removeAllOf_4 : decode cX7_removeAllOf 4 = .ok (.iload_n 3, 1) := by decide +kernel
theorem dX7_removeAllOf_5 : decode cX7_removeAllOf 5 = .ok (.aload_n 0, 1) := by decide +kernel
theorem dX7_removeAllOf_6 : decode cX7_removeAllOf 6 = .ok (.getfield 18, 3) := by decide +kernel
theorem dX7_removeAllOf_9 : decode cX7_removeAllOf 9 = .ok (.if_icmp .ge 46, 3) := by decide +kernel
theorem dX7_removeAllOf_12 : decode cX7_removeAllOf 12 = .ok (.aload_n 0, 1) := by decide +kernel
theorem dX7_removeAllOf_13 : decode cX7_removeAllOf 13 = .ok (.getfield 9, 3) := by decide +kernel
theorem dX7_removeAllOf_16 : decode cX7_removeAllOf 16 = .ok (.iload_n 3, 1) := by decide +kernel
theorem dX7_removeAllOf_17 : decode cX7_removeAllOf 17 = .ok (.iaload, 1) := by decide +kernel
theorem dX7_removeAllOf_18 : decode cX7_removeAllOf 18 = .ok (.iload_n 1, 1) := by decide +kernel
theorem dX7_removeAllOf_19 : decode cX7_removeAllOf 19 = .ok (.if_icmp .eq 30, 3) := by decide +kernel
theorem dX7_removeAllOf_22 : decode cX7_removeAllOf 22 = .ok (.aload_n 0, 1) := by decide +kernel
theorem dX7_removeAllOf_23 : decode cX7_removeAllOf 23 = .ok (.getfield 9, 3) := by decide +kernel
theorem dX7_removeAllOf_26 : decode cX7_removeAllOf 26 = .ok (.iload_n 2, 1) := by decide +kernel
theorem dX7_removeAllOf_27 : decode cX7_removeAllOf 27 = .ok (.aload_n 0, 1) := by decide +kernel
theorem dX7_removeAllOf_28 : decode cX7_removeAllOf 28 = .ok (.getfield 9, 3) := by decide +kernel
theorem dX7_removeAllOf_31 : decode cX7_removeAllOf 31 = .ok (.iload_n 3, 1) := by decide +kernel
theorem dX7_removeAllOf_32 : decode cX7_removeAllOf 32 = .ok (.iaload, 1) := by decide +kernel
theorem dX7_removeAllOf_33 : decode cX7_removeAllOf 33 = .ok (.iastore, 1) := by decide +kernel
theorem dX7_removeAllOf_34 : decode cX7_removeAllOf 34 = .ok (.aload_n 0, 1) := by decide +kernel
theorem dX7_removeAllOf_35 : decode cX7_removeAllOf 35 = .ok (.getfield 15, 3) := by decide +kernel
theorem dX7_removeAllOf_38 : decode cX7_removeAllOf 38 = .ok (.iload_n 2, 1) := by decide +kernel
theorem dX7_removeAllOf_39 : decode cX7_removeAllOf 39 = .ok (.aload_n 0, 1) := by decide +kernel
theorem dX7_removeAllOf_40 : decode cX7_removeAllOf 40 = .ok (.getfield 15, 3) := by decide +kernel
theorem dX7_removeAllOf_43 : decode cX7_removeAllOf 43 = .ok (.iload_n 3, 1) := by decide +kernel
theorem dX7_removeAllOf_44 : decode cX7_removeAllOf 44 = .ok (.iaload, 1) := by decide +kernel
theorem dX7_removeAllOf_45 : decode cX7_removeAllOf 45 = .ok (.iastore, 1) := by decide +kernel
theorem dX7_removeAllOf_46 : decode cX7_removeAllOf 46 = .ok (.iinc 2 1, 3) := by decide +kernel
theorem dX7_removeAllOf_49 : decode cX7_removeAllOf 49 = .ok (.iinc 3 1, 3) := by decide +kernel
theorem dX7_removeAllOf_52 : decode cX7_removeAllOf 52 = .ok (.goto (-48), 3) := by decide +kernel
theorem dX7_removeAllOf_55 : decode cX7_removeAllOf 55 = .ok (.aload_n 0, 1) := by decide +kernel
theorem dX7_removeAllOf_56 : decode cX7_removeAllOf 56 = .ok (.getfield 18, 3) := by decide +kernel
theorem dX7_removeAllOf_59 : decode cX7_removeAllOf 59 = .ok (.iload_n 2, 1) := by decide +kernel
theorem dX7_removeAllOf_60 : decode cX7_removeAllOf 60 = .ok (.isub, 1) := by decide +kernel
theorem dX7_removeAllOf_61 : decode cX7_removeAllOf 61 = .ok (.istore_n 3, 1) := by decide +kernel
theorem dX7_removeAllOf_62 : decode cX7_removeAllOf 62 = .ok (.aload_n 0, 1) := by decide +kernel
theorem dX7_removeAllOf_63 : decode cX7_removeAllOf 63 = .ok (.iload_n 2, 1) := by decide +kernel
theorem dX7_removeAllOf_64 : decode cX7_removeAllOf 64 = .ok (.putfield 18, 3) := by decide +kernel
theorem dX7_removeAllOf_67 : decode cX7_removeAllOf 67 = .ok (.iload_n 3, 1) := by decide +kernel
theorem dX7_removeAllOf_68 : decode cX7_removeAllOf 68 = .ok (.ireturn, 1) := by decide +kernel
theorem dX7_countOf_0 : decode cX7_countOf 0 = .ok (.iconst 0, 1) := by decide +kernel
theorem dX7_countOf_1 : decode cX7_countOf 1 = .ok (.istore_n 2, 1) := by decide +kernel
theorem dX7_countOf_2 : decode cX7_countOf 2 = .ok (.iconst 0, 1) := by decide +kernel
theorem dX7_countOf_3 : decode cX7_countOf 3 = .ok (.istore_n 3, 1) := by decide +kernel
theorem dX7_countOf_4 : decode cX7_countOf 4 = .ok (.iload_n 3, 1) := by decide +kernel
theorem dX7_countOf_5 : decode cX7_countOf 5 = .ok (.aload_n 0, 1) := by decide +kernel
theorem dX7_countOf_6 : decode cX7_countOf 6 = .ok (.getfield 18, 3) := by decide +kernel
theorem dX7_countOf_9 : decode cX7_countOf 9 = .ok (.if_icmp .ge 22, 3) := by decide +kernel
theorem dX7_countOf_12 : decode cX7_countOf 12 = .ok (.aload_n 0, 1) := by decide +kernel
theorem dX7_countOf_13 : decode cX7_countOf 13 = .ok (.getfield 9, 3) := by decide +kernel
theorem dX7_countOf_16 : decode cX7_countOf 16 = .ok (.iload_n 3, 1) := by decide +kernel
theorem dX7_countOf_17 : decode cX7_countOf 17 = .ok (.iaload, 1) := by decide +kernel
theorem dX7_countOf_18 : decode cX7_countOf 18 = .ok (.iload_n 1, 1) := by decide +kernel
theorem dX7_countOf_19 : decode cX7_countOf 19 = .ok (.if_icmp .ne 6, 3) := by decide +kernel
theorem dX7_countOf_22 : decode cX7_countOf 22 = .ok (.iinc 2 1, 3) := by decide +kernel
theorem dX7_countOf_25 : decode cX7_countOf 25 = .ok (.iinc 3 1, 3) := by decide +kernel
theorem dX7_countOf_28 : decode cX7_countOf 28 = .ok (.goto (-24), 3) := by decide +kernel
theorem dX7_countOf_31 : decode cX7_countOf 31 = .ok (.iload_n 2, 1) := by decide +kernel
theorem dX7_countOf_32 : decode cX7_countOf 32 = .ok (.ireturn, 1) := by decide +kernel
theorem dX8_init_0 : decode cX8_init 0 = .ok (.aload_n 0, 1) := by decide +kernel
theorem dX8_init_1 : decode cX8_init 1 = .ok (.invokespecial 5, 3) := by decide +kernel
theorem dX8_init_4 : decode cX8_init 4 = .ok (.aload_n 0, 1) := by decide +kernel
theorem dX8_init_5 : decode cX8_init 5 = .ok (.bipush 60, 2) := by decide +kernel
theorem dX8_init_7 : decode cX8_init 7 = .ok (.newarray .int, 2) := by decide +kernel
theorem dX8_init_9 : decode cX8_init 9 = .ok (.putfield 11, 3) := by decide +kernel
theorem dX8_init_12 : decode cX8_init 12 = .ok (.aload_n 0, 1) := by decide +kernel
theorem dX8_init_13 : decode cX8_init 13 = .ok (.bipush 60, 2) := by decide +kernel
theorem dX8_init_15 : decode cX8_init 15 = .ok (.newarray .int, 2) := by decide +kernel
theorem dX8_init_17 : decode cX8_init 17 = .ok (.putfield 15, 3) := by decide +kernel
theorem dX8_init_20 : decode cX8_init 20 = .ok (.aload_n 0, 1) := by decide +kernel
theorem dX8_init_21 : decode cX8_init 21 = .ok (.bipush 60, 2) := by decide +kernel
theorem dX8_init_23 : decode cX8_init 23 = .ok (.newarray .int, 2) := by decide +kernel
theorem dX8_init_25 : decode cX8_init 25 = .ok (.putfield 18, 3) := by decide +kernel
theorem dX8_init_28 : decode cX8_init 28 = .ok (.aload_n 0, 1) := by decide +kernel
theorem dX8_init_29 : decode cX8_init 29 = .ok (.iconst 2, 1) := by decide +kernel
theorem dX8_init_30 : decode cX8_init 30 = .ok (.newarray .int, 2) := by decide +kernel
theorem dX8_init_32 : decode cX8_init 32 = .ok (.putfield 21, 3) := by decide +kernel
theorem dX8_init_35 : decode cX8_init 35 = .ok (.return_, 1) := by decide +kernel
theorem dX8_readFrom_0 : decode cX8_readFrom 0 = .ok (.aload_n 0, 1) := by decide +kernel
theorem dX8_readFrom_1 : decode cX8_readFrom 1 = .ok (.iconst 0, 1) := by decide +kernel
theorem dX8_readFrom_2 : decode cX8_readFrom 2 = .ok (.putfield 24, 3) := by decide +kernel
theorem dX8_readFrom_5 : decode cX8_readFrom 5 = .ok (.aload_n 0, 1) := by decide +kernel
theorem dX8_readFrom_6 : decode cX8_readFrom 6 = .ok (.iconst 0, 1) := by decide +kernel
theorem dX8_readFrom_7 : decode cX8_readFrom 7 = .ok (.putfield 28, 3) := by decide +kernel
theorem dX8_readFrom_10 : decode cX8_readFrom 10 = .ok (.aload_n 0, 1) := by decide +kernel
theorem dX8_readFrom_11 : decode cX8_readFrom 11 = .ok (.iconst 0, 1) := by decide +kernel
theorem dX8_readFrom_12 : decode cX8_readFrom 12 = .ok (.putfield 31, 3) := by decide +kernel
theorem dX8_readFrom_15 : decode cX8_readFrom 15 = .ok (.aload_n 1, 1) := by decide +kernel
theorem dX8_readFrom_16 : decode cX8_readFrom 16 = .ok (.invokevirtual 34, 3) := by decide +kernel
theorem dX8_readFrom_19 : decode cX8_readFrom 19 = .ok (.iconst 0, 1) := by decide +kernel
theorem dX8_readFrom_20 : decode cX8_readFrom 20 = .ok (.istore_n 2, 1) := by decide +kernel
theorem dX8_readFrom_21 : decode cX8_readFrom 21 = .ok (.iload_n 2, 1) := by decide +kernel
theorem dX8_readFrom_22 : decode cX8_readFrom 22 = .ok (.sipush 500, 3) := by decide +kernel
theorem dX8_readFrom_25 : decode cX8_readFrom 25 = .ok (.if_icmp .ge 52, 3) := by decide +kernel
theorem dX8_readFrom_28 : decode cX8_readFrom 28 = .ok (.aload_n 1, 1) := by decide +kernel
theorem dX8_readFrom_29 : decode cX8_readFrom 29 = .ok (.invokevirtual 39, 3) := by decide +kernel
theorem dX8_readFrom_32 : decode cX8_readFrom 32 = .ok (.ifCond .ne 45, 3) := by decide +kernel
theorem dX8_readFrom_35 : decode cX8_readFrom 35 = .ok (.aload_n 0, 1) := by decide +kernel
theorem dX8_readFrom_36 : decode cX8_readFrom 36 = .ok (.getfield 31, 3) := by decide +kernel
theorem dX8_readFrom_39 : decode cX8_readFrom 39 = .ok (.ifCond .le 20, 3) := by decide +kernel
theorem dX8_readFrom_42 : decode cX8_readFrom 42 = .ok (.aload_n 1, 1) := by decide +kernel
theorem dX8_readFrom_43 : decode cX8_readFrom 43 = .ok (.bipush 41, 2) := by decide +kernel
theorem dX8_readFrom_45 : decode cX8_readFrom 45 = .ok (.invokevirtual 43, 3) := by decide +kernel
theorem dX8_readFrom_48 : decode cX8_readFrom 48 = .ok (.ifCond .eq 11, 3) := by decide +kernel
theorem dX8_readFrom_51 : decode cX8_readFrom 51 = .ok (.aload_n 0, 1) := by decide +kernel
theorem dX8_readFrom_52 : decode cX8_readFrom 52 = .ok (.aload_n 1, 1) := by decide +kernel
theorem dX8_readFrom_53 : decode cX8_readFrom 53 = .ok (.invokevirtual 47, 3) := by decide +kernel
theorem dX8_readFrom_56 : decode cX8_readFrom 56 = .ok (.goto 8, 3) := by decide +kernel
theorem dX8_readFrom_59 : decode cX8_readFrom 59 = .ok (.aload_n 0, 1) := by decide +kernel
theorem dX8_readFrom_60 : decode cX8_readFrom 60 = .ok (.aload_n 1, 1) := by decide +kernel
theorem dX8_readFrom_61 : decode cX8_readFrom 61 = .ok (.invokevirtual 51, 3) := by decide +kernel
theorem dX8_readFrom_64 : decode cX8_readFrom 64 = .ok (.istore_n 3, 1) := by decide +kernel
theorem dX8_readFrom_65 : decode cX8_readFrom 65 = .ok (.iload_n 3, 1) := by decide +kernel
theorem dX8_readFrom_66 : decode cX8_readFrom 66 = .ok (.ifCond .ne 5, 3) := by decide +kernel
theorem dX8_readFrom_69 : decode cX8_readFrom 69 = .ok (.iconst 0, 1) := by decide +kernel
theorem dX8_readFrom_70 : decode cX8_readFrom 70 = .ok (.ireturn, 1) := by decide +kernel
theorem dX8_readFrom_71 : decode cX8_readFrom 71 = .ok (.iinc 2 1, 3) := by decide +kernel
theorem dX8_readFrom_74 : decode cX8_readFrom 74 = .ok (.goto (-53), 3) := by decide +kernel
theorem dX8_readFrom_77 : decode cX8_readFrom 77 = .ok (.aload_n 0, 1) := by decide +kernel
theorem dX8_readFrom_78 : decode cX8_readFrom 78 = .ok (.getfield 31, 3) := by decide +kernel
theorem dX8_readFrom_81 : decode cX8_readFrom 81 = .ok (.ifCond .eq 11, 3) := by decide +kernel
theorem dX8_readFrom_84 : decode cX8_readFrom 84 = .ok (.aload_n 1, 1) := by decide +kernel
theorem dX8_readFrom_85 : decode cX8_readFrom 85 = .ok (.iconst 1, 1) := by decide +kernel
theorem dX8_readFrom_86 : decode cX8_readFrom 86 = .ok (.invokevirtual 54, 3) := by decide +kernel
theorem dX8_readFrom_89 : decode cX8_readFrom 89 = .ok (.ifCond .eq 7, 3) := by decide +kernel
theorem dX8_readFrom_92 : decode cX8_readFrom 92 = .ok (.iconst 1, 1) := by decide +kernel
theorem dX8_readFrom_93 : decode cX8_readFrom 93 = .ok (.goto 4, 3) := by decide +kernel
theorem dX8_readFrom_96 : decode cX8_readFrom 96 = .ok (.iconst 0, 1) := by decide +kernel
theorem dX8_readFrom_97 : decode cX8_readFrom 97 = .ok (.ireturn, 1) := by decide +kernel
theorem dX8_readCommand_0 : decode cX8_readCommand 0 = .ok (.aload_n 1, 1) := by decide +kernel
theorem dX8_readCommand_1 : decode cX8_readCommand 1 = .ok (.invokestatic 58, 3) := by decide +kernel
theorem dX8_readCommand_4 : decode cX8_readCommand 4 = .ok (.istore_n 2, 1) := by decide +kernel
theorem dX8_readCommand_5 : decode cX8_readCommand 5 = .ok (.iload_n 2, 1) := by decide +kernel
theorem dX8_readCommand_6 : decode cX8_readCommand 6 = .ok (.iconst (-1), 1) := by decide +kernel
theorem dX8_readCommand_7 : decode cX8_readCommand 7 = .ok (.if_icmp .ne 9, 3) := by decide +kernel
theorem dX8_readCommand_10 : decode cX8_readCommand 10 = .ok (.aload_n 1, 1) := by decide +kernel
theorem dX8_readCommand_11 : decode cX8_readCommand 11 = .ok (.iconst 1, 1) := by decide +kernel
theorem dX8_readCommand_12 : decode cX8_readCommand 12 = .ok (.invokevirtual 54, 3) := by decide +kernel
theorem dX8_readCommand_15 : decode cX8_readCommand 15 = .ok (.ireturn, 1) := by decide +kernel
theorem dX8_readCommand_16 : decode cX8_readCommand 16 = .ok (.iload_n 2, 1) := by decide +kernel
theorem dX8_readCommand_17 : decode cX8_readCommand 17 = .ok (.bipush 6, 2) := by decide +kernel
theorem dX8_readCommand_19 : decode cX8_readCommand 19 = .ok (.if_icmp .ne 17, 3) := by decide +kernel
theorem dX8_readCommand_22 : decode cX8_readCommand 22 = .ok (.aload_n 0, 1) := by decide +kernel
theorem dX8_readCommand_23 : decode cX8_readCommand 23 = .ok (.getfield 31, 3) := by decide +kernel
theorem dX8_readCommand_26 : decode cX8_readCommand 26 = .ok (.iconst 2, 1) := by decide +kernel
theorem dX8_readCommand_27 : decode cX8_readCommand 27 = .ok (.if_icmp .lt 9, 3) := by decide +kernel
theorem dX8_readCommand_30 : decode cX8_readCommand 30 = .ok (.aload_n 1, 1) := by decide +kernel
theorem dX8_readCommand_31 : decode cX8_readCommand 31 = .ok (.iconst 3, 1) := by decide +kernel
theorem dX8_readCommand_32 : decode cX8_readCommand 32 = .ok (.invokevirtual 54, 3) := by decide +kernel
theorem dX8_readCommand_35 : decode cX8_readCommand 35 = .ok (.ireturn, 1) := by decide +kernel
theorem dX8_readCommand_36 : decode cX8_readCommand 36 = .ok (.aload_n 0, 1) := by decide +kernel
theorem dX8_readCommand_37 : decode cX8_readCommand 37 = .ok (.getfield 28, 3) := by decide +kernel
theorem dX8_readCommand_40 : decode cX8_readCommand 40 = .ok (.bipush 30, 2) := by decide +kernel
theorem dX8_readCommand_42 : decode cX8_readCommand 42 = .ok (.if_icmp .lt 9, 3) := by decide +kernel
theorem dX8_readCommand_45 : decode cX8_readCommand 45 = .ok (.aload_n 1, 1) := by decide +kernel
theorem dX8_readCommand_46 : decode cX8_readCommand 46 = .ok (.iconst 5, 1) := by decide +kernel
theorem dX8_readCommand_47 : decode cX8_readCommand 47 = .ok (.invokevirtual 54, 3) := by decide +kernel
theorem dX8_readCommand_50 : decode cX8_readCommand 50 = .ok (.ireturn, 1) := by decide +kernel
theorem dX8_readCommand_51 : decode cX8_readCommand 51 = .ok (.aload_n 0, 1) := by decide +kernel
theorem dX8_readCommand_52 : decode cX8_readCommand 52 = .ok (.dup, 1) := by decide +kernel
theorem dX8_readCommand_53 : decode cX8_readCommand 53 = .ok (.getfield 28, 3) := by decide +kernel
theorem dX8_readCommand_56 : decode cX8_readCommand 56 = .ok (.iconst 1, 1) := by decide +kernel
theorem dX8_readCommand_57 : decode cX8_readCommand 57 = .ok (.iadd, 1) := by decide +kernel
theorem dX8_readCommand_58 : decode cX8_readCommand 58 = .ok (.putfield 28, 3) := by decide +kernel
theorem dX8_readCommand_61 : decode cX8_readCommand 61 = .ok (.aload_n 1, 1) := by decide +kernel
theorem dX8_readCommand_62 : decode cX8_readCommand 62 = .ok (.invokevirtual 62, 3) := by decide +kernel
theorem dX8_readCommand_65 : decode cX8_readCommand 65 = .ok (.iload_n 2, 1) := by decide +kernel
theorem dX8_readCommand_66 : decode cX8_readCommand 66 = .ok (.bipush 6, 2) := by decide +kernel
theorem dX8_readCommand_68 : decode cX8_readCommand 68 = .ok (.if_icmp .ne 9, 3) := by decide +kernel
theorem dX8_readCommand_71 : decode cX8_readCommand 71 = .ok (.aload_n 0, 1) := by decide +kernel
theorem dX8_readCommand_72 : decode cX8_readCommand 72 = .ok (.aload_n 1, 1) := by decide +kernel
theorem dX8_readCommand_73 : decode cX8_readCommand 73 = .ok (.invokevirtual 65, 3) := by decide +kernel
theorem dX8_readCommand_76 : decode cX8_readCommand 76 = .ok (.ireturn, 1) := by decide +kernel
theorem dX8_readCommand_77 : decode cX8_readCommand 77 = .ok (.iload_n 2, 1) := by decide +kernel
theorem dX8_readCommand_78 : decode cX8_readCommand 78 = .ok (.iconst 1, 1) := by decide +kernel
theorem dX8_readCommand_79 : decode cX8_readCommand 79 = .ok (.if_icmp .eq 16, 3) := by decide +kernel
theorem dX8_readCommand_82 : decode cX8_readCommand 82 = .ok (.aload_n 1, 1) := by decide +kernel
theorem dX8_readCommand_83 : decode cX8_readCommand 83 = .ok (.iconst 0, 1) := by decide +kernel
theorem dX8_readCommand_84 : decode cX8_readCommand 84 = .ok (.sipush 999, 3) := by decide +kernel
theorem dX8_readCommand_87 : decode cX8_readCommand 87 = .ok (.invokevirtual 68, 3) := by decide +kernel
theorem dX8_readCommand_90 : decode cX8_readCommand 90 = .ok (.ifCond .ne 5, 3) := by decide +kernel
theorem dX8_readCommand_93 : decode cX8_readCommand 93 = .ok (.iconst 0, 1) := by decide +kernel
theorem dX8_readCommand_94 : decode cX8_readCommand 94 = .ok (.ireturn, 1) := by decide +kernel
theorem dX8_readCommand_95 : decode cX8_readCommand 95 = .ok (.aload_n 0, 1) := by decide +kernel
theorem dX8_readCommand_96 : decode cX8_readCommand 96 = .ok (.iload_n 2, 1) := by decide +kernel
theorem dX8_readCommand_97 : decode cX8_readCommand 97 = .ok (.aload_n 1, 1) := by decide +kernel
theorem dX8_readCommand_98 : decode cX8_readCommand 98 = .ok (.getfield 72, 3) := by decide +kernel
theorem dX8_readCommand_101 : decode cX8_readCommand 101 = .ok (.invokevirtual 75, 3) := by decide +kernel
theorem dX8_readCommand_104 : decode cX8_readCommand 104 = .ok (.aload_n 1, 1) := by decide +kernel
theorem dX8_readCommand_105 : decode cX8_readCommand 105 = .ok (.bipush 59, 2) := by decide +kernel
theorem dX8_readCommand_107 : decode cX8_readCommand 107 = .ok (.invokevirtual 79, 3) := by decide +kernel
theorem dX8_readCommand_110 : decode cX8_readCommand 110 = .ok (.ireturn, 1) := by decide +kernel
theorem dX8_readRepeat_0 : decode cX8_readRepeat 0 = .ok (.aload_n 1, 1) := by decide +kernel
theorem dX8_readRepeat_1 : decode cX8_readRepeat 1 = .ok (.iconst 1, 1) := by decide +kernel
theorem dX8_readRepeat_2 : decode cX8_readRepeat 2 = .ok (.bipush 20, 2) := by decide +kernel
theorem dX8_readRepeat_4 : decode cX8_readRepeat 4 = .ok (.invokevirtual 68, 3) := by decide +kernel
theorem dX8_readRepeat_7 : decode cX8_readRepeat 7 = .ok (.ifCond .ne 5, 3) := by decide +kernel
theorem dX8_readRepeat_10 : decode cX8_readRepeat 10 = .ok (.iconst 0, 1) := by decide +kernel
theorem dX8_readRepeat_11 : decode cX8_readRepeat 11 = .ok (.ireturn, 1) := by decide +kernel
theorem dX8_readRepeat_12 : decode cX8_readRepeat 12 = .ok (.aload_n 0, 1) := by decide +kernel
theorem dX8_readRepeat_13 : decode cX8_readRepeat 13 = .ok (.getfield 31, 3) := by decide +kernel
theorem dX8_readRepeat_16 : decode cX8_readRepeat 16 = .ok (.iconst 2, 1) := by decide +kernel
theorem dX8_readRepeat_17 : decode cX8_readRepeat 17 = .ok (.if_icmp .ge 26, 3) := by decide +kernel
theorem dX8_readRepeat_20 : decode cX8_readRepeat 20 = .ok (.aload_n 0, 1) := by decide +kernel
theorem dX8_readRepeat_21 : decode cX8_readRepeat 21 = .ok (.getfield 21, 3) := by decide +kernel
theorem dX8_readRepeat_24 : decode cX8_readRepeat 24 = .ok (.aload_n 0, 1) := by decide +kernel
theorem dX8_readRepeat_25 : decode cX8_readRepeat 25 = .ok (.getfield 31, 3) := by decide +kernel
theorem dX8_readRepeat_28 : decode cX8_readRepeat 28 = .ok (.aload_n 0, 1) := by decide +kernel
theorem dX8_readRepeat_29 : decode cX8_readRepeat 29 = .ok (.getfield 24, 3) := by decide +kernel
theorem dX8_readRepeat_32 : decode cX8_readRepeat 32 = .ok (.iastore, 1) := by decide +kernel
theorem dX8_readRepeat_33 : decode cX8_readRepeat 33 = .ok (.aload_n 0, 1) := by decide +kernel
theorem dX8_readRepeat_34 : decode cX8_readRepeat 34 = .ok (.dup, 1) := by decide +kernel
theorem dX8_readRepeat_35 : decode cX8_readRepeat 35 = .ok (.getfield 31, 3) := by decide +kernel
theorem dX8_readRepeat_38 : decode cX8_readRepeat 38 = .ok (.iconst 1, 1) := by decide +kernel
theorem dX8_readRepeat_39 : decode cX8_readRepeat 39 = .ok (.iadd, 1) := by decide +kernel
theorem dX8_readRepeat_40 : decode cX8_readRepeat 40 = .ok (.putfield 31, 3) := by decide +kernel
theorem dX8_readRepeat_43 : decode cX8_readRepeat 43 = .ok (.aload_n 0, 1) := by decide +kernel
theorem dX8_readRepeat_44 : decode cX8_readRepeat 44 = .ok (.bipush 6, 2) := by decide +kernel
theorem dX8_readRepeat_46 : decode cX8_readRepeat 46 = .ok (.aload_n 1, 1) := by decide +kernel
theorem dX8_readRepeat_47 : decode cX8_readRepeat 47 = .ok (.getfield 72, 3) := by decide +kernel
theorem dX8_readRepeat_50 : decode cX8_readRepeat 50 = .ok (.invokevirtual 75, 3) := by decide +kernel
theorem dX8_readRepeat_53 : decode cX8_readRepeat 53 = .ok (.aload_n 1, 1) := by decide +kernel
theorem dX8_readRepeat_54 : decode cX8_readRepeat 54 = .ok (.bipush 40, 2) := by decide +kernel
theorem dX8_readRepeat_56 : decode cX8_readRepeat 56 = .ok (.invokevirtual 79, 3) := by decide +kernel
theorem dX8_readRepeat_59 : decode cX8_readRepeat 59 = .ok (.ireturn, 1) := by decide +kernel
theorem dX8_readEnd_0 : decode cX8_readEnd 0 = .ok (.aload_n 0, 1) := by decide +kernel
theorem dX8_readEnd_1 : decode cX8_readEnd 1 = .ok (.getfield 31, 3) := by decide +kernel
theorem dX8_readEnd_4 : decode cX8_readEnd 4 = .ok (.ifCond .le 28, 3) := by decide +kernel
theorem dX8_readEnd_7 : decode cX8_readEnd 7 = .ok (.aload_n 0, 1) := by decide +kernel
theorem dX8_readEnd_8 : decode cX8_readEnd 8 = .ok (.dup, 1) := by decide +kernel
theorem dX8_readEnd_9 : decode cX8_readEnd 9 = .ok (.getfield 31, 3) := by decide +kernel
theorem dX8_readEnd_12 : decode cX8_readEnd 12 = .ok (.iconst 1, 1) := by decide +kernel
theorem dX8_readEnd_13 : decode cX8_readEnd 13 = .ok (.isub, 1) := by decide +kernel
theorem dX8_readEnd_14 : decode cX8_readEnd 14 = .ok (.putfield 31, 3) := by decide +kernel
theorem dX8_readEnd_17 : decode cX8_readEnd 17 = .ok (.aload_n 0, 1) := by decide +kernel
theorem dX8_readEnd_18 : decode cX8_readEnd 18 = .ok (.bipush 7, 2) := by decide +kernel
theorem dX8_readEnd_20 : decode cX8_readEnd 20 = .ok (.aload_n 0, 1) := by decide +kernel
theorem dX8_readEnd_21 : decode cX8_readEnd 21 = .ok (.getfield 21, 3) := by decide +kernel
theorem dX8_readEnd_24 : decode cX8_readEnd 24 = .ok (.aload_n 0, 1) := by decide +kernel
theorem dX8_readEnd_25 : decode cX8_readEnd 25 = .ok (.getfield 31, 3) := by decide +kernel
theorem dX8_readEnd_28 : decode cX8_readEnd 28 = .ok (.iaload, 1) := by decide +kernel
theorem dX8_readEnd_29 : decode cX8_readEnd 29 = .ok (.invokevirtual 75, 3) := by decide +kernel
theorem dX8_readEnd_32 : decode cX8_readEnd 32 = .ok (.aload_n 1, 1) := by decide +kernel
theorem dX8_readEnd_33 : decode cX8_readEnd 33 = .ok (.invokevirtual 62, 3) := by decide +kernel
theorem dX8_readEnd_36 : decode cX8_readEnd 36 = .ok (.aload_n 1, 1) := by decide +kernel
theorem dX8_readEnd_37 : decode cX8_readEnd 37 = .ok (.bipush 59, 2) := by decide +kernel
theorem dX8_readEnd_39 : decode cX8_readEnd 39 = .ok (.invokevirtual 79, 3) := by decide +kernel
theorem dX8_readEnd_42 : decode cX8_readEnd 42 = .ok (.ireturn, 1) := by decide +kernel
theorem dX8_addStep_0 : decode cX8_addStep 0 = .ok (.aload_n 0, 1) := by decide +kernel
theorem dX8_addStep_1 : decode cX8_addStep 1 = .ok (.getfield 24, 3) := by decide +kernel
theorem dX8_addStep_4 : decode cX8_addStep 4 = .ok (.bipush 60, 2) := by decide +kernel
theorem dX8_addStep_6 : decode cX8_addStep 6 = .ok (.if_icmp .ge 33, 3) := by decide +kernel
theorem dX8_addStep_9 : decode cX8_addStep 9 = .ok (.aload_n 0, 1) := by decide +kernel
theorem dX8_addStep_10 : decode cX8_addStep 10 = .ok (.getfield 11, 3) := by decide +kernel
theorem dX8_addStep_13 : decode cX8_addStep 13 = .ok (.aload_n 0, 1) := by decide +kernel
theorem dX8_addStep_14 : decode cX8_addStep 14 = .ok (.getfield 24, 3) := by decide +kernel
theorem dX8_addStep_17 : decode cX8_addStep 17 = .ok (.iload_n 1, 1) := by decide +kernel
theorem dX8_addStep_18 : decode cX8_addStep 18 = .ok (.iastore, 1) := by decide +kernel
theorem dX8_addStep_19 : decode cX8_addStep 19 = .ok (.aload_n 0, 1) := by decide +kernel
theorem dX8_addStep_20 : decode cX8_addStep 20 = .ok (.getfield 15, 3) := by decide +kernel
theorem dX8_addStep_23 : decode cX8_addStep 23 = .ok (.aload_n 0, 1) := by decide +kernel
theorem dX8_addStep_24 : decode cX8_addStep 24 = .ok (.getfield 24, 3) := by decide +kernel
theorem dX8_addStep_27 : decode cX8_addStep 27 = .ok (.iload_n 2, 1) := by decide +kernel
theorem dX8_addStep_28 : decode cX8_addStep 28 = .ok (.iastore, 1) := by decide +kernel
theorem dX8_addStep_29 : decode cX8_addStep 29 = .ok (.aload_n 0, 1) := by decide +kernel
theorem dX8_addStep_30 : decode cX8_addStep 30 = .ok (.dup, 1) := by decide +kernel
theorem dX8_addStep_31 : decode cX8_addStep 31 = .ok (.getfield 24, 3) := by decide +kernel
theorem dX8_addStep_34 : decode cX8_addStep 34 = .ok (.iconst 1, 1) := by decide +kernel
theorem dX8_addStep_35 : decode cX8_addStep 35 = .ok (.iadd, 1) := by decide +kernel
theorem dX8_addStep_36 : decode cX8_addStep 36 = .ok (.putfield 24, 3) := by decide +kernel
theorem dX8_addStep_39 : decode cX8_addStep 39 = .ok (.return_, 1) := by decide +kernel
theorem dX8_commandAt_0 : decode cX8_commandAt 0 = .ok (.aload_n 0, 1) := by decide +kernel
theorem dX8_commandAt_1 : decode cX8_commandAt 1 = .ok (.ldc 82, 2) := by decide +kernel
theorem dX8_commandAt_3 : decode cX8_commandAt 3 = .ok (.invokevirtual 84, 3) := by decide +kernel
theorem dX8_commandAt_6 : decode cX8_commandAt 6 = .ok (.ifCond .eq 5, 3) := by decide +kernel
theorem dX8_commandAt_9 : decode cX8_commandAt 9 = .ok (.iconst 0, 1) := by decide +kernel
theorem dX8_commandAt_10 : decode cX8_commandAt 10 = .ok (.ireturn, 1) := by decide +kernel
theorem dX8_commandAt_11 : decode cX8_commandAt 11 = .ok (.aload_n 0, 1) := by decide +kernel
theorem dX8_commandAt_12 : decode cX8_commandAt 12 = .ok (.ldc 88, 2) := by decide +kernel
theorem dX8_commandAt_14 : decode cX8_commandAt 14 = .ok (.invokevirtual 84, 3) := by decide +kernel
theorem dX8_commandAt_17 : decode cX8_commandAt 17 = .ok (.ifCond .eq 5, 3) := by decide +kernel
theorem dX8_commandAt_20 : decode cX8_commandAt 20 = .ok (.iconst 1, 1) := by decide +kernel
theorem dX8_commandAt_21 : decode cX8_commandAt 21 = .ok (.ireturn, 1) := by decide +kernel
theorem dX8_commandAt_22 : decode cX8_commandAt 22 = .ok (.aload_n 0, 1) := by decide +kernel
theorem dX8_commandAt_23 : decode cX8_commandAt 23 = .ok (.ldc 90, 2) := by decide +kernel
theorem dX8_commandAt_25 : decode cX8_commandAt 25 = .ok (.invokevirtual 84, 3) := by decide +kernel
theorem dX8_commandAt_28 : decode cX8_commandAt 28 = .ok (.ifCond .eq 5, 3) := by decide +kernel
theorem dX8_commandAt_31 : decode cX8_commandAt 31 = .ok (.iconst 2, 1) := by decide +kernel
theorem dX8_commandAt_32 : decode cX8_commandAt 32 = .ok (.ireturn, 1) := by decide +kernel
theorem dX8_commandAt_33 : decode cX8_commandAt 33 = .ok (.aload_n 0, 1) := by decide +kernel
theorem dX8_commandAt_34 : decode cX8_commandAt 34 = .ok (.ldc 92, 2) := by decide +kernel
theorem dX8_commandAt_36 : decode cX8_commandAt 36 = .ok (.invokevirtual 84, 3) := by decide +kernel
theorem dX8_commandAt_39 : decode cX8_commandAt 39 = .ok (.ifCond .eq 5, 3) := by decide +kernel
theorem dX8_commandAt_42 : decode cX8_commandAt 42 = .ok (.iconst 3, 1) := by decide +kernel
theorem dX8_commandAt_43 : decode cX8_commandAt 43 = .ok (.ireturn, 1) := by decide +kernel
theorem dX8_commandAt_44 : decode cX8_commandAt 44 = .ok (.aload_n 0, 1) := by decide +kernel
theorem dX8_commandAt_45 : decode cX8_commandAt 45 = .ok (.ldc 94, 2) := by decide +kernel
theorem dX8_commandAt_47 : decode cX8_commandAt 47 = .ok (.invokevirtual 84, 3) := by decide +kernel
theorem dX8_commandAt_50 : decode cX8_commandAt 50 = .ok (.ifCond .eq 5, 3) := by decide +kernel
theorem dX8_commandAt_53 : decode cX8_commandAt 53 = .ok (.iconst 4, 1) := by decide +kernel
theorem dX8_commandAt_54 : decode cX8_commandAt 54 = .ok (.ireturn, 1) := by decide +kernel
theorem dX8_commandAt_55 : decode cX8_commandAt 55 = .ok (.aload_n 0, 1) := by decide +kernel
theorem dX8_commandAt_56 : decode cX8_commandAt 56 = .ok (.ldc 96, 2) := by decide +kernel
theorem dX8_commandAt_58 : decode cX8_commandAt 58 = .ok (.invokevirtual 84, 3) := by decide +kernel
theorem dX8_commandAt_61 : decode cX8_commandAt 61 = .ok (.ifCond .eq 5, 3) := by decide +kernel
theorem dX8_commandAt_64 : decode cX8_commandAt 64 = .ok (.iconst 5, 1) := by decide +kernel
theorem dX8_commandAt_65 : decode cX8_commandAt 65 = .ok (.ireturn, 1) := by decide +kernel
theorem dX8_commandAt_66 : decode cX8_commandAt 66 = .ok (.aload_n 0, 1) := by decide +kernel
theorem dX8_commandAt_67 : decode cX8_commandAt 67 = .ok (.ldc 98, 2) := by decide +kernel
theorem dX8_commandAt_69 : decode cX8_commandAt 69 = .ok (.invokevirtual 84, 3) := by decide +kernel
theorem dX8_commandAt_72 : decode cX8_commandAt 72 = .ok (.ifCond .eq 8, 3) := by decide +kernel
theorem dX8_commandAt_75 : decode cX8_commandAt 75 = .ok (.bipush 6, 2) := by decide +kernel
theorem dX8_commandAt_77 : decode cX8_commandAt 77 = .ok (.goto 4, 3) := by decide +kernel
theorem dX8_commandAt_80 : decode cX8_commandAt 80 = .ok (.iconst (-1), 1) := by decide +kernel
theorem dX8_commandAt_81 : decode cX8_commandAt 81 = .ok (.ireturn, 1) := by decide +kernel
theorem dX8_runOn_0 : decode cX8_runOn 0 = .ok (.iconst 0, 1) := by decide +kernel
theorem dX8_runOn_1 : decode cX8_runOn 1 = .ok (.istore_n 2, 1) := by decide +kernel
theorem dX8_runOn_2 : decode cX8_runOn 2 = .ok (.iconst 0, 1) := by decide +kernel
theorem dX8_runOn_3 : decode cX8_runOn 3 = .ok (.istore_n 3, 1) := by decide +kernel
theorem dX8_runOn_4 : decode cX8_runOn 4 = .ok (.iconst 0, 1) := by decide +kernel
theorem dX8_runOn_5 : decode cX8_runOn 5 = .ok (.istore 4, 2) := by decide +kernel
theorem dX8_runOn_7 : decode cX8_runOn 7 = .ok (.iload 4, 2) := by decide +kernel
theorem dX8_runOn_9 : decode cX8_runOn 9 = .ok (.ldc 100, 2) := by decide +kernel
theorem dX8_runOn_11 : decode cX8_runOn 11 = .ok (.if_icmp .ge 102, 3) := by decide +kernel
theorem dX8_runOn_14 : decode cX8_runOn 14 = .ok (.iload_n 3, 1) := by decide +kernel
theorem dX8_runOn_15 : decode cX8_runOn 15 = .ok (.aload_n 0, 1) := by decide +kernel
theorem dX8_runOn_16 : decode cX8_runOn 16 = .ok (.getfield 24, 3) := by decide +kernel
theorem dX8_runOn_19 : decode cX8_runOn 19 = .ok (.if_icmp .ge 94, 3) := by decide +kernel
theorem dX8_runOn_22 : decode cX8_runOn 22 = .ok (.iload_n 2, 1) := by decide +kernel
theorem dX8_runOn_23 : decode cX8_runOn 23 = .ok (.bipush 40, 2) := by decide +kernel
theorem dX8_runOn_25 : decode cX8_runOn 25 = .ok (.if_icmp .ge 88, 3) := by decide +kernel
theorem dX8_runOn_28 : decode cX8_runOn 28 = .ok (.aload_n 0, 1) := by decide +kernel
theorem dX8_runOn_29 : decode cX8_runOn 29 = .ok (.getfield 11, 3) := by decide +kernel
theorem dX8_runOn_32 : decode cX8_runOn 32 = .ok (.iload_n 3, 1) := by decide +kernel
theorem dX8_runOn_33 : decode cX8_runOn 33 = .ok (.iaload, 1) := by decide +kernel
theorem dX8_runOn_34 : decode cX8_runOn 34 = .ok (.bipush 6, 2) := by decide +kernel
theorem dX8_runOn_36 : decode cX8_runOn 36 = .ok (.if_icmp .ne 21, 3) := by decide +kernel
theorem dX8_runOn_39 : decode cX8_runOn 39 = .ok (.aload_n 0, 1) := by decide +kernel
theorem dX8_runOn_40 : decode cX8_runOn 40 = .ok (.getfield 18, 3) := by decide +kernel
theorem dX8_runOn_43 : decode cX8_runOn 43 = .ok (.iload_n 3, 1) := by decide +kernel
theorem dX8_runOn_44 : decode cX8_runOn 44 = .ok (.aload_n 0, 1) := by decide +kernel
theorem dX8_runOn_45 : decode cX8_runOn 45 = .ok (.getfield 15, 3) := by decide +kernel
theorem dX8_runOn_48 : decode cX8_runOn 48 = .ok (.iload_n 3, 1) := by decide +kernel
theorem dX8_runOn_49 : decode cX8_runOn 49 = .ok (.iaload, 1) := by decide +kernel
theorem dX8_runOn_50 : decode cX8_runOn 50 = .ok (.iastore, 1) := by decide +kernel
theorem dX8_runOn_51 : decode cX8_runOn 51 = .ok (.iinc 3 1, 3) := by decide +kernel
theorem dX8_runOn_54 : decode cX8_runOn 54 = .ok (.goto 53, 3) := by decide +kernel
theorem dX8_runOn_57 : decode cX8_runOn 57 = .ok (.aload_n 0, 1) := by decide +kernel
theorem dX8_runOn_58 : decode cX8_runOn 58 = .ok (.getfield 11, 3) := by decide +kernel
theorem dX8_runOn_61 : decode cX8_runOn 61 = .ok (.iload_n 3, 1) := by decide +kernel
theorem dX8_runOn_62 : decode cX8_runOn 62 = .ok (.iaload, 1) := by decide +kernel
theorem dX8_runOn_63 : decode cX8_runOn 63 = .ok (.bipush 7, 2) := by decide +kernel
theorem dX8_runOn_65 : decode cX8_runOn 65 = .ok (.if_icmp .ne 12, 3) := by decide +kernel
theorem dX8_runOn_68 : decode cX8_runOn 68 = .ok (.aload_n 0, 1) := by decide +kernel
theorem dX8_runOn_69 : decode cX8_runOn 69 = .ok (.iload_n 3, 1) := by decide +kernel
theorem dX8_runOn_70 : decode cX8_runOn 70 = .ok (.invokevirtual 101, 3) := by decide +kernel
theorem dX8_runOn_73 : decode cX8_runOn 73 = .ok (.istore_n 3, 1) := by decide +kernel
theorem dX8_runOn_74 : decode cX8_runOn 74 = .ok (.goto 33, 3) := by decide +kernel
theorem dX8_runOn_77 : decode cX8_runOn 77 = .ok (.aload_n 1, 1) := by decide +kernel
theorem dX8_runOn_78 : decode cX8_runOn 78 = .ok (.aload_n 0, 1) := by decide +kernel
theorem dX8_runOn_79 : decode cX8_runOn 79 = .ok (.getfield 11, 3) := by decide +kernel
theorem dX8_runOn_82 : decode cX8_runOn 82 = .ok (.iload_n 3, 1) := by decide +kernel
theorem dX8_runOn_83 : decode cX8_runOn 83 = .ok (.iaload, 1) := by decide +kernel
theorem dX8_runOn_84 : decode cX8_runOn 84 = .ok (.aload_n 0, 1) := by decide +kernel
theorem dX8_runOn_85 : decode cX8_runOn 85 = .ok (.getfield 15, 3) := by decide +kernel
theorem dX8_runOn_88 : decode cX8_runOn 88 = .ok (.iload_n 3, 1) := by decide +kernel
theorem dX8_runOn_89 : decode cX8_runOn 89 = .ok (.iaload, 1) := by decide +kernel
theorem dX8_runOn_90 : decode cX8_runOn 90 = .ok (.invokestatic 105, 3) := by decide +kernel
theorem dX8_runOn_93 : decode cX8_runOn 93 = .ok (.ifCond .eq 12, 3) := by decide +kernel
theorem dX8_runOn_96 : decode cX8_runOn 96 = .ok (.iinc 2 1, 3) := by decide +kernel
theorem dX8_runOn_99 : decode cX8_runOn 99 = .ok (.iinc 3 1, 3) := by decide +kernel
theorem dX8_runOn_102 : decode cX8_runOn 102 = .ok (.goto 5, 3) := by decide +kernel
theorem dX8_runOn_105 : decode cX8_runOn 105 = .ok (.iload_n 2, 1) := by decide +kernel
theorem dX8_runOn_106 : decode cX8_runOn 106 = .ok (.ireturn, 1) := by decide +kernel
theorem dX8_runOn_107 : decode cX8_runOn 107 = .ok (.iinc 4 1, 3) := by decide +kernel
theorem dX8_runOn_110 : decode cX8_runOn 110 = .ok (.goto (-103), 3) := by decide +kernel
theorem dX8_runOn_113 : decode cX8_runOn 113 = .ok (.iload_n 2, 1) := by decide +kernel
theorem dX8_runOn_114 : decode cX8_runOn 114 = .ok (.ireturn, 1) := by decide +kernel
theorem dX8_stepBehindEnd_0 : decode cX8_stepBehindEnd 0 = .ok (.aload_n 0, 1) := by decide +kernel
theorem dX8_stepBehindEnd_1 : decode cX8_stepBehindEnd 1 = .ok (.getfield 15, 3) := by decide +kernel
theorem dX8_stepBehindEnd_4 : decode cX8_stepBehindEnd 4 = .ok (.iload_n 1, 1) := by decide +kernel
theorem dX8_stepBehindEnd_5 : decode cX8_stepBehindEnd 5 = .ok (.iaload, 1) := by decide +kernel
theorem dX8_stepBehindEnd_6 : decode cX8_stepBehindEnd 6 = .ok (.istore_n 2, 1) := by decide +kernel
theorem dX8_stepBehindEnd_7 : decode cX8_stepBehindEnd 7 = .ok (.aload_n 0, 1) := by decide +kernel
theorem dX8_stepBehindEnd_8 : decode cX8_stepBehindEnd 8 = .ok (.getfield 18, 3) := by decide +kernel
theorem dX8_stepBehindEnd_11 : decode cX8_stepBehindEnd 11 = .ok (.iload_n 2, 1) := by decide +kernel
theorem dX8_stepBehindEnd_12 : decode cX8_stepBehindEnd 12 = .ok (.dup2, 1) := by decide +kernel
theorem dX8_stepBehindEnd_13 : decode cX8_stepBehindEnd 13 = .ok (.iaload, 1) := by decide +kernel
theorem dX8_stepBehindEnd_14 : decode cX8_stepBehindEnd 14 = .ok (.iconst 1, 1) := by decide +kernel
theorem dX8_stepBehindEnd_15 : decode cX8_stepBehindEnd 15 = .ok (.isub, 1) := by decide +kernel
theorem dX8_stepBehindEnd_16 : decode cX8_stepBehindEnd 16 = .ok (.iastore, 1) := by decide +kernel
theorem dX8_stepBehindEnd_17 : decode cX8_stepBehindEnd 17 = .ok (.aload_n 0, 1) := by decide +kernel
theorem dX8_stepBehindEnd_18 : decode cX8_stepBehindEnd 18 = .ok (.getfield 18, 3) := by decide +kernel
theorem dX8_stepBehindEnd_21 : decode cX8_stepBehindEnd 21 = .ok (.iload_n 2, 1) := by decide +kernel
theorem dX8_stepBehindEnd_22 : decode cX8_stepBehindEnd 22 = .ok (.iaload, 1) := by decide +kernel
theorem dX8_stepBehindEnd_23 : decode cX8_stepBehindEnd 23 = .ok (.ifCond .le 9, 3) := by decide +kernel
theorem dX8_stepBehindEnd_26 : decode cX8_stepBehindEnd 26 = .ok (.iload_n 2, 1) := by decide +kernel
theorem dX8_stepBehindEnd_27 : decode cX8_stepBehindEnd 27 = .ok (.iconst 1, 1) := by decide +kernel
theorem dX8_stepBehindEnd_28 : decode cX8_stepBehindEnd 28 = .ok (.iadd, 1) := by decide +kernel
theorem dX8_stepBehindEnd_29 : decode cX8_stepBehindEnd 29 = .ok (.goto 6, 3) := by decide +kernel
theorem dX8_stepBehindEnd_32 : decode cX8_stepBehindEnd 32 = .ok (.iload_n 1, 1) := by decide +kernel
theorem dX8_stepBehindEnd_33 : decode cX8_stepBehindEnd 33 = .ok (.iconst 1, 1) := by decide +kernel
theorem dX8_stepBehindEnd_34 : decode cX8_stepBehindEnd 34 = .ok (.iadd, 1) := by decide +kernel
theorem dX8_stepBehindEnd_35 : decode cX8_stepBehindEnd 35 = .ok (.ireturn, 1) := by decide +kernel
theorem dX8_isDone_0 : decode cX8_isDone 0 = .ok (.iload_n 1, 1) := by decide +kernel
theorem dX8_isDone_1 : decode cX8_isDone 1 = .ok (.tableswitch 125 0 4 #[35, 53, 69, 87, 105], 35) := by decide +kernel
theorem dX8_isDone_36 : decode cX8_isDone 36 = .ok (.aload_n 0, 1) := by decide +kernel
theorem dX8_isDone_37 : decode cX8_isDone 37 = .ok (.iload_n 2, 1) := by decide +kernel
theorem dX8_isDone_38 : decode cX8_isDone 38 = .ok (.invokevirtual 109, 3) := by decide +kernel
theorem dX8_isDone_41 : decode cX8_isDone 41 = .ok (.ifCond .ne 5, 3) := by decide +kernel
theorem dX8_isDone_44 : decode cX8_isDone 44 = .ok (.iconst 0, 1) := by decide +kernel
theorem dX8_isDone_45 : decode cX8_isDone 45 = .ok (.ireturn, 1) := by decide +kernel
theorem dX8_isDone_46 : decode cX8_isDone 46 = .ok (.aload_n 0, 1) := by decide +kernel
theorem dX8_isDone_47 : decode cX8_isDone 47 = .ok (.iload_n 2, 1) := by decide +kernel
theorem dX8_isDone_48 : decode cX8_isDone 48 = .ok (.invokevirtual 114, 3) := by decide +kernel
theorem dX8_isDone_51 : decode cX8_isDone 51 = .ok (.pop, 1) := by decide +kernel
theorem dX8_isDone_52 : decode cX8_isDone 52 = .ok (.iconst 1, 1) := by decide +kernel
theorem dX8_isDone_53 : decode cX8_isDone 53 = .ok (.ireturn, 1) := by decide +kernel
theorem dX8_isDone_54 : decode cX8_isDone 54 = .ok (.aload_n 0, 1) := by decide +kernel
theorem dX8_isDone_55 : decode cX8_isDone 55 = .ok (.invokevirtual 117, 3) := by decide +kernel
theorem dX8_isDone_58 : decode cX8_isDone 58 = .ok (.ifCond .ne 5, 3) := by decide +kernel
theorem dX8_isDone_61 : decode cX8_isDone 61 = .ok (.iconst 0, 1) := by decide +kernel
theorem dX8_isDone_62 : decode cX8_isDone 62 = .ok (.ireturn, 1) := by decide +kernel
theorem dX8_isDone_63 : decode cX8_isDone 63 = .ok (.aload_n 0, 1) := by decide +kernel
theorem dX8_isDone_64 : decode cX8_isDone 64 = .ok (.invokevirtual 120, 3) := by decide +kernel
theorem dX8_isDone_67 : decode cX8_isDone 67 = .ok (.pop, 1) := by decide +kernel
theorem dX8_isDone_68 : decode cX8_isDone 68 = .ok (.iconst 1, 1) := by decide +kernel
theorem dX8_isDone_69 : decode cX8_isDone 69 = .ok (.ireturn, 1) := by decide +kernel
theorem dX8_isDone_70 : decode cX8_isDone 70 = .ok (.aload_n 0, 1) := by decide +kernel
theorem dX8_isDone_71 : decode cX8_isDone 71 = .ok (.iload_n 2, 1) := by decide +kernel
theorem dX8_isDone_72 : decode cX8_isDone 72 = .ok (.invokevirtual 124, 3) := by decide +kernel
theorem dX8_isDone_75 : decode cX8_isDone 75 = .ok (.ifCond .ne 5, 3) := by decide +kernel
theorem dX8_isDone_78 : decode cX8_isDone 78 = .ok (.iconst 0, 1) := by decide +kernel
theorem dX8_isDone_79 : decode cX8_isDone 79 = .ok (.ireturn, 1) := by decide +kernel
theorem dX8_isDone_80 : decode cX8_isDone 80 = .ok (.aload_n 0, 1) := by decide +kernel
theorem dX8_isDone_81 : decode cX8_isDone 81 = .ok (.iload_n 2, 1) := by decide +kernel
theorem dX8_isDone_82 : decode cX8_isDone 82 = .ok (.invokevirtual 127, 3) := by decide +kernel
theorem dX8_isDone_85 : decode cX8_isDone 85 = .ok (.pop, 1) := by decide +kernel
theorem dX8_isDone_86 : decode cX8_isDone 86 = .ok (.iconst 1, 1) := by decide +kernel
theorem dX8_isDone_87 : decode cX8_isDone 87 = .ok (.ireturn, 1) := by decide +kernel
theorem dX8_isDone_88 : decode cX8_isDone 88 = .ok (.aload_n 0, 1) := by decide +kernel
theorem dX8_isDone_89 : decode cX8_isDone 89 = .ok (.iload_n 2, 1) := by decide +kernel
theorem dX8_isDone_90 : decode cX8_isDone 90 = .ok (.invokevirtual 130, 3) := by decide +kernel
theorem dX8_isDone_93 : decode cX8_isDone 93 = .ok (.ifCond .ne 5, 3) := by decide +kernel
theorem dX8_isDone_96 : decode cX8_isDone 96 = .ok (.iconst 0, 1) := by decide +kernel
theorem dX8_isDone_97 : decode cX8_isDone 97 = .ok (.ireturn, 1) := by decide +kernel
theorem dX8_isDone_98 : decode cX8_isDone 98 = .ok (.aload_n 0, 1) := by decide +kernel
theorem dX8_isDone_99 : decode cX8_isDone 99 = .ok (.iload_n 2, 1) := by decide +kernel
theorem dX8_isDone_100 : decode cX8_isDone 100 = .ok (.invokevirtual 133, 3) := by decide +kernel
theorem dX8_isDone_103 : decode cX8_isDone 103 = .ok (.pop, 1) := by decide +kernel
theorem dX8_isDone_104 : decode cX8_isDone 104 = .ok (.iconst 1, 1) := by decide +kernel
theorem dX8_isDone_105 : decode cX8_isDone 105 = .ok (.ireturn, 1) := by decide +kernel
theorem dX8_isDone_106 : decode cX8_isDone 106 = .ok (.iload_n 2, 1) := by decide +kernel
theorem dX8_isDone_107 : decode cX8_isDone 107 = .ok (.invokestatic 136, 3) := by decide +kernel
theorem dX8_isDone_110 : decode cX8_isDone 110 = .ok (.ifCond .ne 5, 3) := by decide +kernel
theorem dX8_isDone_113 : decode cX8_isDone 113 = .ok (.iconst 0, 1) := by decide +kernel
theorem dX8_isDone_114 : decode cX8_isDone 114 = .ok (.ireturn, 1) := by decide +kernel
theorem dX8_isDone_115 : decode cX8_isDone 115 = .ok (.aload_n 0, 1) := by decide +kernel
theorem dX8_isDone_116 : decode cX8_isDone 116 = .ok (.getfield 141, 3) := by decide +kernel
theorem dX8_isDone_119 : decode cX8_isDone 119 = .ok (.iload_n 2, 1) := by decide +kernel
theorem dX8_isDone_120 : decode cX8_isDone 120 = .ok (.invokevirtual 145, 3) := by decide +kernel
theorem dX8_isDone_123 : decode cX8_isDone 123 = .ok (.pop, 1) := by decide +kernel
theorem dX8_isDone_124 : decode cX8_isDone 124 = .ok (.iconst 1, 1) := by decide +kernel
theorem dX8_isDone_125 : decode cX8_isDone 125 = .ok (.ireturn, 1) := by decide +kernel
theorem dX8_isDone_126 : decode cX8_isDone 126 = .ok (.iload_n 2, 1) := by decide +kernel
theorem dX8_isDone_127 : decode cX8_isDone 127 = .ok (.invokestatic 148, 3) := by decide +kernel
theorem dX8_isDone_130 : decode cX8_isDone 130 = .ok (.ifCond .ne 5, 3) := by decide +kernel
theorem dX8_isDone_133 : decode cX8_isDone 133 = .ok (.iconst 0, 1) := by decide +kernel
theorem dX8_isDone_134 : decode cX8_isDone 134 = .ok (.ireturn, 1) := by decide +kernel
theorem dX8_isDone_135 : decode cX8_isDone 135 = .ok (.aload_n 0, 1) := by decide +kernel
theorem dX8_isDone_136 : decode cX8_isDone 136 = .ok (.iload_n 2, 1) := by decide +kernel
theorem dX8_isDone_137 : decode cX8_isDone 137 = .ok (.putfield 151, 3) := by decide +kernel
theorem dX8_isDone_140 : decode cX8_isDone 140 = .ok (.iconst 1, 1) := by decide +kernel
theorem dX8_isDone_141 : decode cX8_isDone 141 = .ok (.ireturn, 1) := by decide +kernel
theorem dX9_init_0 : decode cX9_init 0 = .ok (.aload_n 0, 1) := by decide +kernel
theorem dX9_init_1 : decode cX9_init 1 = .ok (.invokespecial 3, 3) := by decide +kernel
theorem dX9_init_4 : decode cX9_init 4 = .ok (.return_, 1) := by decide +kernel
theorem dX9_readInto_0 : decode cX9_readInto 0 = .ok (.aload_n 1, 1) := by decide +kernel
theorem dX9_readInto_1 : decode cX9_readInto 1 = .ok (.invokevirtual 9, 3) := by decide +kernel
theorem dX9_readInto_4 : decode cX9_readInto 4 = .ok (.aload_n 0, 1) := by decide +kernel
theorem dX9_readInto_5 : decode cX9_readInto 5 = .ok (.iconst 0, 1) := by decide +kernel
theorem dX9_readInto_6 : decode cX9_readInto 6 = .ok (.putfield 14, 3) := by decide +kernel
theorem dX9_readInto_9 : decode cX9_readInto 9 = .ok (.aload_n 0, 1) := by decide +kernel
theorem dX9_readInto_10 : decode cX9_readInto 10 = .ok (.iconst 0, 1) := by decide +kernel
theorem dX9_readInto_11 : decode cX9_readInto 11 = .ok (.putfield 20, 3) := by decide +kernel
theorem dX9_readInto_14 : decode cX9_readInto 14 = .ok (.aload_n 0, 1) := by decide +kernel
theorem dX9_readInto_15 : decode cX9_readInto 15 = .ok (.iconst 0, 1) := by decide +kernel
theorem dX9_readInto_16 : decode cX9_readInto 16 = .ok (.putfield 23, 3) := by decide +kernel
theorem dX9_readInto_19 : decode cX9_readInto 19 = .ok (.aload_n 2, 1) := by decide +kernel
theorem dX9_readInto_20 : decode cX9_readInto 20 = .ok (.invokevirtual 26, 3) := by decide +kernel
theorem dX9_readInto_23 : decode cX9_readInto 23 = .ok (.iconst 0, 1) := by decide +kernel
theorem dX9_readInto_24 : decode cX9_readInto 24 = .ok (.istore_n 3, 1) := by decide +kernel
theorem dX9_readInto_25 : decode cX9_readInto 25 = .ok (.iload_n 3, 1) := by decide +kernel
theorem dX9_readInto_26 : decode cX9_readInto 26 = .ok (.sipush 500, 3) := by decide +kernel
theorem dX9_readInto_29 : decode cX9_readInto 29 = .ok (.if_icmp .ge 36, 3) := by decide +kernel
theorem dX9_readInto_32 : decode cX9_readInto 32 = .ok (.aload_n 2, 1) := by decide +kernel
theorem dX9_readInto_33 : decode cX9_readInto 33 = .ok (.invokevirtual 31, 3) := by decide +kernel
theorem dX9_readInto_36 : decode cX9_readInto 36 = .ok (.ifCond .ne 29, 3) := by decide +kernel
theorem dX9_readInto_39 : decode cX9_readInto 39 = .ok (.aload_n 0, 1) := by decide +kernel
theorem dX9_readInto_40 : decode cX9_readInto 40 = .ok (.aload_n 1, 1) := by decide +kernel
theorem dX9_readInto_41 : decode cX9_readInto 41 = .ok (.aload_n 2, 1) := by decide +kernel
theorem dX9_readInto_42 : decode cX9_readInto 42 = .ok (.invokevirtual 35, 3) := by decide +kernel
theorem dX9_readInto_45 : decode cX9_readInto 45 = .ok (.ifCond .eq 12, 3) := by decide +kernel
theorem dX9_readInto_48 : decode cX9_readInto 48 = .ok (.aload_n 2, 1) := by decide +kernel
theorem dX9_readInto_49 : decode cX9_readInto 49 = .ok (.bipush 59, 2) := by decide +kernel
theorem dX9_readInto_51 : decode cX9_readInto 51 = .ok (.invokevirtual 39, 3) := by decide +kernel
theorem dX9_readInto_54 : decode cX9_readInto 54 = .ok (.ifCond .ne 5, 3) := by decide +kernel
theorem dX9_readInto_57 : decode cX9_readInto 57 = .ok (.iconst 0, 1) := by decide +kernel
theorem dX9_readInto_58 : decode cX9_readInto 58 = .ok (.ireturn, 1) := by decide +kernel
theorem dX9_readInto_59 : decode cX9_readInto 59 = .ok (.iinc 3 1, 3) := by decide +kernel
theorem dX9_readInto_62 : decode cX9_readInto 62 = .ok (.goto (-37), 3) := by decide +kernel
theorem dX9_readInto_65 : decode cX9_readInto 65 = .ok (.iconst 1, 1) := by decide +kernel
theorem dX9_readInto_66 : decode cX9_readInto 66 = .ok (.ireturn, 1) := by decide +kernel
theorem dX9_readStatement_0 : decode cX9_readStatement 0 = .ok (.aload_n 2, 1) := by decide +kernel
theorem dX9_readStatement_1 : decode cX9_readStatement 1 = .ok (.ldc 43, 2) := by decide +kernel
theorem dX9_readStatement_3 : decode cX9_readStatement 3 = .ok (.invokevirtual 45, 3) := by decide +kernel
theorem dX9_readStatement_6 : decode cX9_readStatement 6 = .ok (.ifCond .eq 13, 3) := by decide +kernel
theorem dX9_readStatement_9 : decode cX9_readStatement 9 = .ok (.aload_n 0, 1) := by decide +kernel
theorem dX9_readStatement_10 : decode cX9_readStatement 10 = .ok (.aload_n 1, 1) := by decide +kernel
theorem dX9_readStatement_11 : decode cX9_readStatement 11 = .ok (.getfield 49, 3) := by decide +kernel
theorem dX9_readStatement_14 : decode cX9_readStatement 14 = .ok (.aload_n 2, 1) := by decide +kernel
theorem dX9_readStatement_15 : decode cX9_readStatement 15 = .ok (.invokevirtual 53, 3) := by decide +kernel
theorem dX9_readStatement_18 : decode cX9_readStatement 18 = .ok (.ireturn, 1) := by decide +kernel
theorem dX9_readStatement_19 : decode cX9_readStatement 19 = .ok (.aload_n 2, 1) := by decide +kernel
theorem dX9_readStatement_20 : decode cX9_readStatement 20 = .ok (.ldc 57, 2) := by decide +kernel
theorem dX9_readStatement_22 : decode cX9_readStatement 22 = .ok (.invokevirtual 45, 3) := by decide +kernel
theorem dX9_readStatement_25 : decode cX9_readStatement 25 = .ok (.ifCond .eq 13, 3) := by decide +kernel
theorem dX9_readStatement_28 : decode cX9_readStatement 28 = .ok (.aload_n 0, 1) := by decide +kernel
theorem dX9_readStatement_29 : decode cX9_readStatement 29 = .ok (.aload_n 1, 1) := by decide +kernel
theorem dX9_readStatement_30 : decode cX9_readStatement 30 = .ok (.getfield 59, 3) := by decide +kernel
theorem dX9_readStatement_33 : decode cX9_readStatement 33 = .ok (.aload_n 2, 1) := by decide +kernel
theorem dX9_readStatement_34 : decode cX9_readStatement 34 = .ok (.invokevirtual 62, 3) := by decide +kernel
theorem dX9_readStatement_37 : decode cX9_readStatement 37 = .ok (.ireturn, 1) := by decide +kernel
theorem dX9_readStatement_38 : decode cX9_readStatement 38 = .ok (.aload_n 2, 1) := by decide +kernel
theorem dX9_readStatement_39 : decode cX9_readStatement 39 = .ok (.ldc 66, 2) := by decide +kernel
theorem dX9_readStatement_41 : decode cX9_readStatement 41 = .ok (.invokevirtual 45, 3) := by decide +kernel
theorem dX9_readStatement_44 : decode cX9_readStatement 44 = .ok (.ifCond .eq 13, 3) := by decide +kernel
theorem dX9_readStatement_47 : decode cX9_readStatement 47 = .ok (.aload_n 0, 1) := by decide +kernel
theorem dX9_readStatement_48 : decode cX9_readStatement 48 = .ok (.aload_n 1, 1) := by decide +kernel
theorem dX9_readStatement_49 : decode cX9_readStatement 49 = .ok (.getfield 59, 3) := by decide +kernel
theorem dX9_readStatement_52 : decode cX9_readStatement 52 = .ok (.aload_n 2, 1) := by decide +kernel
theorem dX9_readStatement_53 : decode cX9_readStatement 53 = .ok (.invokevirtual 68, 3) := by decide +kernel
theorem dX9_readStatement_56 : decode cX9_readStatement 56 = .ok (.ireturn, 1) := by decide +kernel
theorem dX9_readStatement_57 : decode cX9_readStatement 57 = .ok (.aload_n 2, 1) := by decide +kernel
theorem dX9_readStatement_58 : decode cX9_readStatement 58 = .ok (.ldc 71, 2) := by decide +kernel
theorem dX9_readStatement_60 : decode cX9_readStatement 60 = .ok (.invokevirtual 45, 3) := by decide +kernel
theorem dX9_readStatement_63 : decode cX9_readStatement 63 = .ok (.ifCond .eq 13, 3) := by decide +kernel
theorem dX9_readStatement_66 : decode cX9_readStatement 66 = .ok (.aload_n 0, 1) := by decide +kernel
theorem dX9_readStatement_67 : decode cX9_readStatement 67 = .ok (.aload_n 1, 1) := by decide +kernel
theorem dX9_readStatement_68 : decode cX9_readStatement 68 = .ok (.getfield 73, 3) := by decide +kernel
theorem dX9_readStatement_71 : decode cX9_readStatement 71 = .ok (.aload_n 2, 1) := by decide +kernel
theorem dX9_readStatement_72 : decode cX9_readStatement 72 = .ok (.invokevirtual 77, 3) := by decide +kernel
theorem dX9_readStatement_75 : decode cX9_readStatement 75 = .ok (.ireturn, 1) := by decide +kernel
theorem dX9_readStatement_76 : decode cX9_readStatement 76 = .ok (.aload_n 2, 1) := by decide +kernel
theorem dX9_readStatement_77 : decode cX9_readStatement 77 = .ok (.ldc 81, 2) := by decide +kernel
theorem dX9_readStatement_79 : decode cX9_readStatement 79 = .ok (.invokevirtual 45, 3) := by decide +kernel
theorem dX9_readStatement_82 : decode cX9_readStatement 82 = .ok (.ifCond .eq 13, 3) := by decide +kernel
theorem dX9_readStatement_85 : decode cX9_readStatement 85 = .ok (.aload_n 0, 1) := by decide +kernel
theorem dX9_readStatement_86 : decode cX9_readStatement 86 = .ok (.aload_n 1, 1) := by decide +kernel
theorem dX9_readStatement_87 : decode cX9_readStatement 87 = .ok (.getfield 83, 3) := by decide +kernel
theorem dX9_readStatement_90 : decode cX9_readStatement 90 = .ok (.aload_n 2, 1) := by decide +kernel
theorem dX9_readStatement_91 : decode cX9_readStatement 91 = .ok (.invokevirtual 87, 3) := by decide +kernel
theorem dX9_readStatement_94 : decode cX9_readStatement 94 = .ok (.ireturn, 1) := by decide +kernel
theorem dX9_readStatement_95 : decode cX9_readStatement 95 = .ok (.aload_n 2, 1) := by decide +kernel
theorem dX9_readStatement_96 : decode cX9_readStatement 96 = .ok (.ldc 91, 2) := by decide +kernel
theorem dX9_readStatement_98 : decode cX9_readStatement 98 = .ok (.invokevirtual 45, 3) := by decide +kernel
theorem dX9_readStatement_101 : decode cX9_readStatement 101 = .ok (.ifCond .eq 13, 3) := by decide +kernel
theorem dX9_readStatement_104 : decode cX9_readStatement 104 = .ok (.aload_n 0, 1) := by decide +kernel
theorem dX9_readStatement_105 : decode cX9_readStatement 105 = .ok (.aload_n 1, 1) := by decide +kernel
theorem dX9_readStatement_106 : decode cX9_readStatement 106 = .ok (.getfield 83, 3) := by decide +kernel
theorem dX9_readStatement_109 : decode cX9_readStatement 109 = .ok (.aload_n 2, 1) := by decide +kernel
theorem dX9_readStatement_110 : decode cX9_readStatement 110 = .ok (.invokevirtual 93, 3) := by decide +kernel
theorem dX9_readStatement_113 : decode cX9_readStatement 113 = .ok (.ireturn, 1) := by decide +kernel
theorem dX9_readStatement_114 : decode cX9_readStatement 114 = .ok (.aload_n 2, 1) := by decide +kernel
theorem dX9_readStatement_115 : decode cX9_readStatement 115 = .ok (.ldc 96, 2) := by decide +kernel
theorem dX9_readStatement_117 : decode cX9_readStatement 117 = .ok (.invokevirtual 45, 3) := by decide +kernel
theorem dX9_readStatement_120 : decode cX9_readStatement 120 = .ok (.ifCond .eq 10, 3) := by decide +kernel
theorem dX9_readStatement_123 : decode cX9_readStatement 123 = .ok (.aload_n 0, 1) := by decide +kernel
theorem dX9_readStatement_124 : decode cX9_readStatement 124 = .ok (.aload_n 1, 1) := by decide +kernel
theorem dX9_readStatement_125 : decode cX9_readStatement 125 = .ok (.aload_n 2, 1) := by decide +kernel
theorem dX9_readStatement_126 : decode cX9_readStatement 126 = .ok (.invokevirtual 98, 3) := by decide +kernel
theorem dX9_readStatement_129 : decode cX9_readStatement 129 = .ok (.ireturn, 1) := by decide +kernel
theorem dX9_readStatement_130 : decode cX9_readStatement 130 = .ok (.aload_n 2, 1) := by decide +kernel
theorem dX9_readStatement_131 : decode cX9_readStatement 131 = .ok (.iconst 1, 1) := by decide +kernel
theorem dX9_readStatement_132 : decode cX9_readStatement 132 = .ok (.invokevirtual 101, 3) := by decide +kernel
theorem dX9_readStatement_135 : decode cX9_readStatement 135 = .ok (.ireturn, 1) := by decide +kernel
theorem dX9_readArc_0 : decode cX9_readArc 0 = .ok (.aload_n 1, 1) := by decide +kernel
theorem dX9_readArc_1 : decode cX9_readArc 1 = .ok (.getfield 105, 3) := by decide +kernel
theorem dX9_readArc_4 : decode cX9_readArc 4 = .ok (.bipush 8, 2) := by decide +kernel
theorem dX9_readArc_6 : decode cX9_readArc 6 = .ok (.if_icmp .lt 9, 3) := by decide +kernel
theorem dX9_readArc_9 : decode cX9_readArc 9 = .ok (.aload_n 2, 1) := by decide +kernel
theorem dX9_readArc_10 : decode cX9_readArc 10 = .ok (.iconst 5, 1) := by decide +kernel
theorem dX9_readArc_11 : decode cX9_readArc 11 = .ok (.invokevirtual 101, 3) := by decide +kernel
theorem dX9_readArc_14 : decode cX9_readArc 14 = .ok (.ireturn, 1) := by decide +kernel
theorem dX9_readArc_15 : decode cX9_readArc 15 = .ok (.aload_n 2, 1) := by decide +kernel
theorem dX9_readArc_16 : decode cX9_readArc 16 = .ok (.invokevirtual 111, 3) := by decide +kernel
theorem dX9_readArc_19 : decode cX9_readArc 19 = .ok (.aload_n 2, 1) := by decide +kernel
theorem dX9_readArc_20 : decode cX9_readArc 20 = .ok (.iconst 1, 1) := by decide +kernel
theorem dX9_readArc_21 : decode cX9_readArc 21 = .ok (.bipush 99, 2) := by decide +kernel
theorem dX9_readArc_23 : decode cX9_readArc 23 = .ok (.invokevirtual 114, 3) := by decide +kernel
theorem dX9_readArc_26 : decode cX9_readArc 26 = .ok (.ifCond .ne 5, 3) := by decide +kernel
theorem dX9_readArc_29 : decode cX9_readArc 29 = .ok (.iconst 0, 1) := by decide +kernel
theorem dX9_readArc_30 : decode cX9_readArc 30 = .ok (.ireturn, 1) := by decide +kernel
theorem dX9_readArc_31 : decode cX9_readArc 31 = .ok (.aload_n 2, 1) := by decide +kernel
theorem dX9_readArc_32 : decode cX9_readArc 32 = .ok (.getfield 118, 3) := by decide +kernel
theorem dX9_readArc_35 : decode cX9_readArc 35 = .ok (.istore_n 3, 1) := by decide +kernel
theorem dX9_readArc_36 : decode cX9_readArc 36 = .ok (.aload_n 2, 1) := by decide +kernel
theorem dX9_readArc_37 : decode cX9_readArc 37 = .ok (.iconst 1, 1) := by decide +kernel
theorem dX9_readArc_38 : decode cX9_readArc 38 = .ok (.sipush 180, 3) := by decide +kernel
theorem dX9_readArc_41 : decode cX9_readArc 41 = .ok (.invokevirtual 114, 3) := by decide +kernel
theorem dX9_readArc_44 : decode cX9_readArc 44 = .ok (.ifCond .ne 5, 3) := by decide +kernel
theorem dX9_readArc_47 : decode cX9_readArc 47 = .ok (.iconst 0, 1) := by decide +kernel
theorem dX9_readArc_48 : decode cX9_readArc 48 = .ok (.ireturn, 1) := by decide +kernel
theorem dX9_readArc_49 : decode cX9_readArc 49 = .ok (.aload_n 2, 1) := by decide +kernel
theorem dX9_readArc_50 : decode cX9_readArc 50 = .ok (.getfield 118, 3) := by decide +kernel
theorem dX9_readArc_53 : decode cX9_readArc 53 = .ok (.istore 4, 2) := by decide +kernel
theorem dX9_readArc_55 : decode cX9_readArc 55 = .ok (.aload_n 2, 1) := by decide +kernel
theorem dX9_readArc_56 : decode cX9_readArc 56 = .ok (.ldc 121, 2) := by decide +kernel
theorem dX9_readArc_58 : decode cX9_readArc 58 = .ok (.invokevirtual 123, 3) := by decide +kernel
theorem dX9_readArc_61 : decode cX9_readArc 61 = .ok (.istore 5, 2) := by decide +kernel
theorem dX9_readArc_63 : decode cX9_readArc 63 = .ok (.bipush 30, 2) := by decide +kernel
theorem dX9_readArc_65 : decode cX9_readArc 65 = .ok (.istore 6, 2) := by decide +kernel
theorem dX9_readArc_67 : decode cX9_readArc 67 = .ok (.aload_n 2, 1) := by decide +kernel
theorem dX9_readArc_68 : decode cX9_readArc 68 = .ok (.ldc 126, 2) := by decide +kernel
theorem dX9_readArc_70 : decode cX9_readArc 70 = .ok (.invokevirtual 123, 3) := by decide +kernel
theorem dX9_readArc_73 : decode cX9_readArc 73 = .ok (.ifCond .eq 21, 3) := by decide +kernel
theorem dX9_readArc_76 : decode cX9_readArc 76 = .ok (.aload_n 2, 1) := by decide +kernel
theorem dX9_readArc_77 : decode cX9_readArc 77 = .ok (.iconst 0, 1) := by decide +kernel
theorem dX9_readArc_78 : decode cX9_readArc 78 = .ok (.bipush 99, 2) := by decide +kernel
theorem dX9_readArc_80 : decode cX9_readArc 80 = .ok (.invokevirtual 114, 3) := by decide +kernel
theorem dX9_readArc_83 : decode cX9_readArc 83 = .ok (.ifCond .ne 5, 3) := by decide +kernel
theorem dX9_readArc_86 : decode cX9_readArc 86 = .ok (.iconst 0, 1) := by decide +kernel
theorem dX9_readArc_87 : decode cX9_readArc 87 = .ok (.ireturn, 1) := by decide +kernel
theorem dX9_readArc_88 : decode cX9_readArc 88 = .ok (.aload_n 2, 1) := by decide +kernel
theorem dX9_readArc_89 : decode cX9_readArc 89 = .ok (.getfield 118, 3) := by decide +kernel
theorem dX9_readArc_92 : decode cX9_readArc 92 = .ok (.istore 6, 2) := by decide +kernel
theorem dX9_readArc_94 : decode cX9_readArc 94 = .ok (.aload_n 1, 1) := by decide +kernel
theorem dX9_readArc_95 : decode cX9_readArc 95 = .ok (.iload_n 3, 1) := by decide +kernel
theorem dX9_readArc_96 : decode cX9_readArc 96 = .ok (.iload 4, 2) := by decide +kernel
theorem dX9_readArc_98 : decode cX9_readArc 98 = .ok (.iload 5, 2) := by decide +kernel
theorem dX9_readArc_100 : decode cX9_readArc 100 = .ok (.iload 6, 2) := by decide +kernel
theorem dX9_readArc_102 : decode cX9_readArc 102 = .ok (.invokevirtual 128, 3) := by decide +kernel
theorem dX9_readArc_105 : decode cX9_readArc 105 = .ok (.iconst 1, 1) := by decide +kernel
theorem dX9_readArc_106 : decode cX9_readArc 106 = .ok (.ireturn, 1) := by decide +kernel
theorem dX9_readName_0 : decode cX9_readName 0 = .ok (.aload_n 2, 1) := by decide +kernel
theorem dX9_readName_1 : decode cX9_readName 1 = .ok (.invokevirtual 111, 3) := by decide +kernel
theorem dX9_readName_4 : decode cX9_readName 4 = .ok (.aload_n 2, 1) := by decide +kernel
theorem dX9_readName_5 : decode cX9_readName 5 = .ok (.invokevirtual 132, 3) := by decide +kernel
theorem dX9_readName_8 : decode cX9_readName 8 = .ok (.ifCond .ne 9, 3) := by decide +kernel
theorem dX9_readName_11 : decode cX9_readName 11 = .ok (.aload_n 2, 1) := by decide +kernel
theorem dX9_readName_12 : decode cX9_readName 12 = .ok (.iconst 1, 1) := by decide +kernel
theorem dX9_readName_13 : decode cX9_readName 13 = .ok (.invokevirtual 101, 3) := by decide +kernel
theorem dX9_readName_16 : decode cX9_readName 16 = .ok (.ireturn, 1) := by decide +kernel
theorem dX9_readName_17 : decode cX9_readName 17 = .ok (.aload_n 1, 1) := by decide +kernel
theorem dX9_readName_18 : decode cX9_readName 18 = .ok (.getfield 135, 3) := by decide +kernel
theorem dX9_readName_21 : decode cX9_readName 21 = .ok (.aload_n 2, 1) := by decide +kernel
theorem dX9_readName_22 : decode cX9_readName 22 = .ok (.getfield 140, 3) := by decide +kernel
theorem dX9_readName_25 : decode cX9_readName 25 = .ok (.iadd, 1) := by decide +kernel
theorem dX9_readName_26 : decode cX9_readName 26 = .ok (.aload_n 2, 1) := by decide +kernel
theorem dX9_readName_27 : decode cX9_readName 27 = .ok (.getfield 143, 3) := by decide +kernel
theorem dX9_readName_30 : decode cX9_readName 30 = .ok (.isub, 1) := by decide +kernel
theorem dX9_readName_31 : decode cX9_readName 31 = .ok (.bipush 20, 2) := by decide +kernel
theorem dX9_readName_33 : decode cX9_readName 33 = .ok (.if_icmp .le 9, 3) := by decide +kernel
theorem dX9_readName_36 : decode cX9_readName 36 = .ok (.aload_n 2, 1) := by decide +kernel
theorem dX9_readName_37 : decode cX9_readName 37 = .ok (.iconst 5, 1) := by decide +kernel
theorem dX9_readName_38 : decode cX9_readName 38 = .ok (.invokevirtual 101, 3) := by decide +kernel
theorem dX9_readName_41 : decode cX9_readName 41 = .ok (.ireturn, 1) := by decide +kernel
theorem dX9_readName_42 : decode cX9_readName 42 = .ok (.aload_n 1, 1) := by decide +kernel
theorem dX9_readName_43 : decode cX9_readName 43 = .ok (.aload_n 2, 1) := by decide +kernel
theorem dX9_readName_44 : decode cX9_readName 44 = .ok (.aload_n 2, 1) := by decide +kernel
theorem dX9_readName_45 : decode cX9_readName 45 = .ok (.getfield 143, 3) := by decide +kernel
theorem dX9_readName_48 : decode cX9_readName 48 = .ok (.aload_n 2, 1) := by decide +kernel
theorem dX9_readName_49 : decode cX9_readName 49 = .ok (.getfield 140, 3) := by decide +kernel
theorem dX9_readName_52 : decode cX9_readName 52 = .ok (.invokevirtual 146, 3) := by decide +kernel
theorem dX9_readName_55 : decode cX9_readName 55 = .ok (.aload_n 2, 1) := by decide +kernel
theorem dX9_readName_56 : decode cX9_readName 56 = .ok (.invokevirtual 111, 3) := by decide +kernel
theorem dX9_readName_59 : decode cX9_readName 59 = .ok (.iconst 1, 1) := by decide +kernel
theorem dX9_readName_60 : decode cX9_readName 60 = .ok (.ireturn, 1) := by decide +kernel
theorem dX9_readWide_0 : decode cX9_readWide 0 = .ok (.aload_n 2, 1) := by decide +kernel
theorem dX9_readWide_1 : decode cX9_readWide 1 = .ok (.invokevirtual 111, 3) := by decide +kernel
theorem dX9_readWide_4 : decode cX9_readWide 4 = .ok (.aload_n 2, 1) := by decide +kernel
theorem dX9_readWide_5 : decode cX9_readWide 5 = .ok (.invokevirtual 132, 3) := by decide +kernel
theorem dX9_readWide_8 : decode cX9_readWide 8 = .ok (.ifCond .ne 9, 3) := by decide +kernel
theorem dX9_readWide_11 : decode cX9_readWide 11 = .ok (.aload_n 2, 1) := by decide +kernel
theorem dX9_readWide_12 : decode cX9_readWide 12 = .ok (.iconst 1, 1) := by decide +kernel
theorem dX9_readWide_13 : decode cX9_readWide 13 = .ok (.invokevirtual 101, 3) := by decide +kernel
theorem dX9_readWide_16 : decode cX9_readWide 16 = .ok (.ireturn, 1) := by decide +kernel
theorem dX9_readWide_17 : decode cX9_readWide 17 = .ok (.aload_n 2, 1) := by decide +kernel
theorem dX9_readWide_18 : decode cX9_readWide 18 = .ok (.getfield 143, 3) := by decide +kernel
theorem dX9_readWide_21 : decode cX9_readWide 21 = .ok (.istore_n 3, 1) := by decide +kernel
theorem dX9_readWide_22 : decode cX9_readWide 22 = .ok (.aload_n 2, 1) := by decide +kernel
theorem dX9_readWide_23 : decode cX9_readWide 23 = .ok (.getfield 140, 3) := by decide +kernel
theorem dX9_readWide_26 : decode cX9_readWide 26 = .ok (.istore 4, 2) := by decide +kernel
theorem dX9_readWide_28 : decode cX9_readWide 28 = .ok (.aload_n 2, 1) := by decide +kernel
theorem dX9_readWide_29 : decode cX9_readWide 29 = .ok (.invokevirtual 111, 3) := by decide +kernel
theorem dX9_readWide_32 : decode cX9_readWide 32 = .ok (.aload_n 2, 1) := by decide +kernel
theorem dX9_readWide_33 : decode cX9_readWide 33 = .ok (.iconst 1, 1) := by decide +kernel
theorem dX9_readWide_34 : decode cX9_readWide 34 = .ok (.bipush 99, 2) := by decide +kernel
theorem dX9_readWide_36 : decode cX9_readWide 36 = .ok (.invokevirtual 114, 3) := by decide +kernel
theorem dX9_readWide_39 : decode cX9_readWide 39 = .ok (.ifCond .ne 5, 3) := by decide +kernel
theorem dX9_readWide_42 : decode cX9_readWide 42 = .ok (.iconst 0, 1) := by decide +kernel
theorem dX9_readWide_43 : decode cX9_readWide 43 = .ok (.ireturn, 1) := by decide +kernel
theorem dX9_readWide_44 : decode cX9_readWide 44 = .ok (.aload_n 1, 1) := by decide +kernel
theorem dX9_readWide_45 : decode cX9_readWide 45 = .ok (.aload_n 2, 1) := by decide +kernel
theorem dX9_readWide_46 : decode cX9_readWide 46 = .ok (.iload_n 3, 1) := by decide +kernel
theorem dX9_readWide_47 : decode cX9_readWide 47 = .ok (.iload 4, 2) := by decide +kernel
theorem dX9_readWide_49 : decode cX9_readWide 49 = .ok (.aload_n 2, 1) := by decide +kernel
theorem dX9_readWide_50 : decode cX9_readWide 50 = .ok (.getfield 118, 3) := by decide +kernel
theorem dX9_readWide_53 : decode cX9_readWide 53 = .ok (.invokevirtual 150, 3) := by decide +kernel
theorem dX9_readWide_56 : decode cX9_readWide 56 = .ok (.iconst 1, 1) := by decide +kernel
theorem dX9_readWide_57 : decode cX9_readWide 57 = .ok (.ireturn, 1) := by decide +kernel
theorem dX9_readFlourish_0 : decode cX9_readFlourish 0 = .ok (.aload_n 1, 1) := by decide +kernel
theorem dX9_readFlourish_1 : decode cX9_readFlourish 1 = .ok (.getfield 154, 3) := by decide +kernel
theorem dX9_readFlourish_4 : decode cX9_readFlourish 4 = .ok (.bipush 6, 2) := by decide +kernel
theorem dX9_readFlourish_6 : decode cX9_readFlourish 6 = .ok (.if_icmp .lt 9, 3) := by decide +kernel
theorem dX9_readFlourish_9 : decode cX9_readFlourish 9 = .ok (.aload_n 2, 1) := by decide +kernel
theorem dX9_readFlourish_10 : decode cX9_readFlourish 10 = .ok (.iconst 5, 1) := by decide +kernel
theorem dX9_readFlourish_11 : decode cX9_readFlourish 11 = .ok (.invokevirtual 101, 3) := by decide +kernel
theorem dX9_readFlourish_14 : decode cX9_readFlourish 14 = .ok (.ireturn, 1) := by decide +kernel
theorem dX9_readFlourish_15 : decode cX9_readFlourish 15 = .ok (.aload_n 2, 1) := by decide +kernel
theorem dX9_readFlourish_16 : decode cX9_readFlourish 16 = .ok (.invokevirtual 111, 3) := by decide +kernel
theorem dX9_readFlourish_19 : decode cX9_readFlourish 19 = .ok (.aload_n 2, 1) := by decide +kernel
theorem dX9_readFlourish_20 : decode cX9_readFlourish 20 = .ok (.invokevirtual 132, 3) := by decide +kernel
theorem dX9_readFlourish_23 : decode cX9_readFlourish 23 = .ok (.ifCond .ne 9, 3) := by decide +kernel
theorem dX9_readFlourish_26 : decode cX9_readFlourish 26 = .ok (.aload_n 2, 1) := by decide +kernel
theorem dX9_readFlourish_27 : decode cX9_readFlourish 27 = .ok (.iconst 1, 1) := by decide +kernel
theorem dX9_readFlourish_28 : decode cX9_readFlourish 28 = .ok (.invokevirtual 101, 3) := by decide +kernel
theorem dX9_readFlourish_31 : decode cX9_readFlourish 31 = .ok (.ireturn, 1) := by decide +kernel
theorem dX9_readFlourish_32 : decode cX9_readFlourish 32 = .ok (.aload_n 1, 1) := by decide +kernel
theorem dX9_readFlourish_33 : decode cX9_readFlourish 33 = .ok (.aload_n 2, 1) := by decide +kernel
theorem dX9_readFlourish_34 : decode cX9_readFlourish 34 = .ok (.invokevirtual 159, 3) := by decide +kernel
theorem dX9_readFlourish_37 : decode cX9_readFlourish 37 = .ok (.aload_n 1, 1) := by decide +kernel
theorem dX9_readFlourish_38 : decode cX9_readFlourish 38 = .ok (.invokevirtual 163, 3) := by decide +kernel
theorem dX9_readFlourish_41 : decode cX9_readFlourish 41 = .ok (.ifCond .eq 9, 3) := by decide +kernel
theorem dX9_readFlourish_44 : decode cX9_readFlourish 44 = .ok (.aload_n 2, 1) := by decide +kernel
theorem dX9_readFlourish_45 : decode cX9_readFlourish 45 = .ok (.iconst 3, 1) := by decide +kernel
theorem dX9_readFlourish_46 : decode cX9_readFlourish 46 = .ok (.invokevirtual 101, 3) := by decide +kernel
theorem dX9_readFlourish_49 : decode cX9_readFlourish 49 = .ok (.ireturn, 1) := by decide +kernel
theorem dX9_readFlourish_50 : decode cX9_readFlourish 50 = .ok (.aload_n 2, 1) := by decide +kernel
theorem dX9_readFlourish_51 : decode cX9_readFlourish 51 = .ok (.invokevirtual 111, 3) := by decide +kernel
theorem dX9_readFlourish_54 : decode cX9_readFlourish 54 = .ok (.aload_n 2, 1) := by decide +kernel
theorem dX9_readFlourish_55 : decode cX9_readFlourish 55 = .ok (.iconst 1, 1) := by decide +kernel
theorem dX9_readFlourish_56 : decode cX9_readFlourish 56 = .ok (.bipush 99, 2) := by decide +kernel
theorem dX9_readFlourish_58 : decode cX9_readFlourish 58 = .ok (.invokevirtual 114, 3) := by decide +kernel
theorem dX9_readFlourish_61 : decode cX9_readFlourish 61 = .ok (.ifCond .ne 5, 3) := by decide +kernel
theorem dX9_readFlourish_64 : decode cX9_readFlourish 64 = .ok (.iconst 0, 1) := by decide +kernel
theorem dX9_readFlourish_65 : decode cX9_readFlourish 65 = .ok (.ireturn, 1) := by decide +kernel
theorem dX9_readFlourish_66 : decode cX9_readFlourish 66 = .ok (.aload_n 2, 1) := by decide +kernel
theorem dX9_readFlourish_67 : decode cX9_readFlourish 67 = .ok (.getfield 118, 3) := by decide +kernel
theorem dX9_readFlourish_70 : decode cX9_readFlourish 70 = .ok (.istore_n 3, 1) := by decide +kernel
theorem dX9_readFlourish_71 : decode cX9_readFlourish 71 = .ok (.aload_n 2, 1) := by decide +kernel
theorem dX9_readFlourish_72 : decode cX9_readFlourish 72 = .ok (.iconst 1, 1) := by decide +kernel
theorem dX9_readFlourish_73 : decode cX9_readFlourish 73 = .ok (.bipush 99, 2) := by decide +kernel
theorem dX9_readFlourish_75 : decode cX9_readFlourish 75 = .ok (.invokevirtual 114, 3) := by decide +kernel
theorem dX9_readFlourish_78 : decode cX9_readFlourish 78 = .ok (.ifCond .ne 5, 3) := by decide +kernel
theorem dX9_readFlourish_81 : decode cX9_readFlourish 81 = .ok (.iconst 0, 1) := by decide +kernel
theorem dX9_readFlourish_82 : decode cX9_readFlourish 82 = .ok (.ireturn, 1) := by decide +kernel
theorem dX9_readFlourish_83 : decode cX9_readFlourish 83 = .ok (.aload_n 2, 1) := by decide +kernel
theorem dX9_readFlourish_84 : decode cX9_readFlourish 84 = .ok (.getfield 118, 3) := by decide +kernel
theorem dX9_readFlourish_87 : decode cX9_readFlourish 87 = .ok (.istore 4, 2) := by decide +kernel
theorem dX9_readFlourish_89 : decode cX9_readFlourish 89 = .ok (.aload_n 2, 1) := by decide +kernel
theorem dX9_readFlourish_90 : decode cX9_readFlourish 90 = .ok (.iconst 1, 1) := by decide +kernel
theorem dX9_readFlourish_91 : decode cX9_readFlourish 91 = .ok (.bipush 9, 2) := by decide +kernel
theorem dX9_readFlourish_93 : decode cX9_readFlourish 93 = .ok (.invokevirtual 114, 3) := by decide +kernel
theorem dX9_readFlourish_96 : decode cX9_readFlourish 96 = .ok (.ifCond .ne 5, 3) := by decide +kernel
theorem dX9_readFlourish_99 : decode cX9_readFlourish 99 = .ok (.iconst 0, 1) := by decide +kernel
theorem dX9_readFlourish_100 : decode cX9_readFlourish 100 = .ok (.ireturn, 1) := by decide +kernel
theorem dX9_readFlourish_101 : decode cX9_readFlourish 101 = .ok (.aload_n 1, 1) := by decide +kernel
theorem dX9_readFlourish_102 : decode cX9_readFlourish 102 = .ok (.iload_n 3, 1) := by decide +kernel
theorem dX9_readFlourish_103 : decode cX9_readFlourish 103 = .ok (.iload 4, 2) := by decide +kernel
theorem dX9_readFlourish_105 : decode cX9_readFlourish 105 = .ok (.aload_n 2, 1) := by decide +kernel
theorem dX9_readFlourish_106 : decode cX9_readFlourish 106 = .ok (.getfield 118, 3) := by decide +kernel
theorem dX9_readFlourish_109 : decode cX9_readFlourish 109 = .ok (.invokevirtual 166, 3) := by decide +kernel
theorem dX9_readFlourish_112 : decode cX9_readFlourish 112 = .ok (.iconst 1, 1) := by decide +kernel
theorem dX9_readFlourish_113 : decode cX9_readFlourish 113 = .ok (.ireturn, 1) := by decide +kernel
theorem dX9_readSeed_0 : decode cX9_readSeed 0 = .ok (.aload_n 0, 1) := by decide +kernel
theorem dX9_readSeed_1 : decode cX9_readSeed 1 = .ok (.getfield 14, 3) := by decide +kernel
theorem dX9_readSeed_4 : decode cX9_readSeed 4 = .ok (.ifCond .eq 9, 3) := by decide +kernel
theorem dX9_readSeed_7 : decode cX9_readSeed 7 = .ok (.aload_n 2, 1) := by decide +kernel
theorem dX9_readSeed_8 : decode cX9_readSeed 8 = .ok (.iconst 3, 1) := by decide +kernel
theorem dX9_readSeed_9 : decode cX9_readSeed 9 = .ok (.invokevirtual 101, 3) := by decide +kernel
theorem dX9_readSeed_12 : decode cX9_readSeed 12 = .ok (.ireturn, 1) := by decide +kernel
theorem dX9_readSeed_13 : decode cX9_readSeed 13 = .ok (.aload_n 0, 1) := by decide +kernel
theorem dX9_readSeed_14 : decode cX9_readSeed 14 = .ok (.iconst 1, 1) := by decide +kernel
theorem dX9_readSeed_15 : decode cX9_readSeed 15 = .ok (.putfield 14, 3) := by decide +kernel
theorem dX9_readSeed_18 : decode cX9_readSeed 18 = .ok (.aload_n 2, 1) := by decide +kernel
theorem dX9_readSeed_19 : decode cX9_readSeed 19 = .ok (.invokevirtual 111, 3) := by decide +kernel
theorem dX9_readSeed_22 : decode cX9_readSeed 22 = .ok (.aload_n 2, 1) := by decide +kernel
theorem dX9_readSeed_23 : decode cX9_readSeed 23 = .ok (.iconst 0, 1) := by decide +kernel
theorem dX9_readSeed_24 : decode cX9_readSeed 24 = .ok (.sipush 999, 3) := by decide +kernel
theorem dX9_readSeed_27 : decode cX9_readSeed 27 = .ok (.invokevirtual 114, 3) := by decide +kernel
theorem dX9_readSeed_30 : decode cX9_readSeed 30 = .ok (.ifCond .ne 5, 3) := by decide +kernel
theorem dX9_readSeed_33 : decode cX9_readSeed 33 = .ok (.iconst 0, 1) := by decide +kernel
theorem dX9_readSeed_34 : decode cX9_readSeed 34 = .ok (.ireturn, 1) := by decide +kernel
theorem dX9_readSeed_35 : decode cX9_readSeed 35 = .ok (.aload_n 1, 1) := by decide +kernel
theorem dX9_readSeed_36 : decode cX9_readSeed 36 = .ok (.aload_n 2, 1) := by decide +kernel
theorem dX9_readSeed_37 : decode cX9_readSeed 37 = .ok (.getfield 118, 3) := by decide +kernel
theorem dX9_readSeed_40 : decode cX9_readSeed 40 = .ok (.putfield 170, 3) := by decide +kernel
theorem dX9_readSeed_43 : decode cX9_readSeed 43 = .ok (.iconst 1, 1) := by decide +kernel
theorem dX9_readSeed_44 : decode cX9_readSeed 44 = .ok (.ireturn, 1) := by decide +kernel
theorem dX9_readSharp_0 : decode cX9_readSharp 0 = .ok (.aload_n 0, 1) := by decide +kernel
theorem dX9_readSharp_1 : decode cX9_readSharp 1 = .ok (.getfield 20, 3) := by decide +kernel
theorem dX9_readSharp_4 : decode cX9_readSharp 4 = .ok (.ifCond .eq 9, 3) := by decide +kernel
theorem dX9_readSharp_7 : decode cX9_readSharp 7 = .ok (.aload_n 2, 1) := by decide +kernel
theorem dX9_readSharp_8 : decode cX9_readSharp 8 = .ok (.iconst 3, 1) := by decide +kernel
theorem dX9_readSharp_9 : decode cX9_readSharp 9 = .ok (.invokevirtual 101, 3) := by decide +kernel
theorem dX9_readSharp_12 : decode cX9_readSharp 12 = .ok (.ireturn, 1) := by decide +kernel
theorem dX9_readSharp_13 : decode cX9_readSharp 13 = .ok (.aload_n 0, 1) := by decide +kernel
theorem dX9_readSharp_14 : decode cX9_readSharp 14 = .ok (.iconst 1, 1) := by decide +kernel
theorem dX9_readSharp_15 : decode cX9_readSharp 15 = .ok (.putfield 20, 3) := by decide +kernel
theorem dX9_readSharp_18 : decode cX9_readSharp 18 = .ok (.aload_n 2, 1) := by decide +kernel
theorem dX9_readSharp_19 : decode cX9_readSharp 19 = .ok (.invokevirtual 111, 3) := by decide +kernel
theorem dX9_readSharp_22 : decode cX9_readSharp 22 = .ok (.aload_n 2, 1) := by decide +kernel
theorem dX9_readSharp_23 : decode cX9_readSharp 23 = .ok (.iconst 1, 1) := by decide +kernel
theorem dX9_readSharp_24 : decode cX9_readSharp 24 = .ok (.bipush 99, 2) := by decide +kernel
theorem dX9_readSharp_26 : decode cX9_readSharp 26 = .ok (.invokevirtual 114, 3) := by decide +kernel
theorem dX9_readSharp_29 : decode cX9_readSharp 29 = .ok (.ifCond .ne 5, 3) := by decide +kernel
theorem dX9_readSharp_32 : decode cX9_readSharp 32 = .ok (.iconst 0, 1) := by decide +kernel
theorem dX9_readSharp_33 : decode cX9_readSharp 33 = .ok (.ireturn, 1) := by decide +kernel
theorem dX9_readSharp_34 : decode cX9_readSharp 34 = .ok (.aload_n 1, 1) := by decide +kernel
theorem dX9_readSharp_35 : decode cX9_readSharp 35 = .ok (.aload_n 2, 1) := by decide +kernel
theorem dX9_readSharp_36 : decode cX9_readSharp 36 = .ok (.getfield 118, 3) := by decide +kernel
theorem dX9_readSharp_39 : decode cX9_readSharp 39 = .ok (.putfield 175, 3) := by decide +kernel
theorem dX9_readSharp_42 : decode cX9_readSharp 42 = .ok (.iconst 1, 1) := by decide +kernel
theorem dX9_readSharp_43 : decode cX9_readSharp 43 = .ok (.ireturn, 1) := by decide +kernel
theorem dX9_readMargin_0 : decode cX9_readMargin 0 = .ok (.aload_n 0, 1) := by decide +kernel
theorem dX9_readMargin_1 : decode cX9_readMargin 1 = .ok (.getfield 23, 3) := by decide +kernel
theorem dX9_readMargin_4 : decode cX9_readMargin 4 = .ok (.ifCond .eq 9, 3) := by decide +kernel
theorem dX9_readMargin_7 : decode cX9_readMargin 7 = .ok (.aload_n 2, 1) := by decide +kernel
theorem dX9_readMargin_8 : decode cX9_readMargin 8 = .ok (.iconst 3, 1) := by decide +kernel
theorem dX9_readMargin_9 : decode cX9_readMargin 9 = .ok (.invokevirtual 101, 3) := by decide +kernel
theorem dX9_readMargin_12 : decode cX9_readMargin 12 = .ok (.ireturn, 1) := by decide +kernel
theorem dX9_readMargin_13 : decode cX9_readMargin 13 = .ok (.aload_n 0, 1) := by decide +kernel
theorem dX9_readMargin_14 : decode cX9_readMargin 14 = .ok (.iconst 1, 1) := by decide +kernel
theorem dX9_readMargin_15 : decode cX9_readMargin 15 = .ok (.putfield 23, 3) := by decide +kernel
theorem dX9_readMargin_18 : decode cX9_readMargin 18 = .ok (.aload_n 2, 1) := by decide +kernel
theorem dX9_readMargin_19 : decode cX9_readMargin 19 = .ok (.invokevirtual 111, 3) := by decide +kernel
theorem dX9_readMargin_22 : decode cX9_readMargin 22 = .ok (.aload_n 2, 1) := by decide +kernel
theorem dX9_readMargin_23 : decode cX9_readMargin 23 = .ok (.iconst 0, 1) := by decide +kernel
theorem dX9_readMargin_24 : decode cX9_readMargin 24 = .ok (.bipush 99, 2) := by decide +kernel
theorem dX9_readMargin_26 : decode cX9_readMargin 26 = .ok (.invokevirtual 114, 3) := by decide +kernel
theorem dX9_readMargin_29 : decode cX9_readMargin 29 = .ok (.ifCond .ne 5, 3) := by decide +kernel
theorem dX9_readMargin_32 : decode cX9_readMargin 32 = .ok (.iconst 0, 1) := by decide +kernel
theorem dX9_readMargin_33 : decode cX9_readMargin 33 = .ok (.ireturn, 1) := by decide +kernel
theorem dX9_readMargin_34 : decode cX9_readMargin 34 = .ok (.aload_n 1, 1) := by decide +kernel
theorem dX9_readMargin_35 : decode cX9_readMargin 35 = .ok (.aload_n 2, 1) := by decide +kernel
theorem dX9_readMargin_36 : decode cX9_readMargin 36 = .ok (.getfield 118, 3) := by decide +kernel
theorem dX9_readMargin_39 : decode cX9_readMargin 39 = .ok (.putfield 177, 3) := by decide +kernel
theorem dX9_readMargin_42 : decode cX9_readMargin 42 = .ok (.iconst 1, 1) := by decide +kernel
theorem dX9_readMargin_43 : decode cX9_readMargin 43 = .ok (.ireturn, 1) := by decide +kernel
theorem dX10_init_0 : decode cX10_init 0 = .ok (.aload_n 0, 1) := by decide +kernel
theorem dX10_init_1 : decode cX10_init 1 = .ok (.invokespecial 3, 3) := by decide +kernel
theorem dX10_init_4 : decode cX10_init 4 = .ok (.aload_n 0, 1) := by decide +kernel
theorem dX10_init_5 : decode cX10_init 5 = .ok (.sipush 500, 3) := by decide +kernel
theorem dX10_init_8 : decode cX10_init 8 = .ok (.newarray .byte, 2) := by decide +kernel
theorem dX10_init_10 : decode cX10_init 10 = .ok (.putfield 9, 3) := by decide +kernel
theorem dX10_init_13 : decode cX10_init 13 = .ok (.aload_n 0, 1) := by decide +kernel
theorem dX10_init_14 : decode cX10_init 14 = .ok (.iconst (-1), 1) := by decide +kernel
theorem dX10_init_15 : decode cX10_init 15 = .ok (.putfield 15, 3) := by decide +kernel
theorem dX10_init_18 : decode cX10_init 18 = .ok (.return_, 1) := by decide +kernel
theorem dX10_append_0 : decode cX10_append 0 = .ok (.bipush 24, 2) := by decide +kernel
theorem dX10_append_2 : decode cX10_append 2 = .ok (.istore_n 2, 1) := by decide +kernel
theorem dX10_append_3 : decode cX10_append 3 = .ok (.iload_n 2, 1) := by decide +kernel
theorem dX10_append_4 : decode cX10_append 4 = .ok (.ifCond .lt 42, 3) := by decide +kernel
theorem dX10_append_7 : decode cX10_append 7 = .ok (.aload_n 0, 1) := by decide +kernel
theorem dX10_append_8 : decode cX10_append 8 = .ok (.getfield 19, 3) := by decide +kernel
theorem dX10_append_11 : decode cX10_append 11 = .ok (.sipush 500, 3) := by decide +kernel
theorem dX10_append_14 : decode cX10_append 14 = .ok (.if_icmp .ge 26, 3) := by decide +kernel
theorem dX10_append_17 : decode cX10_append 17 = .ok (.aload_n 0, 1) := by decide +kernel
theorem dX10_append_18 : decode cX10_append 18 = .ok (.getfield 9, 3) := by decide +kernel
theorem dX10_append_21 : decode cX10_append 21 = .ok (.aload_n 0, 1) := by decide +kernel
theorem dX10_append_22 : decode cX10_append 22 = .ok (.getfield 19, 3) := by decide +kernel
theorem dX10_append_25 : decode cX10_append 25 = .ok (.iload_n 1, 1) := by decide +kernel
theorem dX10_append_26 : decode cX10_append 26 = .ok (.iload_n 2, 1) := by decide +kernel
theorem dX10_append_27 : decode cX10_append 27 = .ok (.iushr, 1) := by decide +kernel
theorem dX10_append_28 : decode cX10_append 28 = .ok (.i2b, 1) := by decide +kernel
theorem dX10_append_29 : decode cX10_append 29 = .ok (.bastore, 1) := by decide +kernel
theorem dX10_append_30 : decode cX10_append 30 = .ok (.aload_n 0, 1) := by decide +kernel
theorem dX10_append_31 : decode cX10_append 31 = .ok (.dup, 1) := by decide +kernel
theorem dX10_append_32 : decode cX10_append 32 = .ok (.getfield 19, 3) := by decide +kernel
theorem dX10_append_35 : decode cX10_append 35 = .ok (.iconst 1, 1) := by decide +kernel
theorem dX10_append_36 : decode cX10_append 36 = .ok (.iadd, 1) := by decide +kernel
theorem dX10_append_37 : decode cX10_append 37 = .ok (.putfield 19, 3) := by decide +kernel
theorem dX10_append_40 : decode cX10_append 40 = .ok (.iinc 2 (-8), 3) := by decide +kernel
theorem dX10_append_43 : decode cX10_append 43 = .ok (.goto (-40), 3) := by decide +kernel
theorem dX10_append_46 : decode cX10_append 46 = .ok (.return_, 1) := by decide +kernel
theorem dX10_byteAt_0 : decode cX10_byteAt 0 = .ok (.iload_n 1, 1) := by decide +kernel
theorem dX10_byteAt_1 : decode cX10_byteAt 1 = .ok (.iconst 0, 1) := by decide +kernel
theorem dX10_byteAt_2 : decode cX10_byteAt 2 = .ok (.sipush 499, 3) := by decide +kernel
theorem dX10_byteAt_5 : decode cX10_byteAt 5 = .ok (.invokestatic 22, 3) := by decide +kernel
theorem dX10_byteAt_8 : decode cX10_byteAt 8 = .ok (.ifCond .eq 12, 3) := by decide +kernel
theorem dX10_byteAt_11 : decode cX10_byteAt 11 = .ok (.aload_n 0, 1) := by decide +kernel
theorem dX10_byteAt_12 : decode cX10_byteAt 12 = .ok (.getfield 9, 3) := by decide +kernel
theorem dX10_byteAt_15 : decode cX10_byteAt 15 = .ok (.iload_n 1, 1) := by decide +kernel
theorem dX10_byteAt_16 : decode cX10_byteAt 16 = .ok (.baload, 1) := by decide +kernel
theorem dX10_byteAt_17 : decode cX10_byteAt 17 = .ok (.goto 4, 3) := by decide +kernel
theorem dX10_byteAt_20 : decode cX10_byteAt 20 = .ok (.iconst 0, 1) := by decide +kernel
theorem dX10_byteAt_21 : decode cX10_byteAt 21 = .ok (.ireturn, 1) := by decide +kernel
theorem dX10_placeAt_0 : decode cX10_placeAt 0 = .ok (.aload_n 0, 1) := by decide +kernel
theorem dX10_placeAt_1 : decode cX10_placeAt 1 = .ok (.iload_n 1, 1) := by decide +kernel
theorem dX10_placeAt_2 : decode cX10_placeAt 2 = .ok (.invokevirtual 26, 3) := by decide +kernel
theorem dX10_placeAt_5 : decode cX10_placeAt 5 = .ok (.bipush 97, 2) := by decide +kernel
theorem dX10_placeAt_7 : decode cX10_placeAt 7 = .ok (.isub, 1) := by decide +kernel
theorem dX10_placeAt_8 : decode cX10_placeAt 8 = .ok (.ireturn, 1) := by decide +kernel
theorem dX10_isOneWord_0 : decode cX10_isOneWord 0 = .ok (.aload_n 0, 1) := by decide +kernel
theorem dX10_isOneWord_1 : decode cX10_isOneWord 1 = .ok (.getfield 19, 3) := by decide +kernel
theorem dX10_isOneWord_4 : decode cX10_isOneWord 4 = .ok (.iconst 1, 1) := by decide +kernel
theorem dX10_isOneWord_5 : decode cX10_isOneWord 5 = .ok (.bipush 8, 2) := by decide +kernel
theorem dX10_isOneWord_7 : decode cX10_isOneWord 7 = .ok (.invokestatic 22, 3) := by decide +kernel
theorem dX10_isOneWord_10 : decode cX10_isOneWord 10 = .ok (.ifCond .eq 23, 3) := by decide +kernel
theorem dX10_isOneWord_13 : decode cX10_isOneWord 13 = .ok (.aload_n 0, 1) := by decide +kernel
theorem dX10_isOneWord_14 : decode cX10_isOneWord 14 = .ok (.iconst 0, 1) := by decide +kernel
theorem dX10_isOneWord_15 : decode cX10_isOneWord 15 = .ok (.bipush 97, 2) := by decide +kernel
theorem dX10_isOneWord_17 : decode cX10_isOneWord 17 = .ok (.bipush 122, 2) := by decide +kernel
theorem dX10_isOneWord_19 : decode cX10_isOneWord 19 = .ok (.invokevirtual 30, 3) := by decide +kernel
theorem dX10_isOneWord_22 : decode cX10_isOneWord 22 = .ok (.aload_n 0, 1) := by decide +kernel
theorem dX10_isOneWord_23 : decode cX10_isOneWord 23 = .ok (.getfield 19, 3) := by decide +kernel
theorem dX10_isOneWord_26 : decode cX10_isOneWord 26 = .ok (.if_icmp .ne 7, 3) := by decide +kernel
theorem dX10_isOneWord_29 : decode cX10_isOneWord 29 = .ok (.iconst 1, 1) := by decide +kernel
theorem dX10_isOneWord_30 : decode cX10_isOneWord 30 = .ok (.goto 4, 3) := by decide +kernel
theorem dX10_isOneWord_33 : decode cX10_isOneWord 33 = .ok (.iconst 0, 1) := by decide +kernel
theorem dX10_isOneWord_34 : decode cX10_isOneWord 34 = .ok (.ireturn, 1) := by decide +kernel
theorem dX10_endOfRun_0 : decode cX10_endOfRun 0 = .ok (.iload_n 1, 1) := by decide +kernel
theorem dX10_endOfRun_1 : decode cX10_endOfRun 1 = .ok (.istore 4, 2) := by decide +kernel
theorem dX10_endOfRun_3 : decode cX10_endOfRun 3 = .ok (.iload 4, 2) := by decide +kernel
theorem dX10_endOfRun_5 : decode cX10_endOfRun 5 = .ok (.aload_n 0, 1) := by decide +kernel
theorem dX10_endOfRun_6 : decode cX10_endOfRun 6 = .ok (.getfield 19, 3) := by decide +kernel
theorem dX10_endOfRun_9 : decode cX10_endOfRun 9 = .ok (.if_icmp .ge 31, 3) := by decide +kernel
theorem dX10_endOfRun_12 : decode cX10_endOfRun 12 = .ok (.aload_n 0, 1) := by decide +kernel
theorem dX10_endOfRun_13 : decode cX10_endOfRun 13 = .ok (.getfield 9, 3) := by decide +kernel
theorem dX10_endOfRun_16 : decode cX10_endOfRun 16 = .ok (.iload 4, 2) := by decide +kernel
theorem dX10_endOfRun_18 : decode cX10_endOfRun 18 = .ok (.baload, 1) := by decide +kernel
theorem dX10_endOfRun_19 : decode cX10_endOfRun 19 = .ok (.iload_n 2, 1) := by decide +kernel
theorem dX10_endOfRun_20 : decode cX10_endOfRun 20 = .ok (.if_icmp .lt 20, 3) := by decide +kernel
theorem dX10_endOfRun_23 : decode cX10_endOfRun 23 = .ok (.aload_n 0, 1) := by decide +kernel
theorem dX10_endOfRun_24 : decode cX10_endOfRun 24 = .ok (.getfield 9, 3) := by decide +kernel
theorem dX10_endOfRun_27 : decode cX10_endOfRun 27 = .ok (.iload 4, 2) := by decide +kernel
theorem dX10_endOfRun_29 : decode cX10_endOfRun 29 = .ok (.baload, 1) := by decide +kernel
theorem dX10_endOfRun_30 : decode cX10_endOfRun 30 = .ok (.iload_n 3, 1) := by decide +kernel
theorem dX10_endOfRun_31 : decode cX10_endOfRun 31 = .ok (.if_icmp .gt 9, 3) := by decide +kernel
theorem dX10_endOfRun_34 : decode cX10_endOfRun 34 = .ok (.iinc 4 1, 3) := by decide +kernel
theorem dX10_endOfRun_37 : decode cX10_endOfRun 37 = .ok (.goto (-34), 3) := by decide +kernel
theorem dX10_endOfRun_40 : decode cX10_endOfRun 40 = .ok (.iload 4, 2) := by decide +kernel
theorem dX10_endOfRun_42 : decode cX10_endOfRun 42 = .ok (.ireturn, 1) := by decide +kernel
theorem dX10_endOfBlanks_0 : decode cX10_endOfBlanks 0 = .ok (.iload_n 1, 1) := by decide +kernel
theorem dX10_endOfBlanks_1 : decode cX10_endOfBlanks 1 = .ok (.istore_n 2, 1) := by decide +kernel
theorem dX10_endOfBlanks_2 : decode cX10_endOfBlanks 2 = .ok (.iload_n 2, 1) := by decide +kernel
theorem dX10_endOfBlanks_3 : decode cX10_endOfBlanks 3 = .ok (.aload_n 0, 1) := by decide +kernel
theorem dX10_endOfBlanks_4 : decode cX10_endOfBlanks 4 = .ok (.getfield 19, 3) := by decide +kernel
theorem dX10_endOfBlanks_7 : decode cX10_endOfBlanks 7 = .ok (.if_icmp .ge 31, 3) := by decide +kernel
theorem dX10_endOfBlanks_10 : decode cX10_endOfBlanks 10 = .ok (.aload_n 0, 1) := by decide +kernel
theorem dX10_endOfBlanks_11 : decode cX10_endOfBlanks 11 = .ok (.getfield 9, 3) := by decide +kernel
theorem dX10_endOfBlanks_14 : decode cX10_endOfBlanks 14 = .ok (.iload_n 2, 1) := by decide +kernel
theorem dX10_endOfBlanks_15 : decode cX10_endOfBlanks 15 = .ok (.baload, 1) := by decide +kernel
theorem dX10_endOfBlanks_16 : decode cX10_endOfBlanks 16 = .ok (.bipush 32, 2) := by decide +kernel
theorem dX10_endOfBlanks_18 : decode cX10_endOfBlanks 18 = .ok (.if_icmp .eq 14, 3) := by decide +kernel
theorem dX10_endOfBlanks_21 : decode cX10_endOfBlanks 21 = .ok (.aload_n 0, 1) := by decide +kernel
theorem dX10_endOfBlanks_22 : decode cX10_endOfBlanks 22 = .ok (.getfield 9, 3) := by decide +kernel
theorem dX10_endOfBlanks_25 : decode cX10_endOfBlanks 25 = .ok (.iload_n 2, 1) := by decide +kernel
theorem dX10_endOfBlanks_26 : decode cX10_endOfBlanks 26 = .ok (.baload, 1) := by decide +kernel
theorem dX10_endOfBlanks_27 : decode cX10_endOfBlanks 27 = .ok (.bipush 10, 2) := by decide +kernel
theorem dX10_endOfBlanks_29 : decode cX10_endOfBlanks 29 = .ok (.if_icmp .ne 9, 3) := by decide +kernel
theorem dX10_endOfBlanks_32 : decode cX10_endOfBlanks 32 = .ok (.iinc 2 1, 3) := by decide +kernel
theorem dX10_endOfBlanks_35 : decode cX10_endOfBlanks 35 = .ok (.goto (-33), 3) := by decide +kernel
theorem dX10_endOfBlanks_38 : decode cX10_endOfBlanks 38 = .ok (.iload_n 2, 1) := by decide +kernel
theorem dX10_endOfBlanks_39 : decode cX10_endOfBlanks 39 = .ok (.ireturn, 1) := by decide +kernel
theorem dX10_begin_0 : decode cX10_begin 0 = .ok (.aload_n 0, 1) := by decide +kernel
theorem dX10_begin_1 : decode cX10_begin 1 = .ok (.iconst 0, 1) := by decide +kernel
theorem dX10_begin_2 : decode cX10_begin 2 = .ok (.putfield 34, 3) := by decide +kernel
theorem dX10_begin_5 : decode cX10_begin 5 = .ok (.aload_n 0, 1) := by decide +kernel
theorem dX10_begin_6 : decode cX10_begin 6 = .ok (.iconst (-1), 1) := by decide +kernel
theorem dX10_begin_7 : decode cX10_begin 7 = .ok (.putfield 15, 3) := by decide +kernel
theorem dX10_begin_10 : decode cX10_begin 10 = .ok (.aload_n 0, 1) := by decide +kernel
theorem dX10_begin_11 : decode cX10_begin 11 = .ok (.iconst 0, 1) := by decide +kernel
theorem dX10_begin_12 : decode cX10_begin 12 = .ok (.putfield 37, 3) := by decide +kernel
theorem dX10_begin_15 : decode cX10_begin 15 = .ok (.aload_n 0, 1) := by decide +kernel
theorem dX10_begin_16 : decode cX10_begin 16 = .ok (.invokevirtual 40, 3) := by decide +kernel
theorem dX10_begin_19 : decode cX10_begin 19 = .ok (.return_, 1) := by decide +kernel
theorem dX10_advance_0 : decode cX10_advance 0 = .ok (.aload_n 0, 1) := by decide +kernel
theorem dX10_advance_1 : decode cX10_advance 1 = .ok (.aload_n 0, 1) := by decide +kernel
theorem dX10_advance_2 : decode cX10_advance 2 = .ok (.aload_n 0, 1) := by decide +kernel
theorem dX10_advance_3 : decode cX10_advance 3 = .ok (.getfield 37, 3) := by decide +kernel
theorem dX10_advance_6 : decode cX10_advance 6 = .ok (.invokevirtual 43, 3) := by decide +kernel
theorem dX10_advance_9 : decode cX10_advance 9 = .ok (.putfield 46, 3) := by decide +kernel
theorem dX10_advance_12 : decode cX10_advance 12 = .ok (.aload_n 0, 1) := by decide +kernel
theorem dX10_advance_13 : decode cX10_advance 13 = .ok (.aload_n 0, 1) := by decide +kernel
theorem dX10_advance_14 : decode cX10_advance 14 = .ok (.getfield 46, 3) := by decide +kernel
theorem dX10_advance_17 : decode cX10_advance 17 = .ok (.invokevirtual 26, 3) := by decide +kernel
theorem dX10_advance_20 : decode cX10_advance 20 = .ok (.istore_n 1, 1) := by decide +kernel
theorem dX10_advance_21 : decode cX10_advance 21 = .ok (.aload_n 0, 1) := by decide +kernel
theorem dX10_advance_22 : decode cX10_advance 22 = .ok (.getfield 46, 3) := by decide +kernel
theorem dX10_advance_25 : decode cX10_advance 25 = .ok (.aload_n 0, 1) := by decide +kernel
theorem dX10_advance_26 : decode cX10_advance 26 = .ok (.getfield 19, 3) := by decide +kernel
theorem dX10_advance_29 : decode cX10_advance 29 = .ok (.if_icmp .lt 19, 3) := by decide +kernel
theorem dX10_advance_32 : decode cX10_advance 32 = .ok (.aload_n 0, 1) := by decide +kernel
theorem dX10_advance_33 : decode cX10_advance 33 = .ok (.aload_n 0, 1) := by decide +kernel
theorem dX10_advance_34 : decode cX10_advance 34 = .ok (.getfield 19, 3) := by decide +kernel
theorem dX10_advance_37 : decode cX10_advance 37 = .ok (.putfield 37, 3) := by decide +kernel
theorem dX10_advance_40 : decode cX10_advance 40 = .ok (.aload_n 0, 1) := by decide +kernel
theorem dX10_advance_41 : decode cX10_advance 41 = .ok (.iconst 0, 1) := by decide +kernel
theorem dX10_advance_42 : decode cX10_advance 42 = .ok (.putfield 49, 3) := by decide +kernel
theorem dX10_advance_45 : decode cX10_advance 45 = .ok (.goto 145, 3) := by decide +kernel
theorem dX10_advance_48 : decode cX10_advance 48 = .ok (.iload_n 1, 1) := by decide +kernel
theorem dX10_advance_49 : decode cX10_advance 49 = .ok (.bipush 97, 2) := by decide +kernel
theorem dX10_advance_51 : decode cX10_advance 51 = .ok (.bipush 122, 2) := by decide +kernel
theorem dX10_advance_53 : decode cX10_advance 53 = .ok (.invokestatic 22, 3) := by decide +kernel
theorem dX10_advance_56 : decode cX10_advance 56 = .ok (.ifCond .eq 45, 3) := by decide +kernel
theorem dX10_advance_59 : decode cX10_advance 59 = .ok (.aload_n 0, 1) := by decide +kernel
theorem dX10_advance_60 : decode cX10_advance 60 = .ok (.aload_n 0, 1) := by decide +kernel
theorem dX10_advance_61 : decode cX10_advance 61 = .ok (.aload_n 0, 1) := by decide +kernel
theorem dX10_advance_62 : decode cX10_advance 62 = .ok (.getfield 46, 3) := by decide +kernel
theorem dX10_advance_65 : decode cX10_advance 65 = .ok (.bipush 97, 2) := by decide +kernel
theorem dX10_advance_67 : decode cX10_advance 67 = .ok (.bipush 122, 2) := by decide +kernel
theorem dX10_advance_69 : decode cX10_advance 69 = .ok (.invokevirtual 30, 3) := by decide +kernel
theorem dX10_advance_72 : decode cX10_advance 72 = .ok (.putfield 37, 3) := by decide +kernel
theorem dX10_advance_75 : decode cX10_advance 75 = .ok (.aload_n 0, 1) := by decide +kernel
theorem dX10_advance_76 : decode cX10_advance 76 = .ok (.aload_n 0, 1) := by decide +kernel
theorem dX10_advance_77 : decode cX10_advance 77 = .ok (.getfield 37, 3) := by decide +kernel
theorem dX10_advance_80 : decode cX10_advance 80 = .ok (.aload_n 0, 1) := by decide +kernel
theorem dX10_advance_81 : decode cX10_advance 81 = .ok (.getfield 46, 3) := by decide +kernel
theorem dX10_advance_84 : decode cX10_advance 84 = .ok (.isub, 1) := by decide +kernel
theorem dX10_advance_85 : decode cX10_advance 85 = .ok (.bipush 8, 2) := by decide +kernel
theorem dX10_advance_87 : decode cX10_advance 87 = .ok (.if_icmp .gt 7, 3) := by decide +kernel
theorem dX10_advance_90 : decode cX10_advance 90 = .ok (.iconst 1, 1) := by decide +kernel
theorem dX10_advance_91 : decode cX10_advance 91 = .ok (.goto 4, 3) := by decide +kernel
theorem dX10_advance_94 : decode cX10_advance 94 = .ok (.iconst 4, 1) := by decide +kernel
theorem dX10_advance_95 : decode cX10_advance 95 = .ok (.putfield 49, 3) := by decide +kernel
theorem dX10_advance_98 : decode cX10_advance 98 = .ok (.goto 92, 3) := by decide +kernel
theorem dX10_advance_101 : decode cX10_advance 101 = .ok (.iload_n 1, 1) := by decide +kernel
theorem dX10_advance_102 : decode cX10_advance 102 = .ok (.bipush 48, 2) := by decide +kernel
theorem dX10_advance_104 : decode cX10_advance 104 = .ok (.bipush 57, 2) := by decide +kernel
theorem dX10_advance_106 : decode cX10_advance 106 = .ok (.invokestatic 22, 3) := by decide +kernel
theorem dX10_advance_109 : decode cX10_advance 109 = .ok (.ifCond .eq 44, 3) := by decide +kernel
theorem dX10_advance_112 : decode cX10_advance 112 = .ok (.aload_n 0, 1) := by decide +kernel
theorem dX10_advance_113 : decode cX10_advance 113 = .ok (.aload_n 0, 1) := by decide +kernel
theorem dX10_advance_114 : decode cX10_advance 114 = .ok (.aload_n 0, 1) := by decide +kernel
theorem dX10_advance_115 : decode cX10_advance 115 = .ok (.getfield 46, 3) := by decide +kernel
theorem dX10_advance_118 : decode cX10_advance 118 = .ok (.bipush 48, 2) := by decide +kernel
theorem dX10_advance_120 : decode cX10_advance 120 = .ok (.bipush 57, 2) := by decide +kernel
theorem dX10_advance_122 : decode cX10_advance 122 = .ok (.invokevirtual 30, 3) := by decide +kernel
theorem dX10_advance_125 : decode cX10_advance 125 = .ok (.putfield 37, 3) := by decide +kernel
theorem dX10_advance_128 : decode cX10_advance 128 = .ok (.aload_n 0, 1) := by decide +kernel
theorem dX10_advance_129 : decode cX10_advance 129 = .ok (.aload_n 0, 1) := by decide +kernel
theorem dX10_advance_130 : decode cX10_advance 130 = .ok (.getfield 37, 3) := by decide +kernel
theorem dX10_advance_133 : decode cX10_advance 133 = .ok (.aload_n 0, 1) := by decide +kernel
theorem dX10_advance_134 : decode cX10_advance 134 = .ok (.getfield 46, 3) := by decide +kernel
theorem dX10_advance_137 : decode cX10_advance 137 = .ok (.isub, 1) := by decide +kernel
theorem dX10_advance_138 : decode cX10_advance 138 = .ok (.iconst 3, 1) := by decide +kernel
theorem dX10_advance_139 : decode cX10_advance 139 = .ok (.if_icmp .gt 7, 3) := by decide +kernel
theorem dX10_advance_142 : decode cX10_advance 142 = .ok (.iconst 2, 1) := by decide +kernel
theorem dX10_advance_143 : decode cX10_advance 143 = .ok (.goto 4, 3) := by decide +kernel
theorem dX10_advance_146 : decode cX10_advance 146 = .ok (.iconst 4, 1) := by decide +kernel
theorem dX10_advance_147 : decode cX10_advance 147 = .ok (.putfield 49, 3) := by decide +kernel
theorem dX10_advance_150 : decode cX10_advance 150 = .ok (.goto 40, 3) := by decide +kernel
theorem dX10_advance_153 : decode cX10_advance 153 = .ok (.aload_n 0, 1) := by decide +kernel
theorem dX10_advance_154 : decode cX10_advance 154 = .ok (.aload_n 0, 1) := by decide +kernel
theorem dX10_advance_155 : decode cX10_advance 155 = .ok (.getfield 46, 3) := by decide +kernel
theorem dX10_advance_158 : decode cX10_advance 158 = .ok (.iconst 1, 1) := by decide +kernel
theorem dX10_advance_159 : decode cX10_advance 159 = .ok (.iadd, 1) := by decide +kernel
theorem dX10_advance_160 : decode cX10_advance 160 = .ok (.putfield 37, 3) := by decide +kernel
theorem dX10_advance_163 : decode cX10_advance 163 = .ok (.aload_n 0, 1) := by decide +kernel
theorem dX10_advance_164 : decode cX10_advance 164 = .ok (.iload_n 1, 1) := by decide +kernel
theorem dX10_advance_165 : decode cX10_advance 165 = .ok (.bipush 59, 2) := by decide +kernel
theorem dX10_advance_167 : decode cX10_advance 167 = .ok (.if_icmp .eq 15, 3) := by decide +kernel
theorem dX10_advance_170 : decode cX10_advance 170 = .ok (.iload_n 1, 1) := by decide +kernel
theorem dX10_advance_171 : decode cX10_advance 171 = .ok (.bipush 40, 2) := by decide +kernel
theorem dX10_advance_173 : decode cX10_advance 173 = .ok (.if_icmp .eq 9, 3) := by decide +kernel
theorem dX10_advance_176 : decode cX10_advance 176 = .ok (.iload_n 1, 1) := by decide +kernel
theorem dX10_advance_177 : decode cX10_advance 177 = .ok (.bipush 41, 2) := by decide +kernel
theorem dX10_advance_179 : decode cX10_advance 179 = .ok (.if_icmp .ne 7, 3) := by decide +kernel
theorem dX10_advance_182 : decode cX10_advance 182 = .ok (.iconst 3, 1) := by decide +kernel
theorem dX10_advance_183 : decode cX10_advance 183 = .ok (.goto 4, 3) := by decide +kernel
theorem dX10_advance_186 : decode cX10_advance 186 = .ok (.iconst 4, 1) := by decide +kernel
theorem dX10_advance_187 : decode cX10_advance 187 = .ok (.putfield 49, 3) := by decide +kernel
theorem dX10_advance_190 : decode cX10_advance 190 = .ok (.return_, 1) := by decide +kernel
theorem dX10_isAtEnd_0 : decode cX10_isAtEnd 0 = .ok (.aload_n 0, 1) := by decide +kernel
theorem dX10_isAtEnd_1 : decode cX10_isAtEnd 1 = .ok (.getfield 49, 3) := by decide +kernel
theorem dX10_isAtEnd_4 : decode cX10_isAtEnd 4 = .ok (.ifCond .ne 7, 3) := by decide +kernel
theorem dX10_isAtEnd_7 : decode cX10_isAtEnd 7 = .ok (.iconst 1, 1) := by decide +kernel
theorem dX10_isAtEnd_8 : decode cX10_isAtEnd 8 = .ok (.goto 4, 3) := by decide +kernel
theorem dX10_isAtEnd_11 : decode cX10_isAtEnd 11 = .ok (.iconst 0, 1) := by decide +kernel
theorem dX10_isAtEnd_12 : decode cX10_isAtEnd 12 = .ok (.ireturn, 1) := by decide +kernel
theorem dX10_isAnyWord_0 : decode cX10_isAnyWord 0 = .ok (.aload_n 0, 1) := by decide +kernel
theorem dX10_isAnyWord_1 : decode cX10_isAnyWord 1 = .ok (.getfield 49, 3) := by decide +kernel
theorem dX10_isAnyWord_4 : decode cX10_isAnyWord 4 = .ok (.iconst 1, 1) := by decide +kernel
theorem dX10_isAnyWord_5 : decode cX10_isAnyWord 5 = .ok (.if_icmp .ne 7, 3) := by decide +kernel
theorem dX10_isAnyWord_8 : decode cX10_isAnyWord 8 = .ok (.iconst 1, 1) := by decide +kernel
theorem dX10_isAnyWord_9 : decode cX10_isAnyWord 9 = .ok (.goto 4, 3) := by decide +kernel
theorem dX10_isAnyWord_12 : decode cX10_isAnyWord 12 = .ok (.iconst 0, 1) := by decide +kernel
theorem dX10_isAnyWord_13 : decode cX10_isAnyWord 13 = .ok (.ireturn, 1) := by decide +kernel
theorem dX10_isWord_0 : decode cX10_isWord 0 = .ok (.aload_n 0, 1) := by decide +kernel
theorem dX10_isWord_1 : decode cX10_isWord 1 = .ok (.getfield 49, 3) := by decide +kernel
theorem dX10_isWord_4 : decode cX10_isWord 4 = .ok (.iconst 1, 1) := by decide +kernel
theorem dX10_isWord_5 : decode cX10_isWord 5 = .ok (.if_icmp .ne 19, 3) := by decide +kernel
theorem dX10_isWord_8 : decode cX10_isWord 8 = .ok (.aload_n 1, 1) := by decide +kernel
theorem dX10_isWord_9 : decode cX10_isWord 9 = .ok (.invokevirtual 52, 3) := by decide +kernel
theorem dX10_isWord_12 : decode cX10_isWord 12 = .ok (.aload_n 0, 1) := by decide +kernel
theorem dX10_isWord_13 : decode cX10_isWord 13 = .ok (.getfield 37, 3) := by decide +kernel
theorem dX10_isWord_16 : decode cX10_isWord 16 = .ok (.aload_n 0, 1) := by decide +kernel
theorem dX10_isWord_17 : decode cX10_isWord 17 = .ok (.getfield 46, 3) := by decide +kernel
theorem dX10_isWord_20 : decode cX10_isWord 20 = .ok (.isub, 1) := by decide +kernel
theorem dX10_isWord_21 : decode cX10_isWord 21 = .ok (.if_icmp .eq 5, 3) := by decide +kernel
theorem dX10_isWord_24 : decode cX10_isWord 24 = .ok (.iconst 0, 1) := by decide +kernel
theorem dX10_isWord_25 : decode cX10_isWord 25 = .ok (.ireturn, 1) := by decide +kernel
theorem dX10_isWord_26 : decode cX10_isWord 26 = .ok (.iconst 0, 1) := by decide +kernel
theorem dX10_isWord_27 : decode cX10_isWord 27 = .ok (.istore_n 2, 1) := by decide +kernel
theorem dX10_isWord_28 : decode cX10_isWord 28 = .ok (.iload_n 2, 1) := by decide +kernel
theorem dX10_isWord_29 : decode cX10_isWord 29 = .ok (.aload_n 1, 1) := by decide +kernel
theorem dX10_isWord_30 : decode cX10_isWord 30 = .ok (.invokevirtual 52, 3) := by decide +kernel
theorem dX10_isWord_33 : decode cX10_isWord 33 = .ok (.if_icmp .ge 29, 3) := by decide +kernel
theorem dX10_isWord_36 : decode cX10_isWord 36 = .ok (.aload_n 1, 1) := by decide +kernel
theorem dX10_isWord_37 : decode cX10_isWord 37 = .ok (.iload_n 2, 1) := by decide +kernel
theorem dX10_isWord_38 : decode cX10_isWord 38 = .ok (.invokevirtual 57, 3) := by decide +kernel
theorem dX10_isWord_41 : decode cX10_isWord 41 = .ok (.aload_n 0, 1) := by decide +kernel
theorem dX10_isWord_42 : decode cX10_isWord 42 = .ok (.aload_n 0, 1) := by decide +kernel
theorem dX10_isWord_43 : decode cX10_isWord 43 = .ok (.getfield 46, 3) := by decide +kernel
theorem dX10_isWord_46 : decode cX10_isWord 46 = .ok (.iload_n 2, 1) := by decide +kernel
theorem dX10_isWord_47 : decode cX10_isWord 47 = .ok (.iadd, 1) := by decide +kernel
theorem dX10_isWord_48 : decode cX10_isWord 48 = .ok (.invokevirtual 26, 3) := by decide +kernel
theorem dX10_isWord_51 : decode cX10_isWord 51 = .ok (.if_icmp .eq 5, 3) := by decide +kernel
theorem dX10_isWord_54 : decode cX10_isWord 54 = .ok (.iconst 0, 1) := by decide +kernel
theorem dX10_isWord_55 : decode cX10_isWord 55 = .ok (.ireturn, 1) := by decide +kernel
theorem dX10_isWord_56 : decode cX10_isWord 56 = .ok (.iinc 2 1, 3) := by decide +kernel
theorem dX10_isWord_59 : decode cX10_isWord 59 = .ok (.goto (-31), 3) := by decide +kernel
theorem dX10_isWord_62 : decode cX10_isWord 62 = .ok (.iconst 1, 1) := by decide +kernel
theorem dX10_isWord_63 : decode cX10_isWord 63 = .ok (.ireturn, 1) := by decide +kernel
theorem dX10_isSign_0 : decode cX10_isSign 0 = .ok (.aload_n 0, 1) := by decide +kernel
theorem dX10_isSign_1 : decode cX10_isSign 1 = .ok (.getfield 49, 3) := by decide +kernel
theorem dX10_isSign_4 : decode cX10_isSign 4 = .ok (.iconst 3, 1) := by decide +kernel
theorem dX10_isSign_5 : decode cX10_isSign 5 = .ok (.if_icmp .ne 19, 3) := by decide +kernel
theorem dX10_isSign_8 : decode cX10_isSign 8 = .ok (.aload_n 0, 1) := by decide +kernel
theorem dX10_isSign_9 : decode cX10_isSign 9 = .ok (.aload_n 0, 1) := by decide +kernel
theorem dX10_isSign_10 : decode cX10_isSign 10 = .ok (.getfield 46, 3) := by decide +kernel
theorem dX10_isSign_13 : decode cX10_isSign 13 = .ok (.invokevirtual 26, 3) := by decide +kernel
theorem dX10_isSign_16 : decode cX10_isSign 16 = .ok (.iload_n 1, 1) := by decide +kernel
theorem dX10_isSign_17 : decode cX10_isSign 17 = .ok (.if_icmp .ne 7, 3) := by decide +kernel
theorem dX10_isSign_20 : decode cX10_isSign 20 = .ok (.iconst 1, 1) := by decide +kernel
theorem dX10_isSign_21 : decode cX10_isSign 21 = .ok (.goto 4, 3) := by decide +kernel
theorem dX10_isSign_24 : decode cX10_isSign 24 = .ok (.iconst 0, 1) := by decide +kernel
theorem dX10_isSign_25 : decode cX10_isSign 25 = .ok (.ireturn, 1) := by decide +kernel
theorem dX10_fail_0 : decode cX10_fail 0 = .ok (.aload_n 0, 1) := by decide +kernel
theorem dX10_fail_1 : decode cX10_fail 1 = .ok (.iload_n 1, 1) := by decide +kernel
theorem dX10_fail_2 : decode cX10_fail 2 = .ok (.putfield 34, 3) := by decide +kernel
theorem dX10_fail_5 : decode cX10_fail 5 = .ok (.aload_n 0, 1) := by decide +kernel
theorem dX10_fail_6 : decode cX10_fail 6 = .ok (.aload_n 0, 1) := by decide +kernel
theorem dX10_fail_7 : decode cX10_fail 7 = .ok (.getfield 46, 3) := by decide +kernel
theorem dX10_fail_10 : decode cX10_fail 10 = .ok (.putfield 15, 3) := by decide +kernel
theorem dX10_fail_13 : decode cX10_fail 13 = .ok (.iconst 0, 1) := by decide +kernel
theorem dX10_fail_14 : decode cX10_fail 14 = .ok (.ireturn, 1) := by decide +kernel
theorem dX10_takeIfWord_0 : decode cX10_takeIfWord 0 = .ok (.aload_n 0, 1) := by decide +kernel
theorem dX10_takeIfWord_1 : decode cX10_takeIfWord 1 = .ok (.aload_n 1, 1) := by decide +kernel
theorem dX10_takeIfWord_2 : decode cX10_takeIfWord 2 = .ok (.invokevirtual 61, 3) := by decide +kernel
theorem dX10_takeIfWord_5 : decode cX10_takeIfWord 5 = .ok (.istore_n 2, 1) := by decide +kernel
theorem dX10_takeIfWord_6 : decode cX10_takeIfWord 6 = .ok (.iload_n 2, 1) := by decide +kernel
theorem dX10_takeIfWord_7 : decode cX10_takeIfWord 7 = .ok (.ifCond .eq 7, 3) := by decide +kernel
theorem dX10_takeIfWord_10 : decode cX10_takeIfWord 10 = .ok (.aload_n 0, 1) := by decide +kernel
theorem dX10_takeIfWord_11 : decode cX10_takeIfWord 11 = .ok (.invokevirtual 40, 3) := by decide +kernel
theorem dX10_takeIfWord_14 : decode cX10_takeIfWord 14 = .ok (.iload_n 2, 1) := by decide +kernel
theorem dX10_takeIfWord_15 : decode cX10_takeIfWord 15 = .ok (.ireturn, 1) := by decide +kernel
theorem dX10_takeSign_0 : decode cX10_takeSign 0 = .ok (.aload_n 0, 1) := by decide +kernel
theorem dX10_takeSign_1 : decode cX10_takeSign 1 = .ok (.iload_n 1, 1) := by decide +kernel
theorem dX10_takeSign_2 : decode cX10_takeSign 2 = .ok (.invokevirtual 65, 3) := by decide +kernel
theorem dX10_takeSign_5 : decode cX10_takeSign 5 = .ok (.ifCond .ne 9, 3) := by decide +kernel
theorem dX10_takeSign_8 : decode cX10_takeSign 8 = .ok (.aload_n 0, 1) := by decide +kernel
theorem dX10_takeSign_9 : decode cX10_takeSign 9 = .ok (.iconst 1, 1) := by decide +kernel
theorem dX10_takeSign_10 : decode cX10_takeSign 10 = .ok (.invokevirtual 69, 3) := by decide +kernel
theorem dX10_takeSign_13 : decode cX10_takeSign 13 = .ok (.ireturn, 1) := by decide +kernel
theorem dX10_takeSign_14 : decode cX10_takeSign 14 = .ok (.aload_n 0, 1) := by decide +kernel
theorem dX10_takeSign_15 : decode cX10_takeSign 15 = .ok (.invokevirtual 40, 3) := by decide +kernel
theorem dX10_takeSign_18 : decode cX10_takeSign 18 = .ok (.iconst 1, 1) := by decide +kernel
theorem dX10_takeSign_19 : decode cX10_takeSign 19 = .ok (.ireturn, 1) := by decide +kernel
theorem dX10_takeNumber_0 : decode cX10_takeNumber 0 = .ok (.aload_n 0, 1) := by decide +kernel
theorem dX10_takeNumber_1 : decode cX10_takeNumber 1 = .ok (.getfield 49, 3) := by decide +kernel
theorem dX10_takeNumber_4 : decode cX10_takeNumber 4 = .ok (.iconst 2, 1) := by decide +kernel
theorem dX10_takeNumber_5 : decode cX10_takeNumber 5 = .ok (.if_icmp .eq 9, 3) := by decide +kernel
theorem dX10_takeNumber_8 : decode cX10_takeNumber 8 = .ok (.aload_n 0, 1) := by decide +kernel
theorem dX10_takeNumber_9 : decode cX10_takeNumber 9 = .ok (.iconst 1, 1) := by decide +kernel
theorem dX10_takeNumber_10 : decode cX10_takeNumber 10 = .ok (.invokevirtual 69, 3) := by decide +kernel
theorem dX10_takeNumber_13 : decode cX10_takeNumber 13 = .ok (.ireturn, 1) := by decide +kernel
theorem dX10_takeNumber_14 : decode cX10_takeNumber 14 = .ok (.iconst 0, 1) := by decide +kernel
theorem dX10_takeNumber_15 : decode cX10_takeNumber 15 = .ok (.istore_n 3, 1) := by decide +kernel
theorem dX10_takeNumber_16 : decode cX10_takeNumber 16 = .ok (.aload_n 0, 1) := by decide +kernel
theorem dX10_takeNumber_17 : decode cX10_takeNumber 17 = .ok (.getfield 46, 3) := by decide +kernel
theorem dX10_takeNumber_20 : decode cX10_takeNumber 20 = .ok (.istore 4, 2) := by decide +kernel
theorem dX10_takeNumber_22 : decode cX10_takeNumber 22 = .ok (.iload 4, 2) := by decide +kernel
theorem dX10_takeNumber_24 : decode cX10_takeNumber 24 = .ok (.aload_n 0, 1) := by decide +kernel
theorem dX10_takeNumber_25 : decode cX10_takeNumber 25 = .ok (.getfield 37, 3) := by decide +kernel
theorem dX10_takeNumber_28 : decode cX10_takeNumber 28 = .ok (.if_icmp .ge 24, 3) := by decide +kernel
theorem dX10_takeNumber_31 : decode cX10_takeNumber 31 = .ok (.bipush 10, 2) := by decide +kernel
theorem dX10_takeNumber_33 : decode cX10_takeNumber 33 = .ok (.iload_n 3, 1) := by decide +kernel
theorem dX10_takeNumber_34 : decode cX10_takeNumber 34 = .ok (.imul, 1) := by decide +kernel
theorem dX10_takeNumber_35 : decode cX10_takeNumber 35 = .ok (.aload_n 0, 1) := by decide +kernel
theorem dX10_takeNumber_36 : decode cX10_takeNumber 36 = .ok (.iload 4, 2) := by decide +kernel
theorem dX10_takeNumber_38 : decode cX10_takeNumber 38 = .ok (.invokevirtual 26, 3) := by decide +kernel
theorem dX10_takeNumber_41 : decode cX10_takeNumber 41 = .ok (.iadd, 1) := by decide +kernel
theorem dX10_takeNumber_42 : decode cX10_takeNumber 42 = .ok (.bipush 48, 2) := by decide +kernel
theorem dX10_takeNumber_44 : decode cX10_takeNumber 44 = .ok (.isub, 1) := by decide +kernel
theorem dX10_takeNumber_45 : decode cX10_takeNumber 45 = .ok (.istore_n 3, 1) := by decide +kernel
theorem dX10_takeNumber_46 : decode cX10_takeNumber 46 = .ok (.iinc 4 1, 3) := by decide +kernel
theorem dX10_takeNumber_49 : decode cX10_takeNumber 49 = .ok (.goto (-27), 3) := by decide +kernel
theorem dX10_takeNumber_52 : decode cX10_takeNumber 52 = .ok (.iload_n 3, 1) := by decide +kernel
theorem dX10_takeNumber_53 : decode cX10_takeNumber 53 = .ok (.iload_n 1, 1) := by decide +kernel
theorem dX10_takeNumber_54 : decode cX10_takeNumber 54 = .ok (.iload_n 2, 1) := by decide +kernel
theorem dX10_takeNumber_55 : decode cX10_takeNumber 55 = .ok (.invokestatic 22, 3) := by decide +kernel
theorem dX10_takeNumber_58 : decode cX10_takeNumber 58 = .ok (.ifCond .ne 9, 3) := by decide +kernel
theorem dX10_takeNumber_61 : decode cX10_takeNumber 61 = .ok (.aload_n 0, 1) := by decide +kernel
theorem dX10_takeNumber_62 : decode cX10_takeNumber 62 = .ok (.iconst 2, 1) := by decide +kernel
theorem dX10_takeNumber_63 : decode cX10_takeNumber 63 = .ok (.invokevirtual 69, 3) := by decide +kernel
theorem dX10_takeNumber_66 : decode cX10_takeNumber 66 = .ok (.ireturn, 1) := by decide +kernel
theorem dX10_takeNumber_67 : decode cX10_takeNumber 67 = .ok (.aload_n 0, 1) := by decide +kernel
theorem dX10_takeNumber_68 : decode cX10_takeNumber 68 = .ok (.iload_n 3, 1) := by decide +kernel
theorem dX10_takeNumber_69 : decode cX10_takeNumber 69 = .ok (.putfield 73, 3) := by decide +kernel
theorem dX10_takeNumber_72 : decode cX10_takeNumber 72 = .ok (.aload_n 0, 1) := by decide +kernel
theorem dX10_takeNumber_73 : decode cX10_takeNumber 73 = .ok (.invokevirtual 40, 3) := by decide +kernel
theorem dX10_takeNumber_76 : decode cX10_takeNumber 76 = .ok (.iconst 1, 1) := by decide +kernel
theorem dX10_takeNumber_77 : decode cX10_takeNumber 77 = .ok (.ireturn, 1) := by decide +kernel
theorem dX11_init_0 : decode cX11_init 0 = .ok (.aload_n 0, 1) := by decide +kernel
theorem dX11_init_1 : decode cX11_init 1 = .ok (.invokespecial 3, 3) := by decide +kernel
theorem dX11_init_4 : decode cX11_init 4 = .ok (.aload_n 0, 1) := by decide +kernel
theorem dX11_init_5 : decode cX11_init 5 = .ok (.new 9, 3) := by decide +kernel
theorem dX11_init_8 : decode cX11_init 8 = .ok (.dup, 1) := by decide +kernel
theorem dX11_init_9 : decode cX11_init 9 = .ok (.invokespecial 11, 3) := by decide +kernel
theorem dX11_init_12 : decode cX11_init 12 = .ok (.putfield 12, 3) := by decide +kernel
theorem dX11_init_15 : decode cX11_init 15 = .ok (.aload_n 0, 1) := by decide +kernel
theorem dX11_init_16 : decode cX11_init 16 = .ok (.new 9, 3) := by decide +kernel
theorem dX11_init_19 : decode cX11_init 19 = .ok (.dup, 1) := by decide +kernel
theorem dX11_init_20 : decode cX11_init 20 = .ok (.invokespecial 11, 3) := by decide +kernel
theorem dX11_init_23 : decode cX11_init 23 = .ok (.putfield 16, 3) := by decide +kernel
theorem dX11_init_26 : decode cX11_init 26 = .ok (.aload_n 0, 1) := by decide +kernel
theorem dX11_init_27 : decode cX11_init 27 = .ok (.new 9, 3) := by decide +kernel
theorem dX11_init_30 : decode cX11_init 30 = .ok (.dup, 1) := by decide +kernel
theorem dX11_init_31 : decode cX11_init 31 = .ok (.invokespecial 11, 3) := by decide +kernel
theorem dX11_init_34 : decode cX11_init 34 = .ok (.putfield 19, 3) := by decide +kernel
theorem dX11_init_37 : decode cX11_init 37 = .ok (.aload_n 0, 1) := by decide +kernel
theorem dX11_init_38 : decode cX11_init 38 = .ok (.new 9, 3) := by decide +kernel
theorem dX11_init_41 : decode cX11_init 41 = .ok (.dup, 1) := by decide +kernel
theorem dX11_init_42 : decode cX11_init 42 = .ok (.invokespecial 11, 3) := by decide +kernel
theorem dX11_init_45 : decode cX11_init 45 = .ok (.putfield 22, 3) := by decide +kernel
theorem dX11_init_48 : decode cX11_init 48 = .ok (.aload_n 0, 1) := by decide +kernel
theorem dX11_init_49 : decode cX11_init 49 = .ok (.bipush 6, 2) := by decide +kernel
theorem dX11_init_51 : decode cX11_init 51 = .ok (.anewarray 9, 3) := by decide +kernel
theorem dX11_init_54 : decode cX11_init 54 = .ok (.putfield 25, 3) := by decide +kernel
theorem dX11_init_57 : decode cX11_init 57 = .ok (.aload_n 0, 1) := by decide +kernel
theorem dX11_init_58 : decode cX11_init 58 = .ok (.new 29, 3) := by decide +kernel
theorem dX11_init_61 : decode cX11_init 61 = .ok (.dup, 1) := by decide +kernel
theorem dX11_init_62 : decode cX11_init 62 = .ok (.invokespecial 31, 3) := by decide +kernel
theorem dX11_init_65 : decode cX11_init 65 = .ok (.putfield 32, 3) := by decide +kernel
theorem dX11_init_68 : decode cX11_init 68 = .ok (.aload_n 0, 1) := by decide +kernel
theorem dX11_init_69 : decode cX11_init 69 = .ok (.new 36, 3) := by decide +kernel
theorem dX11_init_72 : decode cX11_init 72 = .ok (.dup, 1) := by decide +kernel
theorem dX11_init_73 : decode cX11_init 73 = .ok (.invokespecial 38, 3) := by decide +kernel
theorem dX11_init_76 : decode cX11_init 76 = .ok (.putfield 39, 3) := by decide +kernel
theorem dX11_init_79 : decode cX11_init 79 = .ok (.aload_n 0, 1) := by decide +kernel
theorem dX11_init_80 : decode cX11_init 80 = .ok (.new 43, 3) := by decide +kernel
theorem dX11_init_83 : decode cX11_init 83 = .ok (.dup, 1) := by decide +kernel
theorem dX11_init_84 : decode cX11_init 84 = .ok (.invokespecial 45, 3) := by decide +kernel
theorem dX11_init_87 : decode cX11_init 87 = .ok (.putfield 46, 3) := by decide +kernel
theorem dX11_init_90 : decode cX11_init 90 = .ok (.aload_n 0, 1) := by decide +kernel
theorem dX11_init_91 : decode cX11_init 91 = .ok (.new 50, 3) := by decide +kernel
theorem dX11_init_94 : decode cX11_init 94 = .ok (.dup, 1) := by decide +kernel
theorem dX11_init_95 : decode cX11_init 95 = .ok (.invokespecial 52, 3) := by decide +kernel
theorem dX11_init_98 : decode cX11_init 98 = .ok (.putfield 53, 3) := by decide +kernel
theorem dX11_init_101 : decode cX11_init 101 = .ok (.aload_n 0, 1) := by decide +kernel
theorem dX11_init_102 : decode cX11_init 102 = .ok (.new 57, 3) := by decide +kernel
theorem dX11_init_105 : decode cX11_init 105 = .ok (.dup, 1) := by decide +kernel
theorem dX11_init_106 : decode cX11_init 106 = .ok (.invokespecial 59, 3) := by decide +kernel
theorem dX11_init_109 : decode cX11_init 109 = .ok (.putfield 60, 3) := by decide +kernel
theorem dX11_init_112 : decode cX11_init 112 = .ok (.aload_n 0, 1) := by decide +kernel
theorem dX11_init_113 : decode cX11_init 113 = .ok (.new 64, 3) := by decide +kernel
theorem dX11_init_116 : decode cX11_init 116 = .ok (.dup, 1) := by decide +kernel
theorem dX11_init_117 : decode cX11_init 117 = .ok (.invokespecial 66, 3) := by decide +kernel
theorem dX11_init_120 : decode cX11_init 120 = .ok (.putfield 67, 3) := by decide +kernel
theorem dX11_init_123 : decode cX11_init 123 = .ok (.iconst 0, 1) := by decide +kernel
theorem dX11_init_124 : decode cX11_init 124 = .ok (.istore_n 1, 1) := by decide +kernel
theorem dX11_init_125 : decode cX11_init 125 = .ok (.iload_n 1, 1) := by decide +kernel
theorem dX11_init_126 : decode cX11_init 126 = .ok (.bipush 6, 2) := by decide +kernel
theorem dX11_init_128 : decode cX11_init 128 = .ok (.if_icmp .ge 22, 3) := by decide +kernel
theorem dX11_init_131 : decode cX11_init 131 = .ok (.aload_n 0, 1) := by decide +kernel
theorem dX11_init_132 : decode cX11_init 132 = .ok (.getfield 25, 3) := by decide +kernel
theorem dX11_init_135 : decode cX11_init 135 = .ok (.iload_n 1, 1) := by decide +kernel
theorem dX11_init_136 : decode cX11_init 136 = .ok (.new 9, 3) := by decide +kernel
theorem dX11_init_139 : decode cX11_init 139 = .ok (.dup, 1) := by decide +kernel
theorem dX11_init_140 : decode cX11_init 140 = .ok (.invokespecial 11, 3) := by decide +kernel
theorem dX11_init_143 : decode cX11_init 143 = .ok (.aastore, 1) := by decide +kernel
theorem dX11_init_144 : decode cX11_init 144 = .ok (.iinc 1 1, 3) := by decide +kernel
theorem dX11_init_147 : decode cX11_init 147 = .ok (.goto (-22), 3) := by decide +kernel
theorem dX11_init_150 : decode cX11_init 150 = .ok (.return_, 1) := by decide +kernel
theorem dX11_feed_0 : decode cX11_feed 0 = .ok (.aload_n 0, 1) := by decide +kernel
theorem dX11_feed_1 : decode cX11_feed 1 = .ok (.getfield 46, 3) := by decide +kernel
theorem dX11_feed_4 : decode cX11_feed 4 = .ok (.getfield 71, 3) := by decide +kernel
theorem dX11_feed_7 : decode cX11_feed 7 = .ok (.bipush 20, 2) := by decide +kernel
theorem dX11_feed_9 : decode cX11_feed 9 = .ok (.iadd, 1) := by decide +kernel
theorem dX11_feed_10 : decode cX11_feed 10 = .ok (.sipush 500, 3) := by decide +kernel
theorem dX11_feed_13 : decode cX11_feed 13 = .ok (.if_icmp .le 13, 3) := by decide +kernel
theorem dX11_feed_16 : decode cX11_feed 16 = .ok (.new 75, 3) := by decide +kernel
theorem dX11_feed_19 : decode cX11_feed 19 = .ok (.dup, 1) := by decide +kernel
theorem dX11_feed_20 : decode cX11_feed 20 = .ok (.ldc 77, 2) := by decide +kernel
theorem dX11_feed_22 : decode cX11_feed 22 = .ok (.invokespecial 79, 3) := by decide +kernel
theorem dX11_feed_25 : decode cX11_feed 25 = .ok (.athrow, 1) := by decide +kernel
theorem dX11_feed_26 : decode cX11_feed 26 = .ok (.aload_n 0, 1) := by decide +kernel
theorem dX11_feed_27 : decode cX11_feed 27 = .ok (.getfield 46, 3) := by decide +kernel
theorem dX11_feed_30 : decode cX11_feed 30 = .ok (.iload_n 1, 1) := by decide +kernel
theorem dX11_feed_31 : decode cX11_feed 31 = .ok (.invokevirtual 82, 3) := by decide +kernel
theorem dX11_feed_34 : decode cX11_feed 34 = .ok (.aload_n 0, 1) := by decide +kernel
theorem dX11_feed_35 : decode cX11_feed 35 = .ok (.getfield 46, 3) := by decide +kernel
theorem dX11_feed_38 : decode cX11_feed 38 = .ok (.iload_n 2, 1) := by decide +kernel
theorem dX11_feed_39 : decode cX11_feed 39 = .ok (.invokevirtual 82, 3) := by decide +kernel
theorem dX11_feed_42 : decode cX11_feed 42 = .ok (.aload_n 0, 1) := by decide +kernel
theorem dX11_feed_43 : decode cX11_feed 43 = .ok (.getfield 46, 3) := by decide +kernel
theorem dX11_feed_46 : decode cX11_feed 46 = .ok (.iload_n 3, 1) := by decide +kernel
theorem dX11_feed_47 : decode cX11_feed 47 = .ok (.invokevirtual 82, 3) := by decide +kernel
theorem dX11_feed_50 : decode cX11_feed 50 = .ok (.aload_n 0, 1) := by decide +kernel
theorem dX11_feed_51 : decode cX11_feed 51 = .ok (.getfield 46, 3) := by decide +kernel
theorem dX11_feed_54 : decode cX11_feed 54 = .ok (.iload 4, 2) := by decide +kernel
theorem dX11_feed_56 : decode cX11_feed 56 = .ok (.invokevirtual 82, 3) := by decide +kernel
theorem dX11_feed_59 : decode cX11_feed 59 = .ok (.aload_n 0, 1) := by decide +kernel
theorem dX11_feed_60 : decode cX11_feed 60 = .ok (.getfield 46, 3) := by decide +kernel
theorem dX11_feed_63 : decode cX11_feed 63 = .ok (.iload 5, 2) := by decide +kernel
theorem dX11_feed_65 : decode cX11_feed 65 = .ok (.invokevirtual 82, 3) := by decide +kernel
theorem dX11_feed_68 : decode cX11_feed 68 = .ok (.aload_n 0, 1) := by decide +kernel
theorem dX11_feed_69 : decode cX11_feed 69 = .ok (.getfield 46, 3) := by decide +kernel
theorem dX11_feed_72 : decode cX11_feed 72 = .ok (.getfield 71, 3) := by decide +kernel
theorem dX11_feed_75 : decode cX11_feed 75 = .ok (.ireturn, 1) := by decide +kernel
theorem dX11_truncate_0 : decode cX11_truncate 0 = .ok (.iload_n 1, 1) := by decide +kernel
theorem dX11_truncate_1 : decode cX11_truncate 1 = .ok (.iconst 0, 1) := by decide +kernel
theorem dX11_truncate_2 : decode cX11_truncate 2 = .ok (.aload_n 0, 1) := by decide +kernel
theorem dX11_truncate_3 : decode cX11_truncate 3 = .ok (.getfield 46, 3) := by decide +kernel
theorem dX11_truncate_6 : decode cX11_truncate 6 = .ok (.getfield 71, 3) := by decide +kernel
theorem dX11_truncate_9 : decode cX11_truncate 9 = .ok (.invokestatic 86, 3) := by decide +kernel
theorem dX11_truncate_12 : decode cX11_truncate 12 = .ok (.ifCond .ne 13, 3) := by decide +kernel
theorem dX11_truncate_15 : decode cX11_truncate 15 = .ok (.new 90, 3) := by decide +kernel
theorem dX11_truncate_18 : decode cX11_truncate 18 = .ok (.dup, 1) := by decide +kernel
theorem dX11_truncate_19 : decode cX11_truncate 19 = .ok (.ldc 92, 2) := by decide +kernel
theorem dX11_truncate_21 : decode cX11_truncate 21 = .ok (.invokespecial 94, 3) := by decide +kernel
theorem dX11_truncate_24 : decode cX11_truncate 24 = .ok (.athrow, 1) := by decide +kernel
theorem dX11_truncate_25 : decode cX11_truncate 25 = .ok (.aload_n 0, 1) := by decide +kernel
theorem dX11_truncate_26 : decode cX11_truncate 26 = .ok (.getfield 46, 3) := by decide +kernel
theorem dX11_truncate_29 : decode cX11_truncate 29 = .ok (.iload_n 1, 1) := by decide +kernel
theorem dX11_truncate_30 : decode cX11_truncate 30 = .ok (.putfield 71, 3) := by decide +kernel
theorem dX11_truncate_33 : decode cX11_truncate 33 = .ok (.iload_n 1, 1) := by decide +kernel
theorem dX11_truncate_34 : decode cX11_truncate 34 = .ok (.ireturn, 1) := by decide +kernel
theorem dX11_readText_0 : decode cX11_readText 0 = .ok (.aload_n 0, 1) := by decide +kernel
theorem dX11_readText_1 : decode cX11_readText 1 = .ok (.getfield 53, 3) := by decide +kernel
theorem dX11_readText_4 : decode cX11_readText 4 = .ok (.aload_n 0, 1) := by decide +kernel
theorem dX11_readText_5 : decode cX11_readText 5 = .ok (.getfield 16, 3) := by decide +kernel
theorem dX11_readText_8 : decode cX11_readText 8 = .ok (.aload_n 0, 1) := by decide +kernel
theorem dX11_readText_9 : decode cX11_readText 9 = .ok (.getfield 46, 3) := by decide +kernel
theorem dX11_readText_12 : decode cX11_readText 12 = .ok (.invokevirtual 95, 3) := by decide +kernel
theorem dX11_readText_15 : decode cX11_readText 15 = .ok (.istore_n 1, 1) := by decide +kernel
theorem dX11_readText_16 : decode cX11_readText 16 = .ok (.aload_n 0, 1) := by decide +kernel
theorem dX11_readText_17 : decode cX11_readText 17 = .ok (.getfield 46, 3) := by decide +kernel
theorem dX11_readText_20 : decode cX11_readText 20 = .ok (.iconst 0, 1) := by decide +kernel
theorem dX11_readText_21 : decode cX11_readText 21 = .ok (.putfield 71, 3) := by decide +kernel
theorem dX11_readText_24 : decode cX11_readText 24 = .ok (.iload_n 1, 1) := by decide +kernel
theorem dX11_readText_25 : decode cX11_readText 25 = .ok (.ifCond .ne 13, 3) := by decide +kernel
theorem dX11_readText_28 : decode cX11_readText 28 = .ok (.new 90, 3) := by decide +kernel
theorem dX11_readText_31 : decode cX11_readText 31 = .ok (.dup, 1) := by decide +kernel
theorem dX11_readText_32 : decode cX11_readText 32 = .ok (.ldc 99, 2) := by decide +kernel
theorem dX11_readText_34 : decode cX11_readText 34 = .ok (.invokespecial 94, 3) := by decide +kernel
theorem dX11_readText_37 : decode cX11_readText 37 = .ok (.athrow, 1) := by decide +kernel
theorem dX11_readText_38 : decode cX11_readText 38 = .ok (.aload_n 0, 1) := by decide +kernel
theorem dX11_readText_39 : decode cX11_readText 39 = .ok (.getfield 12, 3) := by decide +kernel
theorem dX11_readText_42 : decode cX11_readText 42 = .ok (.aload_n 0, 1) := by decide +kernel
theorem dX11_readText_43 : decode cX11_readText 43 = .ok (.getfield 16, 3) := by decide +kernel
theorem dX11_readText_46 : decode cX11_readText 46 = .ok (.invokevirtual 101, 3) := by decide +kernel
theorem dX11_readText_49 : decode cX11_readText 49 = .ok (.aload_n 0, 1) := by decide +kernel
theorem dX11_readText_50 : decode cX11_readText 50 = .ok (.iconst 0, 1) := by decide +kernel
theorem dX11_readText_51 : decode cX11_readText 51 = .ok (.putfield 105, 3) := by decide +kernel
theorem dX11_readText_54 : decode cX11_readText 54 = .ok (.aload_n 0, 1) := by decide +kernel
theorem dX11_readText_55 : decode cX11_readText 55 = .ok (.getfield 12, 3) := by decide +kernel
theorem dX11_readText_58 : decode cX11_readText 58 = .ok (.getfield 108, 3) := by decide +kernel
theorem dX11_readText_61 : decode cX11_readText 61 = .ok (.getfield 112, 3) := by decide +kernel
theorem dX11_readText_64 : decode cX11_readText 64 = .ok (.ireturn, 1) := by decide +kernel
theorem dX11_runScript_0 : decode cX11_runScript 0 = .ok (.aload_n 0, 1) := by decide +kernel
theorem dX11_runScript_1 : decode cX11_runScript 1 = .ok (.getfield 60, 3) := by decide +kernel
theorem dX11_runScript_4 : decode cX11_runScript 4 = .ok (.aload_n 0, 1) := by decide +kernel
theorem dX11_runScript_5 : decode cX11_runScript 5 = .ok (.getfield 46, 3) := by decide +kernel
theorem dX11_runScript_8 : decode cX11_runScript 8 = .ok (.invokevirtual 117, 3) := by decide +kernel
theorem dX11_runScript_11 : decode cX11_runScript 11 = .ok (.istore_n 1, 1) := by decide +kernel
theorem dX11_runScript_12 : decode cX11_runScript 12 = .ok (.aload_n 0, 1) := by decide +kernel
theorem dX11_runScript_13 : decode cX11_runScript 13 = .ok (.getfield 46, 3) := by decide +kernel
theorem dX11_runScript_16 : decode cX11_runScript 16 = .ok (.iconst 0, 1) := by decide +kernel
theorem dX11_runScript_17 : decode cX11_runScript 17 = .ok (.putfield 71, 3) := by decide +kernel
theorem dX11_runScript_20 : decode cX11_runScript 20 = .ok (.iload_n 1, 1) := by decide +kernel
theorem dX11_runScript_21 : decode cX11_runScript 21 = .ok (.ifCond .ne 13, 3) := by decide +kernel
theorem dX11_runScript_24 : decode cX11_runScript 24 = .ok (.new 90, 3) := by decide +kernel
theorem dX11_runScript_27 : decode cX11_runScript 27 = .ok (.dup, 1) := by decide +kernel
theorem dX11_runScript_28 : decode cX11_runScript 28 = .ok (.ldc 121, 2) := by decide +kernel
theorem dX11_runScript_30 : decode cX11_runScript 30 = .ok (.invokespecial 94, 3) := by decide +kernel
theorem dX11_runScript_33 : decode cX11_runScript 33 = .ok (.athrow, 1) := by decide +kernel
theorem dX11_runScript_34 : decode cX11_runScript 34 = .ok (.aload_n 0, 1) := by decide +kernel
theorem dX11_runScript_35 : decode cX11_runScript 35 = .ok (.invokevirtual 123, 3) := by decide +kernel
theorem dX11_runScript_38 : decode cX11_runScript 38 = .ok (.aload_n 0, 1) := by decide +kernel
theorem dX11_runScript_39 : decode cX11_runScript 39 = .ok (.getfield 60, 3) := by decide +kernel
theorem dX11_runScript_42 : decode cX11_runScript 42 = .ok (.aload_n 0, 1) := by decide +kernel
theorem dX11_runScript_43 : decode cX11_runScript 43 = .ok (.getfield 12, 3) := by decide +kernel
theorem dX11_runScript_46 : decode cX11_runScript 46 = .ok (.invokevirtual 126, 3) := by decide +kernel
theorem dX11_runScript_49 : decode cX11_runScript 49 = .ok (.ireturn, 1) := by decide +kernel
theorem dX11_errorCode_0 : decode cX11_errorCode 0 = .ok (.aload_n 0, 1) := by decide +kernel
theorem dX11_errorCode_1 : decode cX11_errorCode 1 = .ok (.getfield 46, 3) := by decide +kernel
theorem dX11_errorCode_4 : decode cX11_errorCode 4 = .ok (.getfield 130, 3) := by decide +kernel
theorem dX11_errorCode_7 : decode cX11_errorCode 7 = .ok (.ireturn, 1) := by decide +kernel
theorem dX11_errorPosition_0 : decode cX11_errorPosition 0 = .ok (.aload_n 0, 1) := by decide +kernel
theorem dX11_errorPosition_1 : decode cX11_errorPosition 1 = .ok (.getfield 46, 3) := by decide +kernel
theorem dX11_errorPosition_4 : decode cX11_errorPosition 4 = .ok (.getfield 133, 3) := by decide +kernel
theorem dX11_errorPosition_7 : decode cX11_errorPosition 7 = .ok (.ireturn, 1) := by decide +kernel
theorem dX11_setting_0 : decode cX11_setting 0 = .ok (.iload_n 1, 1) := by decide +kernel
theorem dX11_setting_1 : decode cX11_setting 1 = .ok (.tableswitch 210 0 13 #[71, 82, 93, 104, 115, 126, 137, 145, 156, 167, 172, 183, 194, 205], 71) := by decide +kernel
theorem dX11_setting_72 : decode cX11_setting 72 = .ok (.aload_n 0, 1) := by decide +kernel
theorem dX11_setting_73 : decode cX11_setting 73 = .ok (.getfield 12, 3) := by decide +kernel
theorem dX11_setting_76 : decode cX11_setting 76 = .ok (.getfield 136, 3) := by decide +kernel
theorem dX11_setting_79 : decode cX11_setting 79 = .ok (.getfield 140, 3) := by decide +kernel
theorem dX11_setting_82 : decode cX11_setting 82 = .ok (.ireturn, 1) := by decide +kernel
theorem dX11_setting_83 : decode cX11_setting 83 = .ok (.aload_n 0, 1) := by decide +kernel
theorem dX11_setting_84 : decode cX11_setting 84 = .ok (.getfield 12, 3) := by decide +kernel
theorem dX11_setting_87 : decode cX11_setting 87 = .ok (.getfield 108, 3) := by decide +kernel
theorem dX11_setting_90 : decode cX11_setting 90 = .ok (.getfield 112, 3) := by decide +kernel
theorem dX11_setting_93 : decode cX11_setting 93 = .ok (.ireturn, 1) := by decide +kernel
theorem dX11_setting_94 : decode cX11_setting 94 = .ok (.aload_n 0, 1) := by decide +kernel
theorem dX11_setting_95 : decode cX11_setting 95 = .ok (.getfield 12, 3) := by decide +kernel
theorem dX11_setting_98 : decode cX11_setting 98 = .ok (.getfield 145, 3) := by decide +kernel
theorem dX11_setting_101 : decode cX11_setting 101 = .ok (.getfield 149, 3) := by decide +kernel
theorem dX11_setting_104 : decode cX11_setting 104 = .ok (.ireturn, 1) := by decide +kernel
theorem dX11_setting_105 : decode cX11_setting 105 = .ok (.aload_n 0, 1) := by decide +kernel
theorem dX11_setting_106 : decode cX11_setting 106 = .ok (.getfield 12, 3) := by decide +kernel
theorem dX11_setting_109 : decode cX11_setting 109 = .ok (.getfield 136, 3) := by decide +kernel
theorem dX11_setting_112 : decode cX11_setting 112 = .ok (.invokevirtual 154, 3) := by decide +kernel
theorem dX11_setting_115 : decode cX11_setting 115 = .ok (.ireturn, 1) := by decide +kernel
theorem dX11_setting_116 : decode cX11_setting 116 = .ok (.aload_n 0, 1) := by decide +kernel
theorem dX11_setting_117 : decode cX11_setting 117 = .ok (.getfield 12, 3) := by decide +kernel
theorem dX11_setting_120 : decode cX11_setting 120 = .ok (.getfield 136, 3) := by decide +kernel
theorem dX11_setting_123 : decode cX11_setting 123 = .ok (.invokevirtual 158, 3) := by decide +kernel
theorem dX11_setting_126 : decode cX11_setting 126 = .ok (.ireturn, 1) := by decide +kernel
theorem dX11_setting_127 : decode cX11_setting 127 = .ok (.aload_n 0, 1) := by decide +kernel
theorem dX11_setting_128 : decode cX11_setting 128 = .ok (.getfield 12, 3) := by decide +kernel
theorem dX11_setting_131 : decode cX11_setting 131 = .ok (.getfield 161, 3) := by decide +kernel
theorem dX11_setting_134 : decode cX11_setting 134 = .ok (.getfield 164, 3) := by decide +kernel
theorem dX11_setting_137 : decode cX11_setting 137 = .ok (.ireturn, 1) := by decide +kernel
theorem dX11_setting_138 : decode cX11_setting 138 = .ok (.aload_n 0, 1) := by decide +kernel
theorem dX11_setting_139 : decode cX11_setting 139 = .ok (.getfield 12, 3) := by decide +kernel
theorem dX11_setting_142 : decode cX11_setting 142 = .ok (.getfield 167, 3) := by decide +kernel
theorem dX11_setting_145 : decode cX11_setting 145 = .ok (.ireturn, 1) := by decide +kernel
theorem dX11_setting_146 : decode cX11_setting 146 = .ok (.aload_n 0, 1) := by decide +kernel
theorem dX11_setting_147 : decode cX11_setting 147 = .ok (.getfield 12, 3) := by decide +kernel
theorem dX11_setting_150 : decode cX11_setting 150 = .ok (.getfield 170, 3) := by decide +kernel
theorem dX11_setting_153 : decode cX11_setting 153 = .ok (.getfield 174, 3) := by decide +kernel
theorem dX11_setting_156 : decode cX11_setting 156 = .ok (.ireturn, 1) := by decide +kernel
theorem dX11_setting_157 : decode cX11_setting 157 = .ok (.aload_n 0, 1) := by decide +kernel
theorem dX11_setting_158 : decode cX11_setting 158 = .ok (.getfield 12, 3) := by decide +kernel
theorem dX11_setting_161 : decode cX11_setting 161 = .ok (.getfield 108, 3) := by decide +kernel
theorem dX11_setting_164 : decode cX11_setting 164 = .ok (.invokevirtual 177, 3) := by decide +kernel
theorem dX11_setting_167 : decode cX11_setting 167 = .ok (.ireturn, 1) := by decide +kernel
theorem dX11_setting_168 : decode cX11_setting 168 = .ok (.aload_n 0, 1) := by decide +kernel
theorem dX11_setting_169 : decode cX11_setting 169 = .ok (.invokevirtual 180, 3) := by decide +kernel
theorem dX11_setting_172 : decode cX11_setting 172 = .ok (.ireturn, 1) := by decide +kernel
theorem dX11_setting_173 : decode cX11_setting 173 = .ok (.aload_n 0, 1) := by decide +kernel
theorem dX11_setting_174 : decode cX11_setting 174 = .ok (.getfield 12, 3) := by decide +kernel
theorem dX11_setting_177 : decode cX11_setting 177 = .ok (.getfield 161, 3) := by decide +kernel
theorem dX11_setting_180 : decode cX11_setting 180 = .ok (.getfield 183, 3) := by decide +kernel
theorem dX11_setting_183 : decode cX11_setting 183 = .ok (.ireturn, 1) := by decide +kernel
theorem dX11_setting_184 : decode cX11_setting 184 = .ok (.aload_n 0, 1) := by decide +kernel
theorem dX11_setting_185 : decode cX11_setting 185 = .ok (.getfield 12, 3) := by decide +kernel
theorem dX11_setting_188 : decode cX11_setting 188 = .ok (.getfield 161, 3) := by decide +kernel
theorem dX11_setting_191 : decode cX11_setting 191 = .ok (.getfield 186, 3) := by decide +kernel
theorem dX11_setting_194 : decode cX11_setting 194 = .ok (.ireturn, 1) := by decide +kernel
theorem dX11_setting_195 : decode cX11_setting 195 = .ok (.aload_n 0, 1) := by decide +kernel
theorem dX11_setting_196 : decode cX11_setting 196 = .ok (.getfield 12, 3) := by decide +kernel
theorem dX11_setting_199 : decode cX11_setting 199 = .ok (.getfield 161, 3) := by decide +kernel
theorem dX11_setting_202 : decode cX11_setting 202 = .ok (.getfield 189, 3) := by decide +kernel
theorem dX11_setting_205 : decode cX11_setting 205 = .ok (.ireturn, 1) := by decide +kernel
theorem dX11_setting_206 : decode cX11_setting 206 = .ok (.aload_n 0, 1) := by decide +kernel
theorem dX11_setting_207 : decode cX11_setting 207 = .ok (.getfield 105, 3) := by decide +kernel
theorem dX11_setting_210 : decode cX11_setting 210 = .ok (.ireturn, 1) := by decide +kernel
theorem dX11_setting_211 : decode cX11_setting 211 = .ok (.new 90, 3) := by decide +kernel
theorem dX11_setting_214 : decode cX11_setting 214 = .ok (.dup, 1) := by decide +kernel
theorem dX11_setting_215 : decode cX11_setting 215 = .ok (.ldc 192, 2) := by decide +kernel
theorem dX11_setting_217 : decode cX11_setting 217 = .ok (.invokespecial 94, 3) := by decide +kernel
theorem dX11_setting_220 : decode cX11_setting 220 = .ok (.athrow, 1) := by decide +kernel
theorem dX11_arc_0 : decode cX11_arc 0 = .ok (.aload_n 0, 1) := by decide +kernel
theorem dX11_arc_1 : decode cX11_arc 1 = .ok (.getfield 12, 3) := by decide +kernel
theorem dX11_arc_4 : decode cX11_arc 4 = .ok (.iload_n 1, 1) := by decide +kernel
theorem dX11_arc_5 : decode cX11_arc 5 = .ok (.invokevirtual 194, 3) := by decide +kernel
theorem dX11_arc_8 : decode cX11_arc 8 = .ok (.ifCond .ne 13, 3) := by decide +kernel
theorem dX11_arc_11 : decode cX11_arc 11 = .ok (.new 198, 3) := by decide +kernel
theorem dX11_arc_14 : decode cX11_arc 14 = .ok (.dup, 1) := by decide +kernel
theorem dX11_arc_15 : decode cX11_arc 15 = .ok (.ldc 200, 2) := by decide +kernel
theorem dX11_arc_17 : decode cX11_arc 17 = .ok (.invokespecial 202, 3) := by decide +kernel
theorem dX11_arc_20 : decode cX11_arc 20 = .ok (.athrow, 1) := by decide +kernel
theorem dX11_arc_21 : decode cX11_arc 21 = .ok (.iload_n 2, 1) := by decide +kernel
theorem dX11_arc_22 : decode cX11_arc 22 = .ok (.tableswitch 135 0 6 #[42, 55, 68, 89, 102, 114, 126], 42) := by decide +kernel
theorem dX11_arc_64 : decode cX11_arc 64 = .ok (.aload_n 0, 1) := by decide +kernel
theorem dX11_arc_65 : decode cX11_arc 65 = .ok (.getfield 12, 3) := by decide +kernel
theorem dX11_arc_68 : decode cX11_arc 68 = .ok (.getfield 136, 3) := by decide +kernel
theorem dX11_arc_71 : decode cX11_arc 71 = .ok (.getfield 203, 3) := by decide +kernel
theorem dX11_arc_74 : decode cX11_arc 74 = .ok (.iload_n 1, 1) := by decide +kernel
theorem dX11_arc_75 : decode cX11_arc 75 = .ok (.iaload, 1) := by decide +kernel
theorem dX11_arc_76 : decode cX11_arc 76 = .ok (.ireturn, 1) := by decide +kernel
theorem dX11_arc_77 : decode cX11_arc 77 = .ok (.aload_n 0, 1) := by decide +kernel
theorem dX11_arc_78 : decode cX11_arc 78 = .ok (.getfield 12, 3) := by decide +kernel
theorem dX11_arc_81 : decode cX11_arc 81 = .ok (.getfield 136, 3) := by decide +kernel
theorem dX11_arc_84 : decode cX11_arc 84 = .ok (.getfield 207, 3) := by decide +kernel
theorem dX11_arc_87 : decode cX11_arc 87 = .ok (.iload_n 1, 1) := by decide +kernel
theorem dX11_arc_88 : decode cX11_arc 88 = .ok (.iaload, 1) := by decide +kernel
theorem dX11_arc_89 : decode cX11_arc 89 = .ok (.ireturn, 1) := by decide +kernel
theorem dX11_arc_90 : decode cX11_arc 90 = .ok (.aload_n 0, 1) := by decide +kernel
theorem dX11_arc_91 : decode cX11_arc 91 = .ok (.getfield 12, 3) := by decide +kernel
theorem dX11_arc_94 : decode cX11_arc 94 = .ok (.getfield 136, 3) := by decide +kernel
theorem dX11_arc_97 : decode cX11_arc 97 = .ok (.getfield 210, 3) := by decide +kernel
theorem dX11_arc_100 : decode cX11_arc 100 = .ok (.iload_n 1, 1) := by decide +kernel
theorem dX11_arc_101 : decode cX11_arc 101 = .ok (.baload, 1) := by decide +kernel
theorem dX11_arc_102 : decode cX11_arc 102 = .ok (.ifCond .eq 7, 3) := by decide +kernel
theorem dX11_arc_105 : decode cX11_arc 105 = .ok (.iconst 1, 1) := by decide +kernel
theorem dX11_arc_106 : decode cX11_arc 106 = .ok (.goto 4, 3) := by decide +kernel
theorem dX11_arc_109 : decode cX11_arc 109 = .ok (.iconst 0, 1) := by decide +kernel
theorem dX11_arc_110 : decode cX11_arc 110 = .ok (.ireturn, 1) := by decide +kernel
theorem dX11_arc_111 : decode cX11_arc 111 = .ok (.aload_n 0, 1) := by decide +kernel
theorem dX11_arc_112 : decode cX11_arc 112 = .ok (.getfield 12, 3) := by decide +kernel
theorem dX11_arc_115 : decode cX11_arc 115 = .ok (.getfield 136, 3) := by decide +kernel
theorem dX11_arc_118 : decode cX11_arc 118 = .ok (.getfield 214, 3) := by decide +kernel
theorem dX11_arc_121 : decode cX11_arc 121 = .ok (.iload_n 1, 1) := by decide +kernel
theorem dX11_arc_122 : decode cX11_arc 122 = .ok (.iaload, 1) := by decide +kernel
theorem dX11_arc_123 : decode cX11_arc 123 = .ok (.ireturn, 1) := by decide +kernel
theorem dX11_arc_124 : decode cX11_arc 124 = .ok (.aload_n 0, 1) := by decide +kernel
theorem dX11_arc_125 : decode cX11_arc 125 = .ok (.getfield 12, 3) := by decide +kernel
theorem dX11_arc_128 : decode cX11_arc 128 = .ok (.getfield 136, 3) := by decide +kernel
theorem dX11_arc_131 : decode cX11_arc 131 = .ok (.iload_n 1, 1) := by decide +kernel
theorem dX11_arc_132 : decode cX11_arc 132 = .ok (.invokevirtual 217, 3) := by decide +kernel
theorem dX11_arc_135 : decode cX11_arc 135 = .ok (.ireturn, 1) := by decide +kernel
theorem dX11_arc_136 : decode cX11_arc 136 = .ok (.aload_n 0, 1) := by decide +kernel
theorem dX11_arc_137 : decode cX11_arc 137 = .ok (.getfield 12, 3) := by decide +kernel
theorem dX11_arc_140 : decode cX11_arc 140 = .ok (.getfield 136, 3) := by decide +kernel
theorem dX11_arc_143 : decode cX11_arc 143 = .ok (.iload_n 1, 1) := by decide +kernel
theorem dX11_arc_144 : decode cX11_arc 144 = .ok (.invokevirtual 221, 3) := by decide +kernel
theorem dX11_arc_147 : decode cX11_arc 147 = .ok (.ireturn, 1) := by decide +kernel
theorem dX11_arc_148 : decode cX11_arc 148 = .ok (.aload_n 0, 1) := by decide +kernel
theorem dX11_arc_149 : decode cX11_arc 149 = .ok (.getfield 12, 3) := by decide +kernel
theorem dX11_arc_152 : decode cX11_arc 152 = .ok (.iload_n 1, 1) := by decide +kernel
theorem dX11_arc_153 : decode cX11_arc 153 = .ok (.invokevirtual 224, 3) := by decide +kernel
theorem dX11_arc_156 : decode cX11_arc 156 = .ok (.ireturn, 1) := by decide +kernel
theorem dX11_arc_157 : decode cX11_arc 157 = .ok (.new 90, 3) := by decide +kernel
theorem dX11_arc_160 : decode cX11_arc 160 = .ok (.dup, 1) := by decide +kernel
theorem dX11_arc_161 : decode cX11_arc 161 = .ok (.ldc 227, 2) := by decide +kernel
theorem dX11_arc_163 : decode cX11_arc 163 = .ok (.invokespecial 94, 3) := by decide +kernel
theorem dX11_arc_166 : decode cX11_arc 166 = .ok (.athrow, 1) := by decide +kernel
theorem dX11_letter_0 : decode cX11_letter 0 = .ok (.aload_n 0, 1) := by decide +kernel
theorem dX11_letter_1 : decode cX11_letter 1 = .ok (.getfield 12, 3) := by decide +kernel
theorem dX11_letter_4 : decode cX11_letter 4 = .ok (.iload_n 1, 1) := by decide +kernel
theorem dX11_letter_5 : decode cX11_letter 5 = .ok (.invokevirtual 229, 3) := by decide +kernel
theorem dX11_letter_8 : decode cX11_letter 8 = .ok (.ifCond .ne 13, 3) := by decide +kernel
theorem dX11_letter_11 : decode cX11_letter 11 = .ok (.new 198, 3) := by decide +kernel
theorem dX11_letter_14 : decode cX11_letter 14 = .ok (.dup, 1) := by decide +kernel
theorem dX11_letter_15 : decode cX11_letter 15 = .ok (.ldc 232, 2) := by decide +kernel
theorem dX11_letter_17 : decode cX11_letter 17 = .ok (.invokespecial 202, 3) := by decide +kernel
theorem dX11_letter_20 : decode cX11_letter 20 = .ok (.athrow, 1) := by decide +kernel
theorem dX11_letter_21 : decode cX11_letter 21 = .ok (.iload_n 2, 1) := by decide +kernel
theorem dX11_letter_22 : decode cX11_letter 22 = .ok (.tableswitch 227 0 12 #[66, 79, 91, 100, 109, 118, 127, 146, 155, 176, 190, 202, 215], 66) := by decide +kernel
theorem dX11_letter_88 : decode cX11_letter 88 = .ok (.aload_n 0, 1) := by decide +kernel
theorem dX11_letter_89 : decode cX11_letter 89 = .ok (.getfield 12, 3) := by decide +kernel
theorem dX11_letter_92 : decode cX11_letter 92 = .ok (.getfield 108, 3) := by decide +kernel
theorem dX11_letter_95 : decode cX11_letter 95 = .ok (.getfield 234, 3) := by decide +kernel
theorem dX11_letter_98 : decode cX11_letter 98 = .ok (.iload_n 1, 1) := by decide +kernel
theorem dX11_letter_99 : decode cX11_letter 99 = .ok (.iaload, 1) := by decide +kernel
theorem dX11_letter_100 : decode cX11_letter 100 = .ok (.ireturn, 1) := by decide +kernel
theorem dX11_letter_101 : decode cX11_letter 101 = .ok (.aload_n 0, 1) := by decide +kernel
theorem dX11_letter_102 : decode cX11_letter 102 = .ok (.getfield 12, 3) := by decide +kernel
theorem dX11_letter_105 : decode cX11_letter 105 = .ok (.getfield 108, 3) := by decide +kernel
theorem dX11_letter_108 : decode cX11_letter 108 = .ok (.iload_n 1, 1) := by decide +kernel
theorem dX11_letter_109 : decode cX11_letter 109 = .ok (.invokevirtual 237, 3) := by decide +kernel
theorem dX11_letter_112 : decode cX11_letter 112 = .ok (.ireturn, 1) := by decide +kernel
theorem dX11_letter_113 : decode cX11_letter 113 = .ok (.aload_n 0, 1) := by decide +kernel
theorem dX11_letter_114 : decode cX11_letter 114 = .ok (.getfield 12, 3) := by decide +kernel
theorem dX11_letter_117 : decode cX11_letter 117 = .ok (.iload_n 1, 1) := by decide +kernel
theorem dX11_letter_118 : decode cX11_letter 118 = .ok (.invokevirtual 240, 3) := by decide +kernel
theorem dX11_letter_121 : decode cX11_letter 121 = .ok (.ireturn, 1) := by decide +kernel
theorem dX11_letter_122 : decode cX11_letter 122 = .ok (.aload_n 0, 1) := by decide +kernel
theorem dX11_letter_123 : decode cX11_letter 123 = .ok (.getfield 12, 3) := by decide +kernel
theorem dX11_letter_126 : decode cX11_letter 126 = .ok (.iload_n 1, 1) := by decide +kernel
theorem dX11_letter_127 : decode cX11_letter 127 = .ok (.invokevirtual 243, 3) := by decide +kernel
theorem dX11_letter_130 : decode cX11_letter 130 = .ok (.ireturn, 1) := by decide +kernel
theorem dX11_letter_131 : decode cX11_letter 131 = .ok (.aload_n 0, 1) := by decide +kernel
theorem dX11_letter_132 : decode cX11_letter 132 = .ok (.getfield 12, 3) := by decide +kernel
theorem dX11_letter_135 : decode cX11_letter 135 = .ok (.iload_n 1, 1) := by decide +kernel
theorem dX11_letter_136 : decode cX11_letter 136 = .ok (.invokevirtual 246, 3) := by decide +kernel
theorem dX11_letter_139 : decode cX11_letter 139 = .ok (.ireturn, 1) := by decide +kernel
theorem dX11_letter_140 : decode cX11_letter 140 = .ok (.aload_n 0, 1) := by decide +kernel
theorem dX11_letter_141 : decode cX11_letter 141 = .ok (.getfield 12, 3) := by decide +kernel
theorem dX11_letter_144 : decode cX11_letter 144 = .ok (.iload_n 1, 1) := by decide +kernel
theorem dX11_letter_145 : decode cX11_letter 145 = .ok (.invokevirtual 249, 3) := by decide +kernel
theorem dX11_letter_148 : decode cX11_letter 148 = .ok (.ireturn, 1) := by decide +kernel
theorem dX11_letter_149 : decode cX11_letter 149 = .ok (.aload_n 0, 1) := by decide +kernel
theorem dX11_letter_150 : decode cX11_letter 150 = .ok (.getfield 12, 3) := by decide +kernel
theorem dX11_letter_153 : decode cX11_letter 153 = .ok (.getfield 136, 3) := by decide +kernel
theorem dX11_letter_156 : decode cX11_letter 156 = .ok (.aload_n 0, 1) := by decide +kernel
theorem dX11_letter_157 : decode cX11_letter 157 = .ok (.getfield 12, 3) := by decide +kernel
theorem dX11_letter_160 : decode cX11_letter 160 = .ok (.iload_n 1, 1) := by decide +kernel
theorem dX11_letter_161 : decode cX11_letter 161 = .ok (.invokevirtual 240, 3) := by decide +kernel
theorem dX11_letter_164 : decode cX11_letter 164 = .ok (.invokevirtual 252, 3) := by decide +kernel
theorem dX11_letter_167 : decode cX11_letter 167 = .ok (.ireturn, 1) := by decide +kernel
theorem dX11_letter_168 : decode cX11_letter 168 = .ok (.aload_n 0, 1) := by decide +kernel
theorem dX11_letter_169 : decode cX11_letter 169 = .ok (.getfield 12, 3) := by decide +kernel
theorem dX11_letter_172 : decode cX11_letter 172 = .ok (.iload_n 1, 1) := by decide +kernel
theorem dX11_letter_173 : decode cX11_letter 173 = .ok (.invokevirtual 255, 3) := by decide +kernel
theorem dX11_letter_176 : decode cX11_letter 176 = .ok (.ireturn, 1) := by decide +kernel
theorem dX11_letter_177 : decode cX11_letter 177 = .ok (.aload_n 0, 1) := by decide +kernel
theorem dX11_letter_178 : decode cX11_letter 178 = .ok (.getfield 12, 3) := by decide +kernel
theorem dX11_letter_181 : decode cX11_letter 181 = .ok (.getfield 108, 3) := by decide +kernel
theorem dX11_letter_184 : decode cX11_letter 184 = .ok (.getfield 258, 3) := by decide +kernel
theorem dX11_letter_187 : decode cX11_letter 187 = .ok (.iload_n 1, 1) := by decide +kernel
theorem dX11_letter_188 : decode cX11_letter 188 = .ok (.baload, 1) := by decide +kernel
theorem dX11_letter_189 : decode cX11_letter 189 = .ok (.ifCond .eq 7, 3) := by decide +kernel
theorem dX11_letter_192 : decode cX11_letter 192 = .ok (.iconst 1, 1) := by decide +kernel
theorem dX11_letter_193 : decode cX11_letter 193 = .ok (.goto 4, 3) := by decide +kernel
theorem dX11_letter_196 : decode cX11_letter 196 = .ok (.iconst 0, 1) := by decide +kernel
theorem dX11_letter_197 : decode cX11_letter 197 = .ok (.ireturn, 1) := by decide +kernel
theorem dX11_letter_198 : decode cX11_letter 198 = .ok (.aload_n 0, 1) := by decide +kernel
theorem dX11_letter_199 : decode cX11_letter 199 = .ok (.iload_n 1, 1) := by decide +kernel
theorem dX11_letter_200 : decode cX11_letter 200 = .ok (.invokevirtual 261, 3) := by decide +kernel
theorem dX11_letter_203 : decode cX11_letter 203 = .ok (.ifCond .eq 7, 3) := by decide +kernel
theorem dX11_letter_206 : decode cX11_letter 206 = .ok (.iconst 1, 1) := by decide +kernel
theorem dX11_letter_207 : decode cX11_letter 207 = .ok (.goto 4, 3) := by decide +kernel
theorem dX11_letter_210 : decode cX11_letter 210 = .ok (.iconst 0, 1) := by decide +kernel
theorem dX11_letter_211 : decode cX11_letter 211 = .ok (.ireturn, 1) := by decide +kernel
theorem dX11_letter_212 : decode cX11_letter 212 = .ok (.aload_n 0, 1) := by decide +kernel
theorem dX11_letter_213 : decode cX11_letter 213 = .ok (.getfield 12, 3) := by decide +kernel
theorem dX11_letter_216 : decode cX11_letter 216 = .ok (.getfield 108, 3) := by decide +kernel
theorem dX11_letter_219 : decode cX11_letter 219 = .ok (.iload_n 1, 1) := by decide +kernel
theorem dX11_letter_220 : decode cX11_letter 220 = .ok (.invokevirtual 264, 3) := by decide +kernel
theorem dX11_letter_223 : decode cX11_letter 223 = .ok (.ireturn, 1) := by decide +kernel
theorem dX11_letter_224 : decode cX11_letter 224 = .ok (.aload_n 0, 1) := by decide +kernel
theorem dX11_letter_225 : decode cX11_letter 225 = .ok (.getfield 12, 3) := by decide +kernel
theorem dX11_letter_228 : decode cX11_letter 228 = .ok (.getfield 108, 3) := by decide +kernel
theorem dX11_letter_231 : decode cX11_letter 231 = .ok (.getfield 267, 3) := by decide +kernel
theorem dX11_letter_234 : decode cX11_letter 234 = .ok (.iload_n 1, 1) := by decide +kernel
theorem dX11_letter_235 : decode cX11_letter 235 = .ok (.iaload, 1) := by decide +kernel
theorem dX11_letter_236 : decode cX11_letter 236 = .ok (.ireturn, 1) := by decide +kernel
theorem dX11_letter_237 : decode cX11_letter 237 = .ok (.aload_n 0, 1) := by decide +kernel
theorem dX11_letter_238 : decode cX11_letter 238 = .ok (.getfield 12, 3) := by decide +kernel
theorem dX11_letter_241 : decode cX11_letter 241 = .ok (.getfield 170, 3) := by decide +kernel
theorem dX11_letter_244 : decode cX11_letter 244 = .ok (.iload_n 1, 1) := by decide +kernel
theorem dX11_letter_245 : decode cX11_letter 245 = .ok (.invokevirtual 270, 3) := by decide +kernel
theorem dX11_letter_248 : decode cX11_letter 248 = .ok (.ireturn, 1) := by decide +kernel
theorem dX11_letter_249 : decode cX11_letter 249 = .ok (.new 90, 3) := by decide +kernel
theorem dX11_letter_252 : decode cX11_letter 252 = .ok (.dup, 1) := by decide +kernel
theorem dX11_letter_253 : decode cX11_letter 253 = .ok (.ldc_w 273, 3) := by decide +kernel
theorem dX11_letter_256 : decode cX11_letter 256 = .ok (.invokespecial 94, 3) := by decide +kernel
theorem dX11_letter_259 : decode cX11_letter 259 = .ok (.athrow, 1) := by decide +kernel
theorem dX11_scratch_0 : decode cX11_scratch 0 = .ok (.aload_n 0, 1) := by decide +kernel
theorem dX11_scratch_1 : decode cX11_scratch 1 = .ok (.getfield 12, 3) := by decide +kernel
theorem dX11_scratch_4 : decode cX11_scratch 4 = .ok (.iload_n 1, 1) := by decide +kernel
theorem dX11_scratch_5 : decode cX11_scratch 5 = .ok (.invokevirtual 275, 3) := by decide +kernel
theorem dX11_scratch_8 : decode cX11_scratch 8 = .ok (.ifCond .ne 14, 3) := by decide +kernel
theorem dX11_scratch_11 : decode cX11_scratch 11 = .ok (.new 198, 3) := by decide +kernel
theorem dX11_scratch_14 : decode cX11_scratch 14 = .ok (.dup, 1) := by decide +kernel
theorem dX11_scratch_15 : decode cX11_scratch 15 = .ok (.ldc_w 278, 3) := by decide +kernel
theorem dX11_scratch_18 : decode cX11_scratch 18 = .ok (.invokespecial 202, 3) := by decide +kernel
theorem dX11_scratch_21 : decode cX11_scratch 21 = .ok (.athrow, 1) := by decide +kernel
theorem dX11_scratch_22 : decode cX11_scratch 22 = .ok (.iload_n 2, 1) := by decide +kernel
theorem dX11_scratch_23 : decode cX11_scratch 23 = .ok (.tableswitch 57 0 2 #[25, 38, 51], 25) := by decide +kernel
theorem dX11_scratch_48 : decode cX11_scratch 48 = .ok (.aload_n 0, 1) := by decide +kernel
theorem dX11_scratch_49 : decode cX11_scratch 49 = .ok (.getfield 12, 3) := by decide +kernel
theorem dX11_scratch_52 : decode cX11_scratch 52 = .ok (.getfield 170, 3) := by decide +kernel
theorem dX11_scratch_55 : decode cX11_scratch 55 = .ok (.getfield 280, 3) := by decide +kernel
theorem dX11_scratch_58 : decode cX11_scratch 58 = .ok (.iload_n 1, 1) := by decide +kernel
theorem dX11_scratch_59 : decode cX11_scratch 59 = .ok (.iaload, 1) := by decide +kernel
theorem dX11_scratch_60 : decode cX11_scratch 60 = .ok (.ireturn, 1) := by decide +kernel
theorem dX11_scratch_61 : decode cX11_scratch 61 = .ok (.aload_n 0, 1) := by decide +kernel
theorem dX11_scratch_62 : decode cX11_scratch 62 = .ok (.getfield 12, 3) := by decide +kernel
theorem dX11_scratch_65 : decode cX11_scratch 65 = .ok (.getfield 170, 3) := by decide +kernel
theorem dX11_scratch_68 : decode cX11_scratch 68 = .ok (.getfield 282, 3) := by decide +kernel
theorem dX11_scratch_71 : decode cX11_scratch 71 = .ok (.iload_n 1, 1) := by decide +kernel
theorem dX11_scratch_72 : decode cX11_scratch 72 = .ok (.iaload, 1) := by decide +kernel
theorem dX11_scratch_73 : decode cX11_scratch 73 = .ok (.ireturn, 1) := by decide +kernel
theorem dX11_scratch_74 : decode cX11_scratch 74 = .ok (.aload_n 0, 1) := by decide +kernel
theorem dX11_scratch_75 : decode cX11_scratch 75 = .ok (.iload_n 1, 1) := by decide +kernel
theorem dX11_scratch_76 : decode cX11_scratch 76 = .ok (.invokevirtual 285, 3) := by decide +kernel
theorem dX11_scratch_79 : decode cX11_scratch 79 = .ok (.ireturn, 1) := by decide +kernel
theorem dX11_scratch_80 : decode cX11_scratch 80 = .ok (.new 90, 3) := by decide +kernel
theorem dX11_scratch_83 : decode cX11_scratch 83 = .ok (.dup, 1) := by decide +kernel
theorem dX11_scratch_84 : decode cX11_scratch 84 = .ok (.ldc_w 288, 3) := by decide +kernel
theorem dX11_scratch_87 : decode cX11_scratch 87 = .ok (.invokespecial 94, 3) := by decide +kernel
theorem dX11_scratch_90 : decode cX11_scratch 90 = .ok (.athrow, 1) := by decide +kernel
theorem dX11_flourishLetter_0 : decode cX11_flourishLetter 0 = .ok (.aload_n 0, 1) := by decide +kernel
theorem dX11_flourishLetter_1 : decode cX11_flourishLetter 1 = .ok (.getfield 12, 3) := by decide +kernel
theorem dX11_flourishLetter_4 : decode cX11_flourishLetter 4 = .ok (.iload_n 1, 1) := by decide +kernel
theorem dX11_flourishLetter_5 : decode cX11_flourishLetter 5 = .ok (.invokevirtual 290, 3) := by decide +kernel
theorem dX11_flourishLetter_8 : decode cX11_flourishLetter 8 = .ok (.ifCond .ne 14, 3) := by decide +kernel
theorem dX11_flourishLetter_11 : decode cX11_flourishLetter 11 = .ok (.new 198, 3) := by decide +kernel
theorem dX11_flourishLetter_14 : decode cX11_flourishLetter 14 = .ok (.dup, 1) := by decide +kernel
theorem dX11_flourishLetter_15 : decode cX11_flourishLetter 15 = .ok (.ldc_w 293, 3) := by decide +kernel
theorem dX11_flourishLetter_18 : decode cX11_flourishLetter 18 = .ok (.invokespecial 202, 3) := by decide +kernel
theorem dX11_flourishLetter_21 : decode cX11_flourishLetter 21 = .ok (.athrow, 1) := by decide +kernel
theorem dX11_flourishLetter_22 : decode cX11_flourishLetter 22 = .ok (.aload_n 0, 1) := by decide +kernel
theorem dX11_flourishLetter_23 : decode cX11_flourishLetter 23 = .ok (.getfield 12, 3) := by decide +kernel
theorem dX11_flourishLetter_26 : decode cX11_flourishLetter 26 = .ok (.getfield 145, 3) := by decide +kernel
theorem dX11_flourishLetter_29 : decode cX11_flourishLetter 29 = .ok (.iload_n 1, 1) := by decide +kernel
theorem dX11_flourishLetter_30 : decode cX11_flourishLetter 30 = .ok (.iload_n 2, 1) := by decide +kernel
theorem dX11_flourishLetter_31 : decode cX11_flourishLetter 31 = .ok (.invokevirtual 295, 3) := by decide +kernel
theorem dX11_flourishLetter_34 : decode cX11_flourishLetter 34 = .ok (.ireturn, 1) := by decide +kernel
theorem dX11_partsAt_0 : decode cX11_partsAt 0 = .ok (.iload_n 1, 1) := by decide +kernel
theorem dX11_partsAt_1 : decode cX11_partsAt 1 = .ok (.iconst 0, 1) := by decide +kernel
theorem dX11_partsAt_2 : decode cX11_partsAt 2 = .ok (.aload_n 0, 1) := by decide +kernel
theorem dX11_partsAt_3 : decode cX11_partsAt 3 = .ok (.getfield 12, 3) := by decide +kernel
theorem dX11_partsAt_6 : decode cX11_partsAt 6 = .ok (.getfield 136, 3) := by decide +kernel
theorem dX11_partsAt_9 : decode cX11_partsAt 9 = .ok (.invokevirtual 154, 3) := by decide +kernel
theorem dX11_partsAt_12 : decode cX11_partsAt 12 = .ok (.invokestatic 86, 3) := by decide +kernel
theorem dX11_partsAt_15 : decode cX11_partsAt 15 = .ok (.ifCond .ne 14, 3) := by decide +kernel
theorem dX11_partsAt_18 : decode cX11_partsAt 18 = .ok (.new 90, 3) := by decide +kernel
theorem dX11_partsAt_21 : decode cX11_partsAt 21 = .ok (.dup, 1) := by decide +kernel
theorem dX11_partsAt_22 : decode cX11_partsAt 22 = .ok (.ldc_w 299, 3) := by decide +kernel
theorem dX11_partsAt_25 : decode cX11_partsAt 25 = .ok (.invokespecial 94, 3) := by decide +kernel
theorem dX11_partsAt_28 : decode cX11_partsAt 28 = .ok (.athrow, 1) := by decide +kernel
theorem dX11_partsAt_29 : decode cX11_partsAt 29 = .ok (.aload_n 0, 1) := by decide +kernel
theorem dX11_partsAt_30 : decode cX11_partsAt 30 = .ok (.getfield 12, 3) := by decide +kernel
theorem dX11_partsAt_33 : decode cX11_partsAt 33 = .ok (.getfield 136, 3) := by decide +kernel
theorem dX11_partsAt_36 : decode cX11_partsAt 36 = .ok (.iload_n 1, 1) := by decide +kernel
theorem dX11_partsAt_37 : decode cX11_partsAt 37 = .ok (.invokevirtual 301, 3) := by decide +kernel
theorem dX11_partsAt_40 : decode cX11_partsAt 40 = .ok (.ireturn, 1) := by decide +kernel
theorem dX11_heading_0 : decode cX11_heading 0 = .ok (.iload_n 1, 1) := by decide +kernel
theorem dX11_heading_1 : decode cX11_heading 1 = .ok (.iconst 0, 1) := by decide +kernel
theorem dX11_heading_2 : decode cX11_heading 2 = .ok (.aload_n 0, 1) := by decide +kernel
theorem dX11_heading_3 : decode cX11_heading 3 = .ok (.getfield 12, 3) := by decide +kernel
theorem dX11_heading_6 : decode cX11_heading 6 = .ok (.getfield 136, 3) := by decide +kernel
theorem dX11_heading_9 : decode cX11_heading 9 = .ok (.invokevirtual 154, 3) := by decide +kernel
theorem dX11_heading_12 : decode cX11_heading 12 = .ok (.invokestatic 86, 3) := by decide +kernel
theorem dX11_heading_15 : decode cX11_heading 15 = .ok (.ifCond .ne 14, 3) := by decide +kernel
theorem dX11_heading_18 : decode cX11_heading 18 = .ok (.new 90, 3) := by decide +kernel
theorem dX11_heading_21 : decode cX11_heading 21 = .ok (.dup, 1) := by decide +kernel
theorem dX11_heading_22 : decode cX11_heading 22 = .ok (.ldc_w 299, 3) := by decide +kernel
theorem dX11_heading_25 : decode cX11_heading 25 = .ok (.invokespecial 94, 3) := by decide +kernel
theorem dX11_heading_28 : decode cX11_heading 28 = .ok (.athrow, 1) := by decide +kernel
theorem dX11_heading_29 : decode cX11_heading 29 = .ok (.aload_n 0, 1) := by decide +kernel
theorem dX11_heading_30 : decode cX11_heading 30 = .ok (.getfield 12, 3) := by decide +kernel
theorem dX11_heading_33 : decode cX11_heading 33 = .ok (.getfield 136, 3) := by decide +kernel
theorem dX11_heading_36 : decode cX11_heading 36 = .ok (.iload_n 1, 1) := by decide +kernel
theorem dX11_heading_37 : decode cX11_heading 37 = .ok (.invokevirtual 252, 3) := by decide +kernel
theorem dX11_heading_40 : decode cX11_heading 40 = .ok (.ireturn, 1) := by decide +kernel
theorem dX11_turnAt_0 : decode cX11_turnAt 0 = .ok (.iload_n 1, 1) := by decide +kernel
theorem dX11_turnAt_1 : decode cX11_turnAt 1 = .ok (.iconst 0, 1) := by decide +kernel
theorem dX11_turnAt_2 : decode cX11_turnAt 2 = .ok (.aload_n 0, 1) := by decide +kernel
theorem dX11_turnAt_3 : decode cX11_turnAt 3 = .ok (.getfield 12, 3) := by decide +kernel
theorem dX11_turnAt_6 : decode cX11_turnAt 6 = .ok (.getfield 136, 3) := by decide +kernel
theorem dX11_turnAt_9 : decode cX11_turnAt 9 = .ok (.invokevirtual 158, 3) := by decide +kernel
theorem dX11_turnAt_12 : decode cX11_turnAt 12 = .ok (.invokestatic 86, 3) := by decide +kernel
theorem dX11_turnAt_15 : decode cX11_turnAt 15 = .ok (.ifCond .ne 14, 3) := by decide +kernel
theorem dX11_turnAt_18 : decode cX11_turnAt 18 = .ok (.new 90, 3) := by decide +kernel
theorem dX11_turnAt_21 : decode cX11_turnAt 21 = .ok (.dup, 1) := by decide +kernel
theorem dX11_turnAt_22 : decode cX11_turnAt 22 = .ok (.ldc_w 304, 3) := by decide +kernel
theorem dX11_turnAt_25 : decode cX11_turnAt 25 = .ok (.invokespecial 94, 3) := by decide +kernel
theorem dX11_turnAt_28 : decode cX11_turnAt 28 = .ok (.athrow, 1) := by decide +kernel
theorem dX11_turnAt_29 : decode cX11_turnAt 29 = .ok (.aload_n 0, 1) := by decide +kernel
theorem dX11_turnAt_30 : decode cX11_turnAt 30 = .ok (.getfield 12, 3) := by decide +kernel
theorem dX11_turnAt_33 : decode cX11_turnAt 33 = .ok (.getfield 136, 3) := by decide +kernel
theorem dX11_turnAt_36 : decode cX11_turnAt 36 = .ok (.iload_n 1, 1) := by decide +kernel
theorem dX11_turnAt_37 : decode cX11_turnAt 37 = .ok (.invokevirtual 306, 3) := by decide +kernel
theorem dX11_turnAt_40 : decode cX11_turnAt 40 = .ok (.ireturn, 1) := by decide +kernel
theorem dX11_farthestLeft_0 : decode cX11_farthestLeft 0 = .ok (.aload_n 0, 1) := by decide +kernel
theorem dX11_farthestLeft_1 : decode cX11_farthestLeft 1 = .ok (.getfield 12, 3) := by decide +kernel
theorem dX11_farthestLeft_4 : decode cX11_farthestLeft 4 = .ok (.getfield 136, 3) := by decide +kernel
theorem dX11_farthestLeft_7 : decode cX11_farthestLeft 7 = .ok (.invokevirtual 309, 3) := by decide +kernel
theorem dX11_farthestLeft_10 : decode cX11_farthestLeft 10 = .ok (.ireturn, 1) := by decide +kernel
theorem dX11_room_0 : decode cX11_room 0 = .ok (.aload_n 0, 1) := by decide +kernel
theorem dX11_room_1 : decode cX11_room 1 = .ok (.getfield 12, 3) := by decide +kernel
theorem dX11_room_4 : decode cX11_room 4 = .ok (.iload_n 1, 1) := by decide +kernel
theorem dX11_room_5 : decode cX11_room 5 = .ok (.invokevirtual 312, 3) := by decide +kernel
theorem dX11_room_8 : decode cX11_room 8 = .ok (.ifCond .ne 14, 3) := by decide +kernel
theorem dX11_room_11 : decode cX11_room 11 = .ok (.new 198, 3) := by decide +kernel
theorem dX11_room_14 : decode cX11_room 14 = .ok (.dup, 1) := by decide +kernel
theorem dX11_room_15 : decode cX11_room 15 = .ok (.ldc_w 315, 3) := by decide +kernel
theorem dX11_room_18 : decode cX11_room 18 = .ok (.invokespecial 202, 3) := by decide +kernel
theorem dX11_room_21 : decode cX11_room 21 = .ok (.athrow, 1) := by decide +kernel
theorem dX11_room_22 : decode cX11_room 22 = .ok (.aload_n 0, 1) := by decide +kernel
theorem dX11_room_23 : decode cX11_room 23 = .ok (.getfield 39, 3) := by decide +kernel
theorem dX11_room_26 : decode cX11_room 26 = .ok (.aload_n 0, 1) := by decide +kernel
theorem dX11_room_27 : decode cX11_room 27 = .ok (.getfield 12, 3) := by decide +kernel
theorem dX11_room_30 : decode cX11_room 30 = .ok (.invokevirtual 317, 3) := by decide +kernel
theorem dX11_room_33 : decode cX11_room 33 = .ok (.aload_n 0, 1) := by decide +kernel
theorem dX11_room_34 : decode cX11_room 34 = .ok (.getfield 39, 3) := by decide +kernel
theorem dX11_room_37 : decode cX11_room 37 = .ok (.getfield 320, 3) := by decide +kernel
theorem dX11_room_40 : decode cX11_room 40 = .ok (.iload_n 1, 1) := by decide +kernel
theorem dX11_room_41 : decode cX11_room 41 = .ok (.iaload, 1) := by decide +kernel
theorem dX11_room_42 : decode cX11_room 42 = .ok (.ireturn, 1) := by decide +kernel
theorem dX11_crowded_0 : decode cX11_crowded 0 = .ok (.aload_n 0, 1) := by decide +kernel
theorem dX11_crowded_1 : decode cX11_crowded 1 = .ok (.getfield 39, 3) := by decide +kernel
theorem dX11_crowded_4 : decode cX11_crowded 4 = .ok (.aload_n 0, 1) := by decide +kernel
theorem dX11_crowded_5 : decode cX11_crowded 5 = .ok (.getfield 12, 3) := by decide +kernel
theorem dX11_crowded_8 : decode cX11_crowded 8 = .ok (.invokevirtual 317, 3) := by decide +kernel
theorem dX11_crowded_11 : decode cX11_crowded 11 = .ok (.aload_n 0, 1) := by decide +kernel
theorem dX11_crowded_12 : decode cX11_crowded 12 = .ok (.getfield 39, 3) := by decide +kernel
theorem dX11_crowded_15 : decode cX11_crowded 15 = .ok (.aload_n 0, 1) := by decide +kernel
theorem dX11_crowded_16 : decode cX11_crowded 16 = .ok (.getfield 12, 3) := by decide +kernel
theorem dX11_crowded_19 : decode cX11_crowded 19 = .ok (.getfield 167, 3) := by decide +kernel
theorem dX11_crowded_22 : decode cX11_crowded 22 = .ok (.invokevirtual 323, 3) := by decide +kernel
theorem dX11_crowded_25 : decode cX11_crowded 25 = .ok (.ireturn, 1) := by decide +kernel
theorem dX11_tightest_0 : decode cX11_tightest 0 = .ok (.aload_n 0, 1) := by decide +kernel
theorem dX11_tightest_1 : decode cX11_tightest 1 = .ok (.getfield 39, 3) := by decide +kernel
theorem dX11_tightest_4 : decode cX11_tightest 4 = .ok (.aload_n 0, 1) := by decide +kernel
theorem dX11_tightest_5 : decode cX11_tightest 5 = .ok (.getfield 12, 3) := by decide +kernel
theorem dX11_tightest_8 : decode cX11_tightest 8 = .ok (.invokevirtual 317, 3) := by decide +kernel
theorem dX11_tightest_11 : decode cX11_tightest 11 = .ok (.aload_n 0, 1) := by decide +kernel
theorem dX11_tightest_12 : decode cX11_tightest 12 = .ok (.getfield 39, 3) := by decide +kernel
theorem dX11_tightest_15 : decode cX11_tightest 15 = .ok (.invokevirtual 326, 3) := by decide +kernel
theorem dX11_tightest_18 : decode cX11_tightest 18 = .ok (.ireturn, 1) := by decide +kernel
theorem dX11_flourishIn_0 : decode cX11_flourishIn 0 = .ok (.aload_n 0, 1) := by decide +kernel
theorem dX11_flourishIn_1 : decode cX11_flourishIn 1 = .ok (.getfield 12, 3) := by decide +kernel
theorem dX11_flourishIn_4 : decode cX11_flourishIn 4 = .ok (.iload_n 1, 1) := by decide +kernel
theorem dX11_flourishIn_5 : decode cX11_flourishIn 5 = .ok (.invokevirtual 312, 3) := by decide +kernel
theorem dX11_flourishIn_8 : decode cX11_flourishIn 8 = .ok (.ifCond .ne 14, 3) := by decide +kernel
theorem dX11_flourishIn_11 : decode cX11_flourishIn 11 = .ok (.new 198, 3) := by decide +kernel
theorem dX11_flourishIn_14 : decode cX11_flourishIn 14 = .ok (.dup, 1) := by decide +kernel
theorem dX11_flourishIn_15 : decode cX11_flourishIn 15 = .ok (.ldc_w 315, 3) := by decide +kernel
theorem dX11_flourishIn_18 : decode cX11_flourishIn 18 = .ok (.invokespecial 202, 3) := by decide +kernel
theorem dX11_flourishIn_21 : decode cX11_flourishIn 21 = .ok (.athrow, 1) := by decide +kernel
theorem dX11_flourishIn_22 : decode cX11_flourishIn 22 = .ok (.aload_n 0, 1) := by decide +kernel
theorem dX11_flourishIn_23 : decode cX11_flourishIn 23 = .ok (.getfield 39, 3) := by decide +kernel
theorem dX11_flourishIn_26 : decode cX11_flourishIn 26 = .ok (.aload_n 0, 1) := by decide +kernel
theorem dX11_flourishIn_27 : decode cX11_flourishIn 27 = .ok (.getfield 12, 3) := by decide +kernel
theorem dX11_flourishIn_30 : decode cX11_flourishIn 30 = .ok (.invokevirtual 329, 3) := by decide +kernel
theorem dX11_flourishIn_33 : decode cX11_flourishIn 33 = .ok (.aload_n 0, 1) := by decide +kernel
theorem dX11_flourishIn_34 : decode cX11_flourishIn 34 = .ok (.getfield 39, 3) := by decide +kernel
theorem dX11_flourishIn_37 : decode cX11_flourishIn 37 = .ok (.getfield 332, 3) := by decide +kernel
theorem dX11_flourishIn_40 : decode cX11_flourishIn 40 = .ok (.iload_n 1, 1) := by decide +kernel
theorem dX11_flourishIn_41 : decode cX11_flourishIn 41 = .ok (.iaload, 1) := by decide +kernel
theorem dX11_flourishIn_42 : decode cX11_flourishIn 42 = .ok (.ireturn, 1) := by decide +kernel
theorem dX11_stockLeft_0 : decode cX11_stockLeft 0 = .ok (.aload_n 0, 1) := by decide +kernel
theorem dX11_stockLeft_1 : decode cX11_stockLeft 1 = .ok (.getfield 12, 3) := by decide +kernel
theorem dX11_stockLeft_4 : decode cX11_stockLeft 4 = .ok (.iload_n 1, 1) := by decide +kernel
theorem dX11_stockLeft_5 : decode cX11_stockLeft 5 = .ok (.invokevirtual 290, 3) := by decide +kernel
theorem dX11_stockLeft_8 : decode cX11_stockLeft 8 = .ok (.ifCond .ne 14, 3) := by decide +kernel
theorem dX11_stockLeft_11 : decode cX11_stockLeft 11 = .ok (.new 198, 3) := by decide +kernel
theorem dX11_stockLeft_14 : decode cX11_stockLeft 14 = .ok (.dup, 1) := by decide +kernel
theorem dX11_stockLeft_15 : decode cX11_stockLeft 15 = .ok (.ldc_w 293, 3) := by decide +kernel
theorem dX11_stockLeft_18 : decode cX11_stockLeft 18 = .ok (.invokespecial 202, 3) := by decide +kernel
theorem dX11_stockLeft_21 : decode cX11_stockLeft 21 = .ok (.athrow, 1) := by decide +kernel
theorem dX11_stockLeft_22 : decode cX11_stockLeft 22 = .ok (.aload_n 0, 1) := by decide +kernel
theorem dX11_stockLeft_23 : decode cX11_stockLeft 23 = .ok (.getfield 39, 3) := by decide +kernel
theorem dX11_stockLeft_26 : decode cX11_stockLeft 26 = .ok (.aload_n 0, 1) := by decide +kernel
theorem dX11_stockLeft_27 : decode cX11_stockLeft 27 = .ok (.getfield 12, 3) := by decide +kernel
theorem dX11_stockLeft_30 : decode cX11_stockLeft 30 = .ok (.invokevirtual 329, 3) := by decide +kernel
theorem dX11_stockLeft_33 : decode cX11_stockLeft 33 = .ok (.aload_n 0, 1) := by decide +kernel
theorem dX11_stockLeft_34 : decode cX11_stockLeft 34 = .ok (.getfield 39, 3) := by decide +kernel
theorem dX11_stockLeft_37 : decode cX11_stockLeft 37 = .ok (.getfield 335, 3) := by decide +kernel
theorem dX11_stockLeft_40 : decode cX11_stockLeft 40 = .ok (.iload_n 1, 1) := by decide +kernel
theorem dX11_stockLeft_41 : decode cX11_stockLeft 41 = .ok (.iaload, 1) := by decide +kernel
theorem dX11_stockLeft_42 : decode cX11_stockLeft 42 = .ok (.ireturn, 1) := by decide +kernel
theorem dX11_worth_0 : decode cX11_worth 0 = .ok (.aload_n 0, 1) := by decide +kernel
theorem dX11_worth_1 : decode cX11_worth 1 = .ok (.getfield 39, 3) := by decide +kernel
theorem dX11_worth_4 : decode cX11_worth 4 = .ok (.aload_n 0, 1) := by decide +kernel
theorem dX11_worth_5 : decode cX11_worth 5 = .ok (.getfield 12, 3) := by decide +kernel
theorem dX11_worth_8 : decode cX11_worth 8 = .ok (.invokevirtual 329, 3) := by decide +kernel
theorem dX11_worth_11 : decode cX11_worth 11 = .ok (.aload_n 0, 1) := by decide +kernel
theorem dX11_worth_12 : decode cX11_worth 12 = .ok (.getfield 39, 3) := by decide +kernel
theorem dX11_worth_15 : decode cX11_worth 15 = .ok (.aload_n 0, 1) := by decide +kernel
theorem dX11_worth_16 : decode cX11_worth 16 = .ok (.getfield 12, 3) := by decide +kernel
theorem dX11_worth_19 : decode cX11_worth 19 = .ok (.getfield 145, 3) := by decide +kernel
theorem dX11_worth_22 : decode cX11_worth 22 = .ok (.invokevirtual 338, 3) := by decide +kernel
theorem dX11_worth_25 : decode cX11_worth 25 = .ok (.ireturn, 1) := by decide +kernel
theorem dX11_meanRoom_0 : decode cX11_meanRoom 0 = .ok (.aload_n 0, 1) := by decide +kernel
theorem dX11_meanRoom_1 : decode cX11_meanRoom 1 = .ok (.getfield 39, 3) := by decide +kernel
theorem dX11_meanRoom_4 : decode cX11_meanRoom 4 = .ok (.aload_n 0, 1) := by decide +kernel
theorem dX11_meanRoom_5 : decode cX11_meanRoom 5 = .ok (.getfield 12, 3) := by decide +kernel
theorem dX11_meanRoom_8 : decode cX11_meanRoom 8 = .ok (.invokevirtual 317, 3) := by decide +kernel
theorem dX11_meanRoom_11 : decode cX11_meanRoom 11 = .ok (.aload_n 0, 1) := by decide +kernel
theorem dX11_meanRoom_12 : decode cX11_meanRoom 12 = .ok (.getfield 39, 3) := by decide +kernel
theorem dX11_meanRoom_15 : decode cX11_meanRoom 15 = .ok (.invokevirtual 342, 3) := by decide +kernel
theorem dX11_meanRoom_18 : decode cX11_meanRoom 18 = .ok (.dreturn, 1) := by decide +kernel
theorem dX11_filled_0 : decode cX11_filled 0 = .ok (.aload_n 0, 1) := by decide +kernel
theorem dX11_filled_1 : decode cX11_filled 1 = .ok (.getfield 12, 3) := by decide +kernel
theorem dX11_filled_4 : decode cX11_filled 4 = .ok (.getfield 136, 3) := by decide +kernel
theorem dX11_filled_7 : decode cX11_filled 7 = .ok (.invokevirtual 158, 3) := by decide +kernel
theorem dX11_filled_10 : decode cX11_filled 10 = .ok (.istore_n 1, 1) := by decide +kernel
theorem dX11_filled_11 : decode cX11_filled 11 = .ok (.iload_n 1, 1) := by decide +kernel
theorem dX11_filled_12 : decode cX11_filled 12 = .ok (.ifCond .le 20, 3) := by decide +kernel
theorem dX11_filled_15 : decode cX11_filled 15 = .ok (.aload_n 0, 1) := by decide +kernel
theorem dX11_filled_16 : decode cX11_filled 16 = .ok (.getfield 12, 3) := by decide +kernel
theorem dX11_filled_19 : decode cX11_filled 19 = .ok (.getfield 108, 3) := by decide +kernel
theorem dX11_filled_22 : decode cX11_filled 22 = .ok (.invokevirtual 346, 3) := by decide +kernel
theorem dX11_filled_25 : decode cX11_filled 25 = .ok (.i2f, 1) := by decide +kernel
theorem dX11_filled_26 : decode cX11_filled 26 = .ok (.iload_n 1, 1) := by decide +kernel
theorem dX11_filled_27 : decode cX11_filled 27 = .ok (.i2f, 1) := by decide +kernel
theorem dX11_filled_28 : decode cX11_filled 28 = .ok (.fdiv, 1) := by decide +kernel
theorem dX11_filled_29 : decode cX11_filled 29 = .ok (.goto 4, 3) := by decide +kernel
theorem dX11_filled_32 : decode cX11_filled 32 = .ok (.fconst 0, 1) := by decide +kernel
theorem dX11_filled_33 : decode cX11_filled 33 = .ok (.freturn, 1) := by decide +kernel
theorem dX11_danger_0 : decode cX11_danger 0 = .ok (.aload_n 0, 1) := by decide +kernel
theorem dX11_danger_1 : decode cX11_danger 1 = .ok (.getfield 12, 3) := by decide +kernel
theorem dX11_danger_4 : decode cX11_danger 4 = .ok (.iload_n 1, 1) := by decide +kernel
theorem dX11_danger_5 : decode cX11_danger 5 = .ok (.invokevirtual 229, 3) := by decide +kernel
theorem dX11_danger_8 : decode cX11_danger 8 = .ok (.ifCond .ne 13, 3) := by decide +kernel
theorem dX11_danger_11 : decode cX11_danger 11 = .ok (.new 198, 3) := by decide +kernel
theorem dX11_danger_14 : decode cX11_danger 14 = .ok (.dup, 1) := by decide +kernel
theorem dX11_danger_15 : decode cX11_danger 15 = .ok (.ldc 232, 2) := by decide +kernel
theorem dX11_danger_17 : decode cX11_danger 17 = .ok (.invokespecial 202, 3) := by decide +kernel
theorem dX11_danger_20 : decode cX11_danger 20 = .ok (.athrow, 1) := by decide +kernel
theorem dX11_danger_21 : decode cX11_danger 21 = .ok (.iconst 2, 1) := by decide +kernel
theorem dX11_danger_22 : decode cX11_danger 22 = .ok (.aload_n 0, 1) := by decide +kernel
theorem dX11_danger_23 : decode cX11_danger 23 = .ok (.getfield 12, 3) := by decide +kernel
theorem dX11_danger_26 : decode cX11_danger 26 = .ok (.iload_n 1, 1) := by decide +kernel
theorem dX11_danger_27 : decode cX11_danger 27 = .ok (.invokevirtual 349, 3) := by decide +kernel
theorem dX11_danger_30 : decode cX11_danger 30 = .ok (.aload_n 0, 1) := by decide +kernel
theorem dX11_danger_31 : decode cX11_danger 31 = .ok (.getfield 12, 3) := by decide +kernel
theorem dX11_danger_34 : decode cX11_danger 34 = .ok (.getfield 161, 3) := by decide +kernel
theorem dX11_danger_37 : decode cX11_danger 37 = .ok (.getfield 164, 3) := by decide +kernel
theorem dX11_danger_40 : decode cX11_danger 40 = .ok (.isub, 1) := by decide +kernel
theorem dX11_danger_41 : decode cX11_danger 41 = .ok (.imul, 1) := by decide +kernel
theorem dX11_danger_42 : decode cX11_danger 42 = .ok (.istore_n 2, 1) := by decide +kernel
theorem dX11_danger_43 : decode cX11_danger 43 = .ok (.iconst 0, 1) := by decide +kernel
theorem dX11_danger_44 : decode cX11_danger 44 = .ok (.bipush 100, 2) := by decide +kernel
theorem dX11_danger_46 : decode cX11_danger 46 = .ok (.iload_n 2, 1) := by decide +kernel
theorem dX11_danger_47 : decode cX11_danger 47 = .ok (.invokestatic 352, 3) := by decide +kernel
theorem dX11_danger_50 : decode cX11_danger 50 = .ok (.invokestatic 357, 3) := by decide +kernel
theorem dX11_danger_53 : decode cX11_danger 53 = .ok (.ireturn, 1) := by decide +kernel
theorem dX11_slipsIf_0 : decode cX11_slipsIf 0 = .ok (.aload_n 0, 1) := by decide +kernel
theorem dX11_slipsIf_1 : decode cX11_slipsIf 1 = .ok (.aload_n 0, 1) := by decide +kernel
theorem dX11_slipsIf_2 : decode cX11_slipsIf 2 = .ok (.getfield 12, 3) := by decide +kernel
theorem dX11_slipsIf_5 : decode cX11_slipsIf 5 = .ok (.getfield 161, 3) := by decide +kernel
theorem dX11_slipsIf_8 : decode cX11_slipsIf 8 = .ok (.getfield 164, 3) := by decide +kernel
theorem dX11_slipsIf_11 : decode cX11_slipsIf 11 = .ok (.invokevirtual 360, 3) := by decide +kernel
theorem dX11_slipsIf_14 : decode cX11_slipsIf 14 = .ok (.ireturn, 1) := by decide +kernel
theorem dX11_leastSharp_0 : decode cX11_leastSharp 0 = .ok (.iconst 1, 1) := by decide +kernel
theorem dX11_leastSharp_1 : decode cX11_leastSharp 1 = .ok (.istore_n 1, 1) := by decide +kernel
theorem dX11_leastSharp_2 : decode cX11_leastSharp 2 = .ok (.iload_n 1, 1) := by decide +kernel
theorem dX11_leastSharp_3 : decode cX11_leastSharp 3 = .ok (.bipush 99, 2) := by decide +kernel
theorem dX11_leastSharp_5 : decode cX11_leastSharp 5 = .ok (.if_icmp .gt 19, 3) := by decide +kernel
theorem dX11_leastSharp_8 : decode cX11_leastSharp 8 = .ok (.aload_n 0, 1) := by decide +kernel
theorem dX11_leastSharp_9 : decode cX11_leastSharp 9 = .ok (.iload_n 1, 1) := by decide +kernel
theorem dX11_leastSharp_10 : decode cX11_leastSharp 10 = .ok (.invokevirtual 360, 3) := by decide +kernel
theorem dX11_leastSharp_13 : decode cX11_leastSharp 13 = .ok (.ifCond .ne 5, 3) := by decide +kernel
theorem dX11_leastSharp_16 : decode cX11_leastSharp 16 = .ok (.iload_n 1, 1) := by decide +kernel
theorem dX11_leastSharp_17 : decode cX11_leastSharp 17 = .ok (.ireturn, 1) := by decide +kernel
theorem dX11_leastSharp_18 : decode cX11_leastSharp 18 = .ok (.iinc 1 1, 3) := by decide +kernel
theorem dX11_leastSharp_21 : decode cX11_leastSharp 21 = .ok (.goto (-19), 3) := by decide +kernel
theorem dX11_leastSharp_24 : decode cX11_leastSharp 24 = .ok (.iconst (-1), 1) := by decide +kernel
theorem dX11_leastSharp_25 : decode cX11_leastSharp 25 = .ok (.ireturn, 1) := by decide +kernel
theorem dX11_leastGrowth_0 : decode cX11_leastGrowth 0 = .ok (.aload_n 0, 1) := by decide +kernel
theorem dX11_leastGrowth_1 : decode cX11_leastGrowth 1 = .ok (.getfield 19, 3) := by decide +kernel
theorem dX11_leastGrowth_4 : decode cX11_leastGrowth 4 = .ok (.aload_n 0, 1) := by decide +kernel
theorem dX11_leastGrowth_5 : decode cX11_leastGrowth 5 = .ok (.getfield 12, 3) := by decide +kernel
theorem dX11_leastGrowth_8 : decode cX11_leastGrowth 8 = .ok (.invokevirtual 101, 3) := by decide +kernel
theorem dX11_leastGrowth_11 : decode cX11_leastGrowth 11 = .ok (.iconst 0, 1) := by decide +kernel
theorem dX11_leastGrowth_12 : decode cX11_leastGrowth 12 = .ok (.istore_n 1, 1) := by decide +kernel
theorem dX11_leastGrowth_13 : decode cX11_leastGrowth 13 = .ok (.iload_n 1, 1) := by decide +kernel
theorem dX11_leastGrowth_14 : decode cX11_leastGrowth 14 = .ok (.bipush 99, 2) := by decide +kernel
theorem dX11_leastGrowth_16 : decode cX11_leastGrowth 16 = .ok (.if_icmp .gt 28, 3) := by decide +kernel
theorem dX11_leastGrowth_19 : decode cX11_leastGrowth 19 = .ok (.aload_n 0, 1) := by decide +kernel
theorem dX11_leastGrowth_20 : decode cX11_leastGrowth 20 = .ok (.invokevirtual 363, 3) := by decide +kernel
theorem dX11_leastGrowth_23 : decode cX11_leastGrowth 23 = .ok (.ifCond .ne 5, 3) := by decide +kernel
theorem dX11_leastGrowth_26 : decode cX11_leastGrowth 26 = .ok (.iload_n 1, 1) := by decide +kernel
theorem dX11_leastGrowth_27 : decode cX11_leastGrowth 27 = .ok (.ireturn, 1) := by decide +kernel
theorem dX11_leastGrowth_28 : decode cX11_leastGrowth 28 = .ok (.aload_n 0, 1) := by decide +kernel
theorem dX11_leastGrowth_29 : decode cX11_leastGrowth 29 = .ok (.getfield 19, 3) := by decide +kernel
theorem dX11_leastGrowth_32 : decode cX11_leastGrowth 32 = .ok (.getfield 136, 3) := by decide +kernel
theorem dX11_leastGrowth_35 : decode cX11_leastGrowth 35 = .ok (.invokevirtual 366, 3) := by decide +kernel
theorem dX11_leastGrowth_38 : decode cX11_leastGrowth 38 = .ok (.iinc 1 1, 3) := by decide +kernel
theorem dX11_leastGrowth_41 : decode cX11_leastGrowth 41 = .ok (.goto (-28), 3) := by decide +kernel
theorem dX11_leastGrowth_44 : decode cX11_leastGrowth 44 = .ok (.iconst (-1), 1) := by decide +kernel
theorem dX11_leastGrowth_45 : decode cX11_leastGrowth 45 = .ok (.ireturn, 1) := by decide +kernel
theorem dX11_mostWidth_0 : decode cX11_mostWidth 0 = .ok (.iload_n 1, 1) := by decide +kernel
theorem dX11_mostWidth_1 : decode cX11_mostWidth 1 = .ok (.invokestatic 369, 3) := by decide +kernel
theorem dX11_mostWidth_4 : decode cX11_mostWidth 4 = .ok (.ifCond .ne 14, 3) := by decide +kernel
theorem dX11_mostWidth_7 : decode cX11_mostWidth 7 = .ok (.new 90, 3) := by decide +kernel
theorem dX11_mostWidth_10 : decode cX11_mostWidth 10 = .ok (.dup, 1) := by decide +kernel
theorem dX11_mostWidth_11 : decode cX11_mostWidth 11 = .ok (.ldc_w 372, 3) := by decide +kernel
theorem dX11_mostWidth_14 : decode cX11_mostWidth 14 = .ok (.invokespecial 94, 3) := by decide +kernel
theorem dX11_mostWidth_17 : decode cX11_mostWidth 17 = .ok (.athrow, 1) := by decide +kernel
theorem dX11_mostWidth_18 : decode cX11_mostWidth 18 = .ok (.aload_n 0, 1) := by decide +kernel
theorem dX11_mostWidth_19 : decode cX11_mostWidth 19 = .ok (.getfield 19, 3) := by decide +kernel
theorem dX11_mostWidth_22 : decode cX11_mostWidth 22 = .ok (.aload_n 0, 1) := by decide +kernel
theorem dX11_mostWidth_23 : decode cX11_mostWidth 23 = .ok (.getfield 12, 3) := by decide +kernel
theorem dX11_mostWidth_26 : decode cX11_mostWidth 26 = .ok (.invokevirtual 101, 3) := by decide +kernel
theorem dX11_mostWidth_29 : decode cX11_mostWidth 29 = .ok (.bipush 99, 2) := by decide +kernel
theorem dX11_mostWidth_31 : decode cX11_mostWidth 31 = .ok (.istore_n 2, 1) := by decide +kernel
theorem dX11_mostWidth_32 : decode cX11_mostWidth 32 = .ok (.iload_n 2, 1) := by decide +kernel
theorem dX11_mostWidth_33 : decode cX11_mostWidth 33 = .ok (.iconst 1, 1) := by decide +kernel
theorem dX11_mostWidth_34 : decode cX11_mostWidth 34 = .ok (.if_icmp .lt 31, 3) := by decide +kernel
theorem dX11_mostWidth_37 : decode cX11_mostWidth 37 = .ok (.aload_n 0, 1) := by decide +kernel
theorem dX11_mostWidth_38 : decode cX11_mostWidth 38 = .ok (.getfield 19, 3) := by decide +kernel
theorem dX11_mostWidth_41 : decode cX11_mostWidth 41 = .ok (.getfield 108, 3) := by decide +kernel
theorem dX11_mostWidth_44 : decode cX11_mostWidth 44 = .ok (.getfield 374, 3) := by decide +kernel
theorem dX11_mostWidth_47 : decode cX11_mostWidth 47 = .ok (.iload_n 1, 1) := by decide +kernel
theorem dX11_mostWidth_48 : decode cX11_mostWidth 48 = .ok (.iload_n 2, 1) := by decide +kernel
theorem dX11_mostWidth_49 : decode cX11_mostWidth 49 = .ok (.iastore, 1) := by decide +kernel
theorem dX11_mostWidth_50 : decode cX11_mostWidth 50 = .ok (.aload_n 0, 1) := by decide +kernel
theorem dX11_mostWidth_51 : decode cX11_mostWidth 51 = .ok (.invokevirtual 363, 3) := by decide +kernel
theorem dX11_mostWidth_54 : decode cX11_mostWidth 54 = .ok (.ifCond .ne 5, 3) := by decide +kernel
theorem dX11_mostWidth_57 : decode cX11_mostWidth 57 = .ok (.iload_n 2, 1) := by decide +kernel
theorem dX11_mostWidth_58 : decode cX11_mostWidth 58 = .ok (.ireturn, 1) := by decide +kernel
theorem dX11_mostWidth_59 : decode cX11_mostWidth 59 = .ok (.iinc 2 (-1), 3) := by decide +kernel
theorem dX11_mostWidth_62 : decode cX11_mostWidth 62 = .ok (.goto (-30), 3) := by decide +kernel
theorem dX11_mostWidth_65 : decode cX11_mostWidth 65 = .ok (.iconst (-1), 1) := by decide +kernel
theorem dX11_mostWidth_66 : decode cX11_mostWidth 66 = .ok (.ireturn, 1) := by decide +kernel
theorem dX11_tightestIf_0 : decode cX11_tightestIf 0 = .ok (.aload_n 0, 1) := by decide +kernel
theorem dX11_tightestIf_1 : decode cX11_tightestIf 1 = .ok (.getfield 46, 3) := by decide +kernel
theorem dX11_tightestIf_4 : decode cX11_tightestIf 4 = .ok (.getfield 71, 3) := by decide +kernel
theorem dX11_tightestIf_7 : decode cX11_tightestIf 7 = .ok (.istore_n 1, 1) := by decide +kernel
theorem dX11_tightestIf_8 : decode cX11_tightestIf 8 = .ok (.aload_n 0, 1) := by decide +kernel
theorem dX11_tightestIf_9 : decode cX11_tightestIf 9 = .ok (.getfield 46, 3) := by decide +kernel
theorem dX11_tightestIf_12 : decode cX11_tightestIf 12 = .ok (.invokevirtual 377, 3) := by decide +kernel
theorem dX11_tightestIf_15 : decode cX11_tightestIf 15 = .ok (.istore_n 2, 1) := by decide +kernel
theorem dX11_tightestIf_16 : decode cX11_tightestIf 16 = .ok (.aload_n 0, 1) := by decide +kernel
theorem dX11_tightestIf_17 : decode cX11_tightestIf 17 = .ok (.getfield 46, 3) := by decide +kernel
theorem dX11_tightestIf_20 : decode cX11_tightestIf 20 = .ok (.iconst 0, 1) := by decide +kernel
theorem dX11_tightestIf_21 : decode cX11_tightestIf 21 = .ok (.putfield 71, 3) := by decide +kernel
theorem dX11_tightestIf_24 : decode cX11_tightestIf 24 = .ok (.iload_n 2, 1) := by decide +kernel
theorem dX11_tightestIf_25 : decode cX11_tightestIf 25 = .ok (.ifCond .ne 14, 3) := by decide +kernel
theorem dX11_tightestIf_28 : decode cX11_tightestIf 28 = .ok (.new 90, 3) := by decide +kernel
theorem dX11_tightestIf_31 : decode cX11_tightestIf 31 = .ok (.dup, 1) := by decide +kernel
theorem dX11_tightestIf_32 : decode cX11_tightestIf 32 = .ok (.ldc_w 381, 3) := by decide +kernel
theorem dX11_tightestIf_35 : decode cX11_tightestIf 35 = .ok (.invokespecial 94, 3) := by decide +kernel
theorem dX11_tightestIf_38 : decode cX11_tightestIf 38 = .ok (.athrow, 1) := by decide +kernel
theorem dX11_tightestIf_39 : decode cX11_tightestIf 39 = .ok (.aload_n 0, 1) := by decide +kernel
theorem dX11_tightestIf_40 : decode cX11_tightestIf 40 = .ok (.getfield 19, 3) := by decide +kernel
theorem dX11_tightestIf_43 : decode cX11_tightestIf 43 = .ok (.aload_n 0, 1) := by decide +kernel
theorem dX11_tightestIf_44 : decode cX11_tightestIf 44 = .ok (.getfield 12, 3) := by decide +kernel
theorem dX11_tightestIf_47 : decode cX11_tightestIf 47 = .ok (.invokevirtual 101, 3) := by decide +kernel
theorem dX11_tightestIf_50 : decode cX11_tightestIf 50 = .ok (.aload_n 0, 1) := by decide +kernel
theorem dX11_tightestIf_51 : decode cX11_tightestIf 51 = .ok (.getfield 19, 3) := by decide +kernel
theorem dX11_tightestIf_54 : decode cX11_tightestIf 54 = .ok (.getfield 108, 3) := by decide +kernel
theorem dX11_tightestIf_57 : decode cX11_tightestIf 57 = .ok (.iconst 0, 1) := by decide +kernel
theorem dX11_tightestIf_58 : decode cX11_tightestIf 58 = .ok (.putfield 112, 3) := by decide +kernel
theorem dX11_tightestIf_61 : decode cX11_tightestIf 61 = .ok (.aload_n 0, 1) := by decide +kernel
theorem dX11_tightestIf_62 : decode cX11_tightestIf 62 = .ok (.getfield 19, 3) := by decide +kernel
theorem dX11_tightestIf_65 : decode cX11_tightestIf 65 = .ok (.getfield 108, 3) := by decide +kernel
theorem dX11_tightestIf_68 : decode cX11_tightestIf 68 = .ok (.aload_n 0, 1) := by decide +kernel
theorem dX11_tightestIf_69 : decode cX11_tightestIf 69 = .ok (.getfield 46, 3) := by decide +kernel
theorem dX11_tightestIf_72 : decode cX11_tightestIf 72 = .ok (.iconst 0, 1) := by decide +kernel
theorem dX11_tightestIf_73 : decode cX11_tightestIf 73 = .ok (.iload_n 1, 1) := by decide +kernel
theorem dX11_tightestIf_74 : decode cX11_tightestIf 74 = .ok (.invokevirtual 383, 3) := by decide +kernel
theorem dX11_tightestIf_77 : decode cX11_tightestIf 77 = .ok (.aload_n 0, 1) := by decide +kernel
theorem dX11_tightestIf_78 : decode cX11_tightestIf 78 = .ok (.getfield 39, 3) := by decide +kernel
theorem dX11_tightestIf_81 : decode cX11_tightestIf 81 = .ok (.aload_n 0, 1) := by decide +kernel
theorem dX11_tightestIf_82 : decode cX11_tightestIf 82 = .ok (.getfield 19, 3) := by decide +kernel
theorem dX11_tightestIf_85 : decode cX11_tightestIf 85 = .ok (.invokevirtual 317, 3) := by decide +kernel
theorem dX11_tightestIf_88 : decode cX11_tightestIf 88 = .ok (.aload_n 0, 1) := by decide +kernel
theorem dX11_tightestIf_89 : decode cX11_tightestIf 89 = .ok (.getfield 39, 3) := by decide +kernel
theorem dX11_tightestIf_92 : decode cX11_tightestIf 92 = .ok (.getfield 320, 3) := by decide +kernel
theorem dX11_tightestIf_95 : decode cX11_tightestIf 95 = .ok (.aload_n 0, 1) := by decide +kernel
theorem dX11_tightestIf_96 : decode cX11_tightestIf 96 = .ok (.getfield 39, 3) := by decide +kernel
theorem dX11_tightestIf_99 : decode cX11_tightestIf 99 = .ok (.invokevirtual 326, 3) := by decide +kernel
theorem dX11_tightestIf_102 : decode cX11_tightestIf 102 = .ok (.iaload, 1) := by decide +kernel
theorem dX11_tightestIf_103 : decode cX11_tightestIf 103 = .ok (.ireturn, 1) := by decide +kernel
theorem dX11_spare_0 : decode cX11_spare 0 = .ok (.iconst (-1), 1) := by decide +kernel
theorem dX11_spare_1 : decode cX11_spare 1 = .ok (.istore_n 1, 1) := by decide +kernel
theorem dX11_spare_2 : decode cX11_spare 2 = .ok (.bipush 22, 2) := by decide +kernel
theorem dX11_spare_4 : decode cX11_spare 4 = .ok (.istore_n 2, 1) := by decide +kernel
theorem dX11_spare_5 : decode cX11_spare 5 = .ok (.iconst 0, 1) := by decide +kernel
theorem dX11_spare_6 : decode cX11_spare 6 = .ok (.istore_n 3, 1) := by decide +kernel
theorem dX11_spare_7 : decode cX11_spare 7 = .ok (.iload_n 3, 1) := by decide +kernel
theorem dX11_spare_8 : decode cX11_spare 8 = .ok (.aload_n 0, 1) := by decide +kernel
theorem dX11_spare_9 : decode cX11_spare 9 = .ok (.getfield 12, 3) := by decide +kernel
theorem dX11_spare_12 : decode cX11_spare 12 = .ok (.getfield 136, 3) := by decide +kernel
theorem dX11_spare_15 : decode cX11_spare 15 = .ok (.getfield 140, 3) := by decide +kernel
theorem dX11_spare_18 : decode cX11_spare 18 = .ok (.if_icmp .ge 51, 3) := by decide +kernel
theorem dX11_spare_21 : decode cX11_spare 21 = .ok (.aload_n 0, 1) := by decide +kernel
theorem dX11_spare_22 : decode cX11_spare 22 = .ok (.getfield 19, 3) := by decide +kernel
theorem dX11_spare_25 : decode cX11_spare 25 = .ok (.aload_n 0, 1) := by decide +kernel
theorem dX11_spare_26 : decode cX11_spare 26 = .ok (.getfield 12, 3) := by decide +kernel
theorem dX11_spare_29 : decode cX11_spare 29 = .ok (.invokevirtual 101, 3) := by decide +kernel
theorem dX11_spare_32 : decode cX11_spare 32 = .ok (.aload_n 0, 1) := by decide +kernel
theorem dX11_spare_33 : decode cX11_spare 33 = .ok (.getfield 19, 3) := by decide +kernel
theorem dX11_spare_36 : decode cX11_spare 36 = .ok (.getfield 136, 3) := by decide +kernel
theorem dX11_spare_39 : decode cX11_spare 39 = .ok (.iload_n 3, 1) := by decide +kernel
theorem dX11_spare_40 : decode cX11_spare 40 = .ok (.invokevirtual 387, 3) := by decide +kernel
theorem dX11_spare_43 : decode cX11_spare 43 = .ok (.aload_n 0, 1) := by decide +kernel
theorem dX11_spare_44 : decode cX11_spare 44 = .ok (.invokevirtual 363, 3) := by decide +kernel
theorem dX11_spare_47 : decode cX11_spare 47 = .ok (.invokestatic 390, 3) := by decide +kernel
theorem dX11_spare_50 : decode cX11_spare 50 = .ok (.istore 4, 2) := by decide +kernel
theorem dX11_spare_52 : decode cX11_spare 52 = .ok (.iload 4, 2) := by decide +kernel
theorem dX11_spare_54 : decode cX11_spare 54 = .ok (.iload_n 2, 1) := by decide +kernel
theorem dX11_spare_55 : decode cX11_spare 55 = .ok (.if_icmp .ge 8, 3) := by decide +kernel
theorem dX11_spare_58 : decode cX11_spare 58 = .ok (.iload 4, 2) := by decide +kernel
theorem dX11_spare_60 : decode cX11_spare 60 = .ok (.istore_n 2, 1) := by decide +kernel
theorem dX11_spare_61 : decode cX11_spare 61 = .ok (.iload_n 3, 1) := by decide +kernel
theorem dX11_spare_62 : decode cX11_spare 62 = .ok (.istore_n 1, 1) := by decide +kernel
theorem dX11_spare_63 : decode cX11_spare 63 = .ok (.iinc 3 1, 3) := by decide +kernel
theorem dX11_spare_66 : decode cX11_spare 66 = .ok (.goto (-59), 3) := by decide +kernel
theorem dX11_spare_69 : decode cX11_spare 69 = .ok (.iload_n 1, 1) := by decide +kernel
theorem dX11_spare_70 : decode cX11_spare 70 = .ok (.ireturn, 1) := by decide +kernel
theorem dX11_engrave_0 : decode cX11_engrave 0 = .ok (.aload_n 0, 1) := by decide +kernel
theorem dX11_engrave_1 : decode cX11_engrave 1 = .ok (.getfield 12, 3) := by decide +kernel
theorem dX11_engrave_4 : decode cX11_engrave 4 = .ok (.iload_n 1, 1) := by decide +kernel
theorem dX11_engrave_5 : decode cX11_engrave 5 = .ok (.invokevirtual 229, 3) := by decide +kernel
theorem dX11_engrave_8 : decode cX11_engrave 8 = .ok (.ifCond .ne 13, 3) := by decide +kernel
theorem dX11_engrave_11 : decode cX11_engrave 11 = .ok (.new 198, 3) := by decide +kernel
theorem dX11_engrave_14 : decode cX11_engrave 14 = .ok (.dup, 1) := by decide +kernel
theorem dX11_engrave_15 : decode cX11_engrave 15 = .ok (.ldc 232, 2) := by decide +kernel
theorem dX11_engrave_17 : decode cX11_engrave 17 = .ok (.invokespecial 202, 3) := by decide +kernel
theorem dX11_engrave_20 : decode cX11_engrave 20 = .ok (.athrow, 1) := by decide +kernel
theorem dX11_engrave_21 : decode cX11_engrave 21 = .ok (.aload_n 0, 1) := by decide +kernel
theorem dX11_engrave_22 : decode cX11_engrave 22 = .ok (.getfield 12, 3) := by decide +kernel
theorem dX11_engrave_25 : decode cX11_engrave 25 = .ok (.iload_n 1, 1) := by decide +kernel
theorem dX11_engrave_26 : decode cX11_engrave 26 = .ok (.invokevirtual 395, 3) := by decide +kernel
theorem dX11_engrave_29 : decode cX11_engrave 29 = .ok (.ifCond .ne 14, 3) := by decide +kernel
theorem dX11_engrave_32 : decode cX11_engrave 32 = .ok (.new 75, 3) := by decide +kernel
theorem dX11_engrave_35 : decode cX11_engrave 35 = .ok (.dup, 1) := by decide +kernel
theorem dX11_engrave_36 : decode cX11_engrave 36 = .ok (.ldc_w 398, 3) := by decide +kernel
theorem dX11_engrave_39 : decode cX11_engrave 39 = .ok (.invokespecial 79, 3) := by decide +kernel
theorem dX11_engrave_42 : decode cX11_engrave 42 = .ok (.athrow, 1) := by decide +kernel
theorem dX11_engrave_43 : decode cX11_engrave 43 = .ok (.aload_n 0, 1) := by decide +kernel
theorem dX11_engrave_44 : decode cX11_engrave 44 = .ok (.invokevirtual 123, 3) := by decide +kernel
theorem dX11_engrave_47 : decode cX11_engrave 47 = .ok (.aload_n 0, 1) := by decide +kernel
theorem dX11_engrave_48 : decode cX11_engrave 48 = .ok (.getfield 12, 3) := by decide +kernel
theorem dX11_engrave_51 : decode cX11_engrave 51 = .ok (.iload_n 1, 1) := by decide +kernel
theorem dX11_engrave_52 : decode cX11_engrave 52 = .ok (.invokevirtual 400, 3) := by decide +kernel
theorem dX11_engrave_55 : decode cX11_engrave 55 = .ok (.ireturn, 1) := by decide +kernel
theorem dX11_engraveAll_0 : decode cX11_engraveAll 0 = .ok (.aload_n 0, 1) := by decide +kernel
theorem dX11_engraveAll_1 : decode cX11_engraveAll 1 = .ok (.getfield 12, 3) := by decide +kernel
theorem dX11_engraveAll_4 : decode cX11_engraveAll 4 = .ok (.invokevirtual 403, 3) := by decide +kernel
theorem dX11_engraveAll_7 : decode cX11_engraveAll 7 = .ok (.ifCond .ne 14, 3) := by decide +kernel
theorem dX11_engraveAll_10 : decode cX11_engraveAll 10 = .ok (.new 75, 3) := by decide +kernel
theorem dX11_engraveAll_13 : decode cX11_engraveAll 13 = .ok (.dup, 1) := by decide +kernel
theorem dX11_engraveAll_14 : decode cX11_engraveAll 14 = .ok (.ldc_w 406, 3) := by decide +kernel
theorem dX11_engraveAll_17 : decode cX11_engraveAll 17 = .ok (.invokespecial 79, 3) := by decide +kernel
theorem dX11_engraveAll_20 : decode cX11_engraveAll 20 = .ok (.athrow, 1) := by decide +kernel
theorem dX11_engraveAll_21 : decode cX11_engraveAll 21 = .ok (.aload_n 0, 1) := by decide +kernel
theorem dX11_engraveAll_22 : decode cX11_engraveAll 22 = .ok (.invokevirtual 123, 3) := by decide +kernel
theorem dX11_engraveAll_25 : decode cX11_engraveAll 25 = .ok (.aload_n 0, 1) := by decide +kernel
theorem dX11_engraveAll_26 : decode cX11_engraveAll 26 = .ok (.getfield 12, 3) := by decide +kernel
theorem dX11_engraveAll_29 : decode cX11_engraveAll 29 = .ok (.invokevirtual 408, 3) := by decide +kernel
theorem dX11_engraveAll_32 : decode cX11_engraveAll 32 = .ok (.ireturn, 1) := by decide +kernel
theorem dX11_mend_0 : decode cX11_mend 0 = .ok (.aload_n 0, 1) := by decide +kernel
theorem dX11_mend_1 : decode cX11_mend 1 = .ok (.getfield 12, 3) := by decide +kernel
theorem dX11_mend_4 : decode cX11_mend 4 = .ok (.iload_n 1, 1) := by decide +kernel
theorem dX11_mend_5 : decode cX11_mend 5 = .ok (.invokevirtual 275, 3) := by decide +kernel
theorem dX11_mend_8 : decode cX11_mend 8 = .ok (.ifCond .ne 14, 3) := by decide +kernel
theorem dX11_mend_11 : decode cX11_mend 11 = .ok (.new 198, 3) := by decide +kernel
theorem dX11_mend_14 : decode cX11_mend 14 = .ok (.dup, 1) := by decide +kernel
theorem dX11_mend_15 : decode cX11_mend 15 = .ok (.ldc_w 278, 3) := by decide +kernel
theorem dX11_mend_18 : decode cX11_mend 18 = .ok (.invokespecial 202, 3) := by decide +kernel
theorem dX11_mend_21 : decode cX11_mend 21 = .ok (.athrow, 1) := by decide +kernel
theorem dX11_mend_22 : decode cX11_mend 22 = .ok (.aload_n 0, 1) := by decide +kernel
theorem dX11_mend_23 : decode cX11_mend 23 = .ok (.getfield 12, 3) := by decide +kernel
theorem dX11_mend_26 : decode cX11_mend 26 = .ok (.iload_n 1, 1) := by decide +kernel
theorem dX11_mend_27 : decode cX11_mend 27 = .ok (.invokevirtual 411, 3) := by decide +kernel
theorem dX11_mend_30 : decode cX11_mend 30 = .ok (.ifCond .ne 14, 3) := by decide +kernel
theorem dX11_mend_33 : decode cX11_mend 33 = .ok (.new 75, 3) := by decide +kernel
theorem dX11_mend_36 : decode cX11_mend 36 = .ok (.dup, 1) := by decide +kernel
theorem dX11_mend_37 : decode cX11_mend 37 = .ok (.ldc_w 414, 3) := by decide +kernel
theorem dX11_mend_40 : decode cX11_mend 40 = .ok (.invokespecial 79, 3) := by decide +kernel
theorem dX11_mend_43 : decode cX11_mend 43 = .ok (.athrow, 1) := by decide +kernel
theorem dX11_mend_44 : decode cX11_mend 44 = .ok (.aload_n 0, 1) := by decide +kernel
theorem dX11_mend_45 : decode cX11_mend 45 = .ok (.invokevirtual 123, 3) := by decide +kernel
theorem dX11_mend_48 : decode cX11_mend 48 = .ok (.aload_n 0, 1) := by decide +kernel
theorem dX11_mend_49 : decode cX11_mend 49 = .ok (.getfield 12, 3) := by decide +kernel
theorem dX11_mend_52 : decode cX11_mend 52 = .ok (.iload_n 1, 1) := by decide +kernel
theorem dX11_mend_53 : decode cX11_mend 53 = .ok (.invokevirtual 416, 3) := by decide +kernel
theorem dX11_mend_56 : decode cX11_mend 56 = .ok (.ireturn, 1) := by decide +kernel
theorem dX11_polish_0 : decode cX11_polish 0 = .ok (.aload_n 0, 1) := by decide +kernel
theorem dX11_polish_1 : decode cX11_polish 1 = .ok (.getfield 12, 3) := by decide +kernel
theorem dX11_polish_4 : decode cX11_polish 4 = .ok (.iload_n 1, 1) := by decide +kernel
theorem dX11_polish_5 : decode cX11_polish 5 = .ok (.invokevirtual 229, 3) := by decide +kernel
theorem dX11_polish_8 : decode cX11_polish 8 = .ok (.ifCond .ne 13, 3) := by decide +kernel
theorem dX11_polish_11 : decode cX11_polish 11 = .ok (.new 198, 3) := by decide +kernel
theorem dX11_polish_14 : decode cX11_polish 14 = .ok (.dup, 1) := by decide +kernel
theorem dX11_polish_15 : decode cX11_polish 15 = .ok (.ldc 232, 2) := by decide +kernel
theorem dX11_polish_17 : decode cX11_polish 17 = .ok (.invokespecial 202, 3) := by decide +kernel
theorem dX11_polish_20 : decode cX11_polish 20 = .ok (.athrow, 1) := by decide +kernel
theorem dX11_polish_21 : decode cX11_polish 21 = .ok (.aload_n 0, 1) := by decide +kernel
theorem dX11_polish_22 : decode cX11_polish 22 = .ok (.getfield 12, 3) := by decide +kernel
theorem dX11_polish_25 : decode cX11_polish 25 = .ok (.iload_n 1, 1) := by decide +kernel
theorem dX11_polish_26 : decode cX11_polish 26 = .ok (.invokevirtual 419, 3) := by decide +kernel
theorem dX11_polish_29 : decode cX11_polish 29 = .ok (.ifCond .ne 14, 3) := by decide +kernel
theorem dX11_polish_32 : decode cX11_polish 32 = .ok (.new 75, 3) := by decide +kernel
theorem dX11_polish_35 : decode cX11_polish 35 = .ok (.dup, 1) := by decide +kernel
theorem dX11_polish_36 : decode cX11_polish 36 = .ok (.ldc_w 422, 3) := by decide +kernel
theorem dX11_polish_39 : decode cX11_polish 39 = .ok (.invokespecial 79, 3) := by decide +kernel
theorem dX11_polish_42 : decode cX11_polish 42 = .ok (.athrow, 1) := by decide +kernel
theorem dX11_polish_43 : decode cX11_polish 43 = .ok (.aload_n 0, 1) := by decide +kernel
theorem dX11_polish_44 : decode cX11_polish 44 = .ok (.invokevirtual 123, 3) := by decide +kernel
theorem dX11_polish_47 : decode cX11_polish 47 = .ok (.aload_n 0, 1) := by decide +kernel
theorem dX11_polish_48 : decode cX11_polish 48 = .ok (.getfield 12, 3) := by decide +kernel
theorem dX11_polish_51 : decode cX11_polish 51 = .ok (.iload_n 1, 1) := by decide +kernel
theorem dX11_polish_52 : decode cX11_polish 52 = .ok (.invokevirtual 424, 3) := by decide +kernel
theorem dX11_polish_55 : decode cX11_polish 55 = .ok (.ireturn, 1) := by decide +kernel
theorem dX11_sharpen_0 : decode cX11_sharpen 0 = .ok (.iload_n 1, 1) := by decide +kernel
theorem dX11_sharpen_1 : decode cX11_sharpen 1 = .ok (.invokestatic 427, 3) := by decide +kernel
theorem dX11_sharpen_4 : decode cX11_sharpen 4 = .ok (.ifCond .ne 14, 3) := by decide +kernel
theorem dX11_sharpen_7 : decode cX11_sharpen 7 = .ok (.new 90, 3) := by decide +kernel
theorem dX11_sharpen_10 : decode cX11_sharpen 10 = .ok (.dup, 1) := by decide +kernel
theorem dX11_sharpen_11 : decode cX11_sharpen 11 = .ok (.ldc_w 430, 3) := by decide +kernel
theorem dX11_sharpen_14 : decode cX11_sharpen 14 = .ok (.invokespecial 94, 3) := by decide +kernel
theorem dX11_sharpen_17 : decode cX11_sharpen 17 = .ok (.athrow, 1) := by decide +kernel
theorem dX11_sharpen_18 : decode cX11_sharpen 18 = .ok (.aload_n 0, 1) := by decide +kernel
theorem dX11_sharpen_19 : decode cX11_sharpen 19 = .ok (.invokevirtual 123, 3) := by decide +kernel
theorem dX11_sharpen_22 : decode cX11_sharpen 22 = .ok (.aload_n 0, 1) := by decide +kernel
theorem dX11_sharpen_23 : decode cX11_sharpen 23 = .ok (.getfield 12, 3) := by decide +kernel
theorem dX11_sharpen_26 : decode cX11_sharpen 26 = .ok (.getfield 161, 3) := by decide +kernel
theorem dX11_sharpen_29 : decode cX11_sharpen 29 = .ok (.iload_n 1, 1) := by decide +kernel
theorem dX11_sharpen_30 : decode cX11_sharpen 30 = .ok (.invokevirtual 432, 3) := by decide +kernel
theorem dX11_sharpen_33 : decode cX11_sharpen 33 = .ok (.ireturn, 1) := by decide +kernel
theorem dX11_setMargin_0 : decode cX11_setMargin 0 = .ok (.iload_n 1, 1) := by decide +kernel
theorem dX11_setMargin_1 : decode cX11_setMargin 1 = .ok (.invokestatic 435, 3) := by decide +kernel
theorem dX11_setMargin_4 : decode cX11_setMargin 4 = .ok (.ifCond .ne 14, 3) := by decide +kernel
theorem dX11_setMargin_7 : decode cX11_setMargin 7 = .ok (.new 90, 3) := by decide +kernel
theorem dX11_setMargin_10 : decode cX11_setMargin 10 = .ok (.dup, 1) := by decide +kernel
theorem dX11_setMargin_11 : decode cX11_setMargin 11 = .ok (.ldc_w 438, 3) := by decide +kernel
theorem dX11_setMargin_14 : decode cX11_setMargin 14 = .ok (.invokespecial 94, 3) := by decide +kernel
theorem dX11_setMargin_17 : decode cX11_setMargin 17 = .ok (.athrow, 1) := by decide +kernel
theorem dX11_setMargin_18 : decode cX11_setMargin 18 = .ok (.aload_n 0, 1) := by decide +kernel
theorem dX11_setMargin_19 : decode cX11_setMargin 19 = .ok (.invokevirtual 123, 3) := by decide +kernel
theorem dX11_setMargin_22 : decode cX11_setMargin 22 = .ok (.aload_n 0, 1) := by decide +kernel
theorem dX11_setMargin_23 : decode cX11_setMargin 23 = .ok (.getfield 12, 3) := by decide +kernel
theorem dX11_setMargin_26 : decode cX11_setMargin 26 = .ok (.getfield 167, 3) := by decide +kernel
theorem dX11_setMargin_29 : decode cX11_setMargin 29 = .ok (.istore_n 2, 1) := by decide +kernel
theorem dX11_setMargin_30 : decode cX11_setMargin 30 = .ok (.aload_n 0, 1) := by decide +kernel
theorem dX11_setMargin_31 : decode cX11_setMargin 31 = .ok (.getfield 12, 3) := by decide +kernel
theorem dX11_setMargin_34 : decode cX11_setMargin 34 = .ok (.iload_n 1, 1) := by decide +kernel
theorem dX11_setMargin_35 : decode cX11_setMargin 35 = .ok (.putfield 167, 3) := by decide +kernel
theorem dX11_setMargin_38 : decode cX11_setMargin 38 = .ok (.iload_n 2, 1) := by decide +kernel
theorem dX11_setMargin_39 : decode cX11_setMargin 39 = .ok (.ireturn, 1) := by decide +kernel
theorem dX11_setRadius_0 : decode cX11_setRadius 0 = .ok (.aload_n 0, 1) := by decide +kernel
theorem dX11_setRadius_1 : decode cX11_setRadius 1 = .ok (.getfield 12, 3) := by decide +kernel
theorem dX11_setRadius_4 : decode cX11_setRadius 4 = .ok (.iload_n 1, 1) := by decide +kernel
theorem dX11_setRadius_5 : decode cX11_setRadius 5 = .ok (.invokevirtual 194, 3) := by decide +kernel
theorem dX11_setRadius_8 : decode cX11_setRadius 8 = .ok (.ifCond .ne 13, 3) := by decide +kernel
theorem dX11_setRadius_11 : decode cX11_setRadius 11 = .ok (.new 198, 3) := by decide +kernel
theorem dX11_setRadius_14 : decode cX11_setRadius 14 = .ok (.dup, 1) := by decide +kernel
theorem dX11_setRadius_15 : decode cX11_setRadius 15 = .ok (.ldc 200, 2) := by decide +kernel
theorem dX11_setRadius_17 : decode cX11_setRadius 17 = .ok (.invokespecial 202, 3) := by decide +kernel
theorem dX11_setRadius_20 : decode cX11_setRadius 20 = .ok (.athrow, 1) := by decide +kernel
theorem dX11_setRadius_21 : decode cX11_setRadius 21 = .ok (.iload_n 2, 1) := by decide +kernel
theorem dX11_setRadius_22 : decode cX11_setRadius 22 = .ok (.iconst 1, 1) := by decide +kernel
theorem dX11_setRadius_23 : decode cX11_setRadius 23 = .ok (.bipush 99, 2) := by decide +kernel
theorem dX11_setRadius_25 : decode cX11_setRadius 25 = .ok (.invokestatic 86, 3) := by decide +kernel
theorem dX11_setRadius_28 : decode cX11_setRadius 28 = .ok (.ifCond .ne 14, 3) := by decide +kernel
theorem dX11_setRadius_31 : decode cX11_setRadius 31 = .ok (.new 90, 3) := by decide +kernel
theorem dX11_setRadius_34 : decode cX11_setRadius 34 = .ok (.dup, 1) := by decide +kernel
theorem dX11_setRadius_35 : decode cX11_setRadius 35 = .ok (.ldc_w 440, 3) := by decide +kernel
theorem dX11_setRadius_38 : decode cX11_setRadius 38 = .ok (.invokespecial 94, 3) := by decide +kernel
theorem dX11_setRadius_41 : decode cX11_setRadius 41 = .ok (.athrow, 1) := by decide +kernel
theorem dX11_setRadius_42 : decode cX11_setRadius 42 = .ok (.aload_n 0, 1) := by decide +kernel
theorem dX11_setRadius_43 : decode cX11_setRadius 43 = .ok (.invokevirtual 123, 3) := by decide +kernel
theorem dX11_setRadius_46 : decode cX11_setRadius 46 = .ok (.aload_n 0, 1) := by decide +kernel
theorem dX11_setRadius_47 : decode cX11_setRadius 47 = .ok (.getfield 12, 3) := by decide +kernel
theorem dX11_setRadius_50 : decode cX11_setRadius 50 = .ok (.getfield 136, 3) := by decide +kernel
theorem dX11_setRadius_53 : decode cX11_setRadius 53 = .ok (.getfield 203, 3) := by decide +kernel
theorem dX11_setRadius_56 : decode cX11_setRadius 56 = .ok (.iload_n 1, 1) := by decide +kernel
theorem dX11_setRadius_57 : decode cX11_setRadius 57 = .ok (.iaload, 1) := by decide +kernel
theorem dX11_setRadius_58 : decode cX11_setRadius 58 = .ok (.istore_n 3, 1) := by decide +kernel
theorem dX11_setRadius_59 : decode cX11_setRadius 59 = .ok (.aload_n 0, 1) := by decide +kernel
theorem dX11_setRadius_60 : decode cX11_setRadius 60 = .ok (.getfield 12, 3) := by decide +kernel
theorem dX11_setRadius_63 : decode cX11_setRadius 63 = .ok (.getfield 136, 3) := by decide +kernel
theorem dX11_setRadius_66 : decode cX11_setRadius 66 = .ok (.getfield 203, 3) := by decide +kernel
theorem dX11_setRadius_69 : decode cX11_setRadius 69 = .ok (.iload_n 1, 1) := by decide +kernel
theorem dX11_setRadius_70 : decode cX11_setRadius 70 = .ok (.iload_n 2, 1) := by decide +kernel
theorem dX11_setRadius_71 : decode cX11_setRadius 71 = .ok (.iastore, 1) := by decide +kernel
theorem dX11_setRadius_72 : decode cX11_setRadius 72 = .ok (.iload_n 3, 1) := by decide +kernel
theorem dX11_setRadius_73 : decode cX11_setRadius 73 = .ok (.ireturn, 1) := by decide +kernel
theorem dX11_setWidth_0 : decode cX11_setWidth 0 = .ok (.iload_n 1, 1) := by decide +kernel
theorem dX11_setWidth_1 : decode cX11_setWidth 1 = .ok (.invokestatic 369, 3) := by decide +kernel
theorem dX11_setWidth_4 : decode cX11_setWidth 4 = .ok (.ifCond .eq 13, 3) := by decide +kernel
theorem dX11_setWidth_7 : decode cX11_setWidth 7 = .ok (.iload_n 2, 1) := by decide +kernel
theorem dX11_setWidth_8 : decode cX11_setWidth 8 = .ok (.iconst 1, 1) := by decide +kernel
theorem dX11_setWidth_9 : decode cX11_setWidth 9 = .ok (.bipush 99, 2) := by decide +kernel
theorem dX11_setWidth_11 : decode cX11_setWidth 11 = .ok (.invokestatic 86, 3) := by decide +kernel
theorem dX11_setWidth_14 : decode cX11_setWidth 14 = .ok (.ifCond .ne 14, 3) := by decide +kernel
theorem dX11_setWidth_17 : decode cX11_setWidth 17 = .ok (.new 90, 3) := by decide +kernel
theorem dX11_setWidth_20 : decode cX11_setWidth 20 = .ok (.dup, 1) := by decide +kernel
theorem dX11_setWidth_21 : decode cX11_setWidth 21 = .ok (.ldc_w 442, 3) := by decide +kernel
theorem dX11_setWidth_24 : decode cX11_setWidth 24 = .ok (.invokespecial 94, 3) := by decide +kernel
theorem dX11_setWidth_27 : decode cX11_setWidth 27 = .ok (.athrow, 1) := by decide +kernel
theorem dX11_setWidth_28 : decode cX11_setWidth 28 = .ok (.aload_n 0, 1) := by decide +kernel
theorem dX11_setWidth_29 : decode cX11_setWidth 29 = .ok (.invokevirtual 123, 3) := by decide +kernel
theorem dX11_setWidth_32 : decode cX11_setWidth 32 = .ok (.aload_n 0, 1) := by decide +kernel
theorem dX11_setWidth_33 : decode cX11_setWidth 33 = .ok (.getfield 12, 3) := by decide +kernel
theorem dX11_setWidth_36 : decode cX11_setWidth 36 = .ok (.getfield 108, 3) := by decide +kernel
theorem dX11_setWidth_39 : decode cX11_setWidth 39 = .ok (.getfield 374, 3) := by decide +kernel
theorem dX11_setWidth_42 : decode cX11_setWidth 42 = .ok (.iload_n 1, 1) := by decide +kernel
theorem dX11_setWidth_43 : decode cX11_setWidth 43 = .ok (.iaload, 1) := by decide +kernel
theorem dX11_setWidth_44 : decode cX11_setWidth 44 = .ok (.istore_n 3, 1) := by decide +kernel
theorem dX11_setWidth_45 : decode cX11_setWidth 45 = .ok (.aload_n 0, 1) := by decide +kernel
theorem dX11_setWidth_46 : decode cX11_setWidth 46 = .ok (.getfield 12, 3) := by decide +kernel
theorem dX11_setWidth_49 : decode cX11_setWidth 49 = .ok (.getfield 108, 3) := by decide +kernel
theorem dX11_setWidth_52 : decode cX11_setWidth 52 = .ok (.getfield 374, 3) := by decide +kernel
theorem dX11_setWidth_55 : decode cX11_setWidth 55 = .ok (.iload_n 1, 1) := by decide +kernel
theorem dX11_setWidth_56 : decode cX11_setWidth 56 = .ok (.iload_n 2, 1) := by decide +kernel
theorem dX11_setWidth_57 : decode cX11_setWidth 57 = .ok (.iastore, 1) := by decide +kernel
theorem dX11_setWidth_58 : decode cX11_setWidth 58 = .ok (.iload_n 3, 1) := by decide +kernel
theorem dX11_setWidth_59 : decode cX11_setWidth 59 = .ok (.ireturn, 1) := by decide +kernel
theorem dX11_report_0 : decode cX11_report 0 = .ok (.aload_n 0, 1) := by decide +kernel
theorem dX11_report_1 : decode cX11_report 1 = .ok (.getfield 39, 3) := by decide +kernel
theorem dX11_report_4 : decode cX11_report 4 = .ok (.aload_n 0, 1) := by decide +kernel
theorem dX11_report_5 : decode cX11_report 5 = .ok (.getfield 12, 3) := by decide +kernel
theorem dX11_report_8 : decode cX11_report 8 = .ok (.invokevirtual 329, 3) := by decide +kernel
theorem dX11_report_11 : decode cX11_report 11 = .ok (.aload_n 0, 1) := by decide +kernel
theorem dX11_report_12 : decode cX11_report 12 = .ok (.getfield 67, 3) := by decide +kernel
theorem dX11_report_15 : decode cX11_report 15 = .ok (.iconst 0, 1) := by decide +kernel
theorem dX11_report_16 : decode cX11_report 16 = .ok (.putfield 444, 3) := by decide +kernel
theorem dX11_report_19 : decode cX11_report 19 = .ok (.iconst 0, 1) := by decide +kernel
theorem dX11_report_20 : decode cX11_report 20 = .ok (.istore_n 1, 1) := by decide +kernel
theorem dX11_report_21 : decode cX11_report 21 = .ok (.iload_n 1, 1) := by decide +kernel
theorem dX11_report_22 : decode cX11_report 22 = .ok (.aload_n 0, 1) := by decide +kernel
theorem dX11_report_23 : decode cX11_report 23 = .ok (.getfield 39, 3) := by decide +kernel
theorem dX11_report_26 : decode cX11_report 26 = .ok (.getfield 447, 3) := by decide +kernel
theorem dX11_report_29 : decode cX11_report 29 = .ok (.if_icmp .ge 83, 3) := by decide +kernel
theorem dX11_report_32 : decode cX11_report 32 = .ok (.aload_n 0, 1) := by decide +kernel
theorem dX11_report_33 : decode cX11_report 33 = .ok (.getfield 39, 3) := by decide +kernel
theorem dX11_report_36 : decode cX11_report 36 = .ok (.getfield 332, 3) := by decide +kernel
theorem dX11_report_39 : decode cX11_report 39 = .ok (.iload_n 1, 1) := by decide +kernel
theorem dX11_report_40 : decode cX11_report 40 = .ok (.iaload, 1) := by decide +kernel
theorem dX11_report_41 : decode cX11_report 41 = .ok (.iconst (-1), 1) := by decide +kernel
theorem dX11_report_42 : decode cX11_report 42 = .ok (.if_icmp .eq 26, 3) := by decide +kernel
theorem dX11_report_45 : decode cX11_report 45 = .ok (.aload_n 0, 1) := by decide +kernel
theorem dX11_report_46 : decode cX11_report 46 = .ok (.getfield 67, 3) := by decide +kernel
theorem dX11_report_49 : decode cX11_report 49 = .ok (.aload_n 0, 1) := by decide +kernel
theorem dX11_report_50 : decode cX11_report 50 = .ok (.getfield 12, 3) := by decide +kernel
theorem dX11_report_53 : decode cX11_report 53 = .ok (.getfield 145, 3) := by decide +kernel
theorem dX11_report_56 : decode cX11_report 56 = .ok (.aload_n 0, 1) := by decide +kernel
theorem dX11_report_57 : decode cX11_report 57 = .ok (.getfield 39, 3) := by decide +kernel
theorem dX11_report_60 : decode cX11_report 60 = .ok (.getfield 332, 3) := by decide +kernel
theorem dX11_report_63 : decode cX11_report 63 = .ok (.iload_n 1, 1) := by decide +kernel
theorem dX11_report_64 : decode cX11_report 64 = .ok (.iaload, 1) := by decide +kernel
theorem dX11_report_65 : decode cX11_report 65 = .ok (.invokevirtual 448, 3) := by decide +kernel
theorem dX11_report_68 : decode cX11_report 68 = .ok (.iload_n 1, 1) := by decide +kernel
theorem dX11_report_69 : decode cX11_report 69 = .ok (.aload_n 0, 1) := by decide +kernel
theorem dX11_report_70 : decode cX11_report 70 = .ok (.getfield 12, 3) := by decide +kernel
theorem dX11_report_73 : decode cX11_report 73 = .ok (.getfield 108, 3) := by decide +kernel
theorem dX11_report_76 : decode cX11_report 76 = .ok (.getfield 112, 3) := by decide +kernel
theorem dX11_report_79 : decode cX11_report 79 = .ok (.if_icmp .ge 27, 3) := by decide +kernel
theorem dX11_report_82 : decode cX11_report 82 = .ok (.aload_n 0, 1) := by decide +kernel
theorem dX11_report_83 : decode cX11_report 83 = .ok (.getfield 67, 3) := by decide +kernel
theorem dX11_report_86 : decode cX11_report 86 = .ok (.aload_n 0, 1) := by decide +kernel
theorem dX11_report_87 : decode cX11_report 87 = .ok (.getfield 12, 3) := by decide +kernel
theorem dX11_report_90 : decode cX11_report 90 = .ok (.iload_n 1, 1) := by decide +kernel
theorem dX11_report_91 : decode cX11_report 91 = .ok (.aload_n 0, 1) := by decide +kernel
theorem dX11_report_92 : decode cX11_report 92 = .ok (.getfield 39, 3) := by decide +kernel
theorem dX11_report_95 : decode cX11_report 95 = .ok (.aload_n 0, 1) := by decide +kernel
theorem dX11_report_96 : decode cX11_report 96 = .ok (.getfield 12, 3) := by decide +kernel
theorem dX11_report_99 : decode cX11_report 99 = .ok (.iload_n 1, 1) := by decide +kernel
theorem dX11_report_100 : decode cX11_report 100 = .ok (.invokevirtual 452, 3) := by decide +kernel
theorem dX11_report_103 : decode cX11_report 103 = .ok (.invokevirtual 455, 3) := by decide +kernel
theorem dX11_report_106 : decode cX11_report 106 = .ok (.iinc 1 1, 3) := by decide +kernel
theorem dX11_report_109 : decode cX11_report 109 = .ok (.goto (-88), 3) := by decide +kernel
theorem dX11_report_112 : decode cX11_report 112 = .ok (.aload_n 0, 1) := by decide +kernel
theorem dX11_report_113 : decode cX11_report 113 = .ok (.getfield 67, 3) := by decide +kernel
theorem dX11_report_116 : decode cX11_report 116 = .ok (.getfield 444, 3) := by decide +kernel
theorem dX11_report_119 : decode cX11_report 119 = .ok (.ireturn, 1) := by decide +kernel
theorem dX11_reportByte_0 : decode cX11_reportByte 0 = .ok (.iload_n 1, 1) := by decide +kernel
theorem dX11_reportByte_1 : decode cX11_reportByte 1 = .ok (.iconst 0, 1) := by decide +kernel
theorem dX11_reportByte_2 : decode cX11_reportByte 2 = .ok (.aload_n 0, 1) := by decide +kernel
theorem dX11_reportByte_3 : decode cX11_reportByte 3 = .ok (.getfield 67, 3) := by decide +kernel
theorem dX11_reportByte_6 : decode cX11_reportByte 6 = .ok (.getfield 444, 3) := by decide +kernel
theorem dX11_reportByte_9 : decode cX11_reportByte 9 = .ok (.iconst 1, 1) := by decide +kernel
theorem dX11_reportByte_10 : decode cX11_reportByte 10 = .ok (.isub, 1) := by decide +kernel
theorem dX11_reportByte_11 : decode cX11_reportByte 11 = .ok (.invokestatic 86, 3) := by decide +kernel
theorem dX11_reportByte_14 : decode cX11_reportByte 14 = .ok (.ifCond .ne 14, 3) := by decide +kernel
theorem dX11_reportByte_17 : decode cX11_reportByte 17 = .ok (.new 198, 3) := by decide +kernel
theorem dX11_reportByte_20 : decode cX11_reportByte 20 = .ok (.dup, 1) := by decide +kernel
theorem dX11_reportByte_21 : decode cX11_reportByte 21 = .ok (.ldc_w 459, 3) := by decide +kernel
theorem dX11_reportByte_24 : decode cX11_reportByte 24 = .ok (.invokespecial 202, 3) := by decide +kernel
theorem dX11_reportByte_27 : decode cX11_reportByte 27 = .ok (.athrow, 1) := by decide +kernel
theorem dX11_reportByte_28 : decode cX11_reportByte 28 = .ok (.aload_n 0, 1) := by decide +kernel
theorem dX11_reportByte_29 : decode cX11_reportByte 29 = .ok (.getfield 67, 3) := by decide +kernel
theorem dX11_reportByte_32 : decode cX11_reportByte 32 = .ok (.getfield 461, 3) := by decide +kernel
theorem dX11_reportByte_35 : decode cX11_reportByte 35 = .ok (.iload_n 1, 1) := by decide +kernel
theorem dX11_reportByte_36 : decode cX11_reportByte 36 = .ok (.baload, 1) := by decide +kernel
theorem dX11_reportByte_37 : decode cX11_reportByte 37 = .ok (.ireturn, 1) := by decide +kernel
theorem dX11_undo_0 : decode cX11_undo 0 = .ok (.aload_n 0, 1) := by decide +kernel
theorem dX11_undo_1 : decode cX11_undo 1 = .ok (.getfield 105, 3) := by decide +kernel
theorem dX11_undo_4 : decode cX11_undo 4 = .ok (.ifCond .gt 5, 3) := by decide +kernel
theorem dX11_undo_7 : decode cX11_undo 7 = .ok (.iconst (-1), 1) := by decide +kernel
theorem dX11_undo_8 : decode cX11_undo 8 = .ok (.ireturn, 1) := by decide +kernel
theorem dX11_undo_9 : decode cX11_undo 9 = .ok (.aload_n 0, 1) := by decide +kernel
theorem dX11_undo_10 : decode cX11_undo 10 = .ok (.dup, 1) := by decide +kernel
theorem dX11_undo_11 : decode cX11_undo 11 = .ok (.getfield 105, 3) := by decide +kernel
theorem dX11_undo_14 : decode cX11_undo 14 = .ok (.iconst 1, 1) := by decide +kernel
theorem dX11_undo_15 : decode cX11_undo 15 = .ok (.isub, 1) := by decide +kernel
theorem dX11_undo_16 : decode cX11_undo 16 = .ok (.putfield 105, 3) := by decide +kernel
theorem dX11_undo_19 : decode cX11_undo 19 = .ok (.aload_n 0, 1) := by decide +kernel
theorem dX11_undo_20 : decode cX11_undo 20 = .ok (.getfield 12, 3) := by decide +kernel
theorem dX11_undo_23 : decode cX11_undo 23 = .ok (.aload_n 0, 1) := by decide +kernel
theorem dX11_undo_24 : decode cX11_undo 24 = .ok (.getfield 25, 3) := by decide +kernel
theorem dX11_undo_27 : decode cX11_undo 27 = .ok (.aload_n 0, 1) := by decide +kernel
theorem dX11_undo_28 : decode cX11_undo 28 = .ok (.getfield 105, 3) := by decide +kernel
theorem dX11_undo_31 : decode cX11_undo 31 = .ok (.aaload, 1) := by decide +kernel
theorem dX11_undo_32 : decode cX11_undo 32 = .ok (.invokevirtual 101, 3) := by decide +kernel
theorem dX11_undo_35 : decode cX11_undo 35 = .ok (.aload_n 0, 1) := by decide +kernel
theorem dX11_undo_36 : decode cX11_undo 36 = .ok (.getfield 105, 3) := by decide +kernel
theorem dX11_undo_39 : decode cX11_undo 39 = .ok (.ireturn, 1) := by decide +kernel
theorem dX11_save_0 : decode cX11_save 0 = .ok (.aload_n 0, 1) := by decide +kernel
theorem dX11_save_1 : decode cX11_save 1 = .ok (.getfield 22, 3) := by decide +kernel
theorem dX11_save_4 : decode cX11_save 4 = .ok (.aload_n 0, 1) := by decide +kernel
theorem dX11_save_5 : decode cX11_save 5 = .ok (.getfield 12, 3) := by decide +kernel
theorem dX11_save_8 : decode cX11_save 8 = .ok (.invokevirtual 101, 3) := by decide +kernel
theorem dX11_save_11 : decode cX11_save 11 = .ok (.aload_n 0, 1) := by decide +kernel
theorem dX11_save_12 : decode cX11_save 12 = .ok (.iconst 1, 1) := by decide +kernel
theorem dX11_save_13 : decode cX11_save 13 = .ok (.putfield 465, 3) := by decide +kernel
theorem dX11_save_16 : decode cX11_save 16 = .ok (.aload_n 0, 1) := by decide +kernel
theorem dX11_save_17 : decode cX11_save 17 = .ok (.getfield 12, 3) := by decide +kernel
theorem dX11_save_20 : decode cX11_save 20 = .ok (.getfield 170, 3) := by decide +kernel
theorem dX11_save_23 : decode cX11_save 23 = .ok (.getfield 174, 3) := by decide +kernel
theorem dX11_save_26 : decode cX11_save 26 = .ok (.ireturn, 1) := by decide +kernel
theorem dX11_restore_0 : decode cX11_restore 0 = .ok (.aload_n 0, 1) := by decide +kernel
theorem dX11_restore_1 : decode cX11_restore 1 = .ok (.getfield 465, 3) := by decide +kernel
theorem dX11_restore_4 : decode cX11_restore 4 = .ok (.ifCond .ne 14, 3) := by decide +kernel
theorem dX11_restore_7 : decode cX11_restore 7 = .ok (.new 75, 3) := by decide +kernel
theorem dX11_restore_10 : decode cX11_restore 10 = .ok (.dup, 1) := by decide +kernel
theorem dX11_restore_11 : decode cX11_restore 11 = .ok (.ldc_w 469, 3) := by decide +kernel
theorem dX11_restore_14 : decode cX11_restore 14 = .ok (.invokespecial 79, 3) := by decide +kernel
theorem dX11_restore_17 : decode cX11_restore 17 = .ok (.athrow, 1) := by decide +kernel
theorem dX11_restore_18 : decode cX11_restore 18 = .ok (.aload_n 0, 1) := by decide +kernel
theorem dX11_restore_19 : decode cX11_restore 19 = .ok (.getfield 12, 3) := by decide +kernel
theorem dX11_restore_22 : decode cX11_restore 22 = .ok (.aload_n 0, 1) := by decide +kernel
theorem dX11_restore_23 : decode cX11_restore 23 = .ok (.getfield 22, 3) := by decide +kernel
theorem dX11_restore_26 : decode cX11_restore 26 = .ok (.invokevirtual 101, 3) := by decide +kernel
theorem dX11_restore_29 : decode cX11_restore 29 = .ok (.aload_n 0, 1) := by decide +kernel
theorem dX11_restore_30 : decode cX11_restore 30 = .ok (.iconst 0, 1) := by decide +kernel
theorem dX11_restore_31 : decode cX11_restore 31 = .ok (.putfield 105, 3) := by decide +kernel
theorem dX11_restore_34 : decode cX11_restore 34 = .ok (.aload_n 0, 1) := by decide +kernel
theorem dX11_restore_35 : decode cX11_restore 35 = .ok (.getfield 12, 3) := by decide +kernel
theorem dX11_restore_38 : decode cX11_restore 38 = .ok (.getfield 170, 3) := by decide +kernel
theorem dX11_restore_41 : decode cX11_restore 41 = .ok (.getfield 174, 3) := by decide +kernel
theorem dX11_restore_44 : decode cX11_restore 44 = .ok (.ireturn, 1) := by decide +kernel
theorem dX11_isWithin_0 : decode cX11_isWithin 0 = .ok (.iload_n 0, 1) := by decide +kernel
theorem dX11_isWithin_1 : decode cX11_isWithin 1 = .ok (.iload_n 1, 1) := by decide +kernel
theorem dX11_isWithin_2 : decode cX11_isWithin 2 = .ok (.if_icmp .lt 12, 3) := by decide +kernel
theorem dX11_isWithin_5 : decode cX11_isWithin 5 = .ok (.iload_n 0, 1) := by decide +kernel
theorem dX11_isWithin_6 : decode cX11_isWithin 6 = .ok (.iload_n 2, 1) := by decide +kernel
theorem dX11_isWithin_7 : decode cX11_isWithin 7 = .ok (.if_icmp .gt 7, 3) := by decide +kernel
theorem dX11_isWithin_10 : decode cX11_isWithin 10 = .ok (.iconst 1, 1) := by decide +kernel
theorem dX11_isWithin_11 : decode cX11_isWithin 11 = .ok (.goto 4, 3) := by decide +kernel
theorem dX11_isWithin_14 : decode cX11_isWithin 14 = .ok (.iconst 0, 1) := by decide +kernel
theorem dX11_isWithin_15 : decode cX11_isWithin 15 = .ok (.ireturn, 1) := by decide +kernel
theorem dX11_isPlace_0 : decode cX11_isPlace 0 = .ok (.iload_n 0, 1) := by decide +kernel
theorem dX11_isPlace_1 : decode cX11_isPlace 1 = .ok (.iconst 0, 1) := by decide +kernel
theorem dX11_isPlace_2 : decode cX11_isPlace 2 = .ok (.bipush 25, 2) := by decide +kernel
theorem dX11_isPlace_4 : decode cX11_isPlace 4 = .ok (.invokestatic 86, 3) := by decide +kernel
theorem dX11_isPlace_7 : decode cX11_isPlace 7 = .ok (.ireturn, 1) := by decide +kernel
theorem dX11_keepForUndo_0 : decode cX11_keepForUndo 0 = .ok (.aload_n 0, 1) := by decide +kernel
theorem dX11_keepForUndo_1 : decode cX11_keepForUndo 1 = .ok (.getfield 105, 3) := by decide +kernel
theorem dX11_keepForUndo_4 : decode cX11_keepForUndo 4 = .ok (.bipush 6, 2) := by decide +kernel
theorem dX11_keepForUndo_6 : decode cX11_keepForUndo 6 = .ok (.if_icmp .lt 50, 3) := by decide +kernel
theorem dX11_keepForUndo_9 : decode cX11_keepForUndo 9 = .ok (.aload_n 0, 1) := by decide +kernel
theorem dX11_keepForUndo_10 : decode cX11_keepForUndo 10 = .ok (.getfield 25, 3) := by decide +kernel
theorem dX11_keepForUndo_13 : decode cX11_keepForUndo 13 = .ok (.iconst 0, 1) := by decide +kernel
theorem dX11_keepForUndo_14 : decode cX11_keepForUndo 14 = .ok (.aaload, 1) := by decide +kernel
theorem dX11_keepForUndo_15 : decode cX11_keepForUndo 15 = .ok (.astore_n 1, 1) := by decide +kernel
theorem dX11_keepForUndo_16 : decode cX11_keepForUndo 16 = .ok (.iconst 1, 1) := by decide +kernel
theorem dX11_keepForUndo_17 : decode cX11_keepForUndo 17 = .ok (.istore_n 2, 1) := by decide +kernel
theorem dX11_keepForUndo_18 : decode cX11_keepForUndo 18 = .ok (.iload_n 2, 1) := by decide +kernel
theorem dX11_keepForUndo_19 : decode cX11_keepForUndo 19 = .ok (.bipush 6, 2) := by decide +kernel
theorem dX11_keepForUndo_21 : decode cX11_keepForUndo 21 = .ok (.if_icmp .ge 23, 3) := by decide +kernel
theorem dX11_keepForUndo_24 : decode cX11_keepForUndo 24 = .ok (.aload_n 0, 1) := by decide +kernel
theorem dX11_keepForUndo_25 : decode cX11_keepForUndo 25 = .ok (.getfield 25, 3) := by decide +kernel
theorem dX11_keepForUndo_28 : decode cX11_keepForUndo 28 = .ok (.iload_n 2, 1) := by decide +kernel
theorem dX11_keepForUndo_29 : decode cX11_keepForUndo 29 = .ok (.iconst 1, 1) := by decide +kernel
theorem dX11_keepForUndo_30 : decode cX11_keepForUndo 30 = .ok (.isub, 1) := by decide +kernel
theorem dX11_keepForUndo_31 : decode cX11_keepForUndo 31 = .ok (.aload_n 0, 1) := by decide +kernel
theorem dX11_keepForUndo_32 : decode cX11_keepForUndo 32 = .ok (.getfield 25, 3) := by decide +kernel
theorem dX11_keepForUndo_35 : decode cX11_keepForUndo 35 = .ok (.iload_n 2, 1) := by decide +kernel
theorem dX11_keepForUndo_36 : decode cX11_keepForUndo 36 = .ok (.aaload, 1) := by decide +kernel
theorem dX11_keepForUndo_37 : decode cX11_keepForUndo 37 = .ok (.aastore, 1) := by decide +kernel
theorem dX11_keepForUndo_38 : decode cX11_keepForUndo 38 = .ok (.iinc 2 1, 3) := by decide +kernel
theorem dX11_keepForUndo_41 : decode cX11_keepForUndo 41 = .ok (.goto (-23), 3) := by decide +kernel
theorem dX11_keepForUndo_44 : decode cX11_keepForUndo 44 = .ok (.aload_n 0, 1) := by decide +kernel
theorem dX11_keepForUndo_45 : decode cX11_keepForUndo 45 = .ok (.getfield 25, 3) := by decide +kernel
theorem dX11_keepForUndo_48 : decode cX11_keepForUndo 48 = .ok (.iconst 5, 1) := by decide +kernel
theorem dX11_keepForUndo_49 : decode cX11_keepForUndo 49 = .ok (.aload_n 1, 1) := by decide +kernel
theorem dX11_keepForUndo_50 : decode cX11_keepForUndo 50 = .ok (.aastore, 1) := by decide +kernel
theorem dX11_keepForUndo_51 : decode cX11_keepForUndo 51 = .ok (.aload_n 0, 1) := by decide +kernel
theorem dX11_keepForUndo_52 : decode cX11_keepForUndo 52 = .ok (.iconst 5, 1) := by decide +kernel
theorem dX11_keepForUndo_53 : decode cX11_keepForUndo 53 = .ok (.putfield 105, 3) := by decide +kernel
theorem dX11_keepForUndo_56 : decode cX11_keepForUndo 56 = .ok (.aload_n 0, 1) := by decide +kernel
theorem dX11_keepForUndo_57 : decode cX11_keepForUndo 57 = .ok (.getfield 25, 3) := by decide +kernel
theorem dX11_keepForUndo_60 : decode cX11_keepForUndo 60 = .ok (.aload_n 0, 1) := by decide +kernel
theorem dX11_keepForUndo_61 : decode cX11_keepForUndo 61 = .ok (.getfield 105, 3) := by decide +kernel
theorem dX11_keepForUndo_64 : decode cX11_keepForUndo 64 = .ok (.aaload, 1) := by decide +kernel
theorem dX11_keepForUndo_65 : decode cX11_keepForUndo 65 = .ok (.aload_n 0, 1) := by decide +kernel
theorem dX11_keepForUndo_66 : decode cX11_keepForUndo 66 = .ok (.getfield 12, 3) := by decide +kernel
theorem dX11_keepForUndo_69 : decode cX11_keepForUndo 69 = .ok (.invokevirtual 101, 3) := by decide +kernel
theorem dX11_keepForUndo_72 : decode cX11_keepForUndo 72 = .ok (.aload_n 0, 1) := by decide +kernel
theorem dX11_keepForUndo_73 : decode cX11_keepForUndo 73 = .ok (.dup, 1) := by decide +kernel
theorem dX11_keepForUndo_74 : decode cX11_keepForUndo 74 = .ok (.getfield 105, 3) := by decide +kernel
theorem dX11_keepForUndo_77 : decode cX11_keepForUndo 77 = .ok (.iconst 1, 1) := by decide +kernel
theorem dX11_keepForUndo_78 : decode cX11_keepForUndo 78 = .ok (.iadd, 1) := by decide +kernel
theorem dX11_keepForUndo_79 : decode cX11_keepForUndo 79 = .ok (.putfield 105, 3) := by decide +kernel
theorem dX11_keepForUndo_82 : decode cX11_keepForUndo 82 = .ok (.return_, 1) := by decide +kernel
theorem dX11_isSpoiled_0 : decode cX11_isSpoiled 0 = .ok (.aload_n 0, 1) := by decide +kernel
theorem dX11_isSpoiled_1 : decode cX11_isSpoiled 1 = .ok (.getfield 39, 3) := by decide +kernel
theorem dX11_isSpoiled_4 : decode cX11_isSpoiled 4 = .ok (.aload_n 0, 1) := by decide +kernel
theorem dX11_isSpoiled_5 : decode cX11_isSpoiled 5 = .ok (.getfield 12, 3) := by decide +kernel
theorem dX11_isSpoiled_8 : decode cX11_isSpoiled 8 = .ok (.invokevirtual 317, 3) := by decide +kernel
theorem dX11_isSpoiled_11 : decode cX11_isSpoiled 11 = .ok (.aload_n 0, 1) := by decide +kernel
theorem dX11_isSpoiled_12 : decode cX11_isSpoiled 12 = .ok (.getfield 39, 3) := by decide +kernel
theorem dX11_isSpoiled_15 : decode cX11_isSpoiled 15 = .ok (.aload_n 0, 1) := by decide +kernel
theorem dX11_isSpoiled_16 : decode cX11_isSpoiled 16 = .ok (.getfield 12, 3) := by decide +kernel
theorem dX11_isSpoiled_19 : decode cX11_isSpoiled 19 = .ok (.iload_n 1, 1) := by decide +kernel
theorem dX11_isSpoiled_20 : decode cX11_isSpoiled 20 = .ok (.invokevirtual 452, 3) := by decide +kernel
theorem dX11_isSpoiled_23 : decode cX11_isSpoiled 23 = .ok (.ireturn, 1) := by decide +kernel
theorem dX11_letterSpoiledBy_0 : decode cX11_letterSpoiledBy 0 = .ok (.aload_n 0, 1) := by decide +kernel
theorem dX11_letterSpoiledBy_1 : decode cX11_letterSpoiledBy 1 = .ok (.getfield 39, 3) := by decide +kernel
theorem dX11_letterSpoiledBy_4 : decode cX11_letterSpoiledBy 4 = .ok (.aload_n 0, 1) := by decide +kernel
theorem dX11_letterSpoiledBy_5 : decode cX11_letterSpoiledBy 5 = .ok (.getfield 12, 3) := by decide +kernel
theorem dX11_letterSpoiledBy_8 : decode cX11_letterSpoiledBy 8 = .ok (.invokevirtual 317, 3) := by decide +kernel
theorem dX11_letterSpoiledBy_11 : decode cX11_letterSpoiledBy 11 = .ok (.aload_n 0, 1) := by decide +kernel
theorem dX11_letterSpoiledBy_12 : decode cX11_letterSpoiledBy 12 = .ok (.getfield 39, 3) := by decide +kernel
theorem dX11_letterSpoiledBy_15 : decode cX11_letterSpoiledBy 15 = .ok (.aload_n 0, 1) := by decide +kernel
theorem dX11_letterSpoiledBy_16 : decode cX11_letterSpoiledBy 16 = .ok (.getfield 12, 3) := by decide +kernel
theorem dX11_letterSpoiledBy_19 : decode cX11_letterSpoiledBy 19 = .ok (.iload_n 1, 1) := by decide +kernel
theorem dX11_letterSpoiledBy_20 : decode cX11_letterSpoiledBy 20 = .ok (.invokevirtual 471, 3) := by decide +kernel
theorem dX11_letterSpoiledBy_23 : decode cX11_letterSpoiledBy 23 = .ok (.ireturn, 1) := by decide +kernel
theorem dX11_spoiledLetters_0 : decode cX11_spoiledLetters 0 = .ok (.aload_n 0, 1) := by decide +kernel
theorem dX11_spoiledLetters_1 : decode cX11_spoiledLetters 1 = .ok (.getfield 39, 3) := by decide +kernel
theorem dX11_spoiledLetters_4 : decode cX11_spoiledLetters 4 = .ok (.aload_n 0, 1) := by decide +kernel
theorem dX11_spoiledLetters_5 : decode cX11_spoiledLetters 5 = .ok (.getfield 12, 3) := by decide +kernel
theorem dX11_spoiledLetters_8 : decode cX11_spoiledLetters 8 = .ok (.invokevirtual 317, 3) := by decide +kernel
theorem dX11_spoiledLetters_11 : decode cX11_spoiledLetters 11 = .ok (.iconst 0, 1) := by decide +kernel
theorem dX11_spoiledLetters_12 : decode cX11_spoiledLetters 12 = .ok (.istore_n 1, 1) := by decide +kernel
theorem dX11_spoiledLetters_13 : decode cX11_spoiledLetters 13 = .ok (.iconst 0, 1) := by decide +kernel
theorem dX11_spoiledLetters_14 : decode cX11_spoiledLetters 14 = .ok (.istore_n 2, 1) := by decide +kernel
theorem dX11_spoiledLetters_15 : decode cX11_spoiledLetters 15 = .ok (.iload_n 2, 1) := by decide +kernel
theorem dX11_spoiledLetters_16 : decode cX11_spoiledLetters 16 = .ok (.aload_n 0, 1) := by decide +kernel
theorem dX11_spoiledLetters_17 : decode cX11_spoiledLetters 17 = .ok (.getfield 12, 3) := by decide +kernel
theorem dX11_spoiledLetters_20 : decode cX11_spoiledLetters 20 = .ok (.getfield 108, 3) := by decide +kernel
theorem dX11_spoiledLetters_23 : decode cX11_spoiledLetters 23 = .ok (.getfield 112, 3) := by decide +kernel
theorem dX11_spoiledLetters_26 : decode cX11_spoiledLetters 26 = .ok (.if_icmp .ge 27, 3) := by decide +kernel
theorem dX11_spoiledLetters_29 : decode cX11_spoiledLetters 29 = .ok (.aload_n 0, 1) := by decide +kernel
theorem dX11_spoiledLetters_30 : decode cX11_spoiledLetters 30 = .ok (.getfield 39, 3) := by decide +kernel
theorem dX11_spoiledLetters_33 : decode cX11_spoiledLetters 33 = .ok (.aload_n 0, 1) := by decide +kernel
theorem dX11_spoiledLetters_34 : decode cX11_spoiledLetters 34 = .ok (.getfield 12, 3) := by decide +kernel
theorem dX11_spoiledLetters_37 : decode cX11_spoiledLetters 37 = .ok (.iload_n 2, 1) := by decide +kernel
theorem dX11_spoiledLetters_38 : decode cX11_spoiledLetters 38 = .ok (.invokevirtual 452, 3) := by decide +kernel
theorem dX11_spoiledLetters_41 : decode cX11_spoiledLetters 41 = .ok (.ifCond .eq 6, 3) := by decide +kernel
theorem dX11_spoiledLetters_44 : decode cX11_spoiledLetters 44 = .ok (.iinc 1 1, 3) := by decide +kernel
theorem dX11_spoiledLetters_47 : decode cX11_spoiledLetters 47 = .ok (.iinc 2 1, 3) := by decide +kernel
theorem dX11_spoiledLetters_50 : decode cX11_spoiledLetters 50 = .ok (.goto (-35), 3) := by decide +kernel
theorem dX11_spoiledLetters_53 : decode cX11_spoiledLetters 53 = .ok (.iload_n 1, 1) := by decide +kernel
theorem dX11_spoiledLetters_54 : decode cX11_spoiledLetters 54 = .ok (.ireturn, 1) := by decide +kernel
theorem dX11_slipsWith_0 : decode cX11_slipsWith 0 = .ok (.aload_n 0, 1) := by decide +kernel
theorem dX11_slipsWith_1 : decode cX11_slipsWith 1 = .ok (.getfield 32, 3) := by decide +kernel
theorem dX11_slipsWith_4 : decode cX11_slipsWith 4 = .ok (.aload_n 0, 1) := by decide +kernel
theorem dX11_slipsWith_5 : decode cX11_slipsWith 5 = .ok (.getfield 12, 3) := by decide +kernel
theorem dX11_slipsWith_8 : decode cX11_slipsWith 8 = .ok (.getfield 161, 3) := by decide +kernel
theorem dX11_slipsWith_11 : decode cX11_slipsWith 11 = .ok (.invokevirtual 474, 3) := by decide +kernel
theorem dX11_slipsWith_14 : decode cX11_slipsWith 14 = .ok (.aload_n 0, 1) := by decide +kernel
theorem dX11_slipsWith_15 : decode cX11_slipsWith 15 = .ok (.getfield 32, 3) := by decide +kernel
theorem dX11_slipsWith_18 : decode cX11_slipsWith 18 = .ok (.iload_n 1, 1) := by decide +kernel
theorem dX11_slipsWith_19 : decode cX11_slipsWith 19 = .ok (.putfield 164, 3) := by decide +kernel
theorem dX11_slipsWith_22 : decode cX11_slipsWith 22 = .ok (.aload_n 0, 1) := by decide +kernel
theorem dX11_slipsWith_23 : decode cX11_slipsWith 23 = .ok (.getfield 12, 3) := by decide +kernel
theorem dX11_slipsWith_26 : decode cX11_slipsWith 26 = .ok (.aload_n 0, 1) := by decide +kernel
theorem dX11_slipsWith_27 : decode cX11_slipsWith 27 = .ok (.getfield 32, 3) := by decide +kernel
theorem dX11_slipsWith_30 : decode cX11_slipsWith 30 = .ok (.invokevirtual 477, 3) := by decide +kernel
theorem dX11_slipsWith_33 : decode cX11_slipsWith 33 = .ok (.ireturn, 1) := by decide +kernel
theorem dX11_crowdedOfTrial_0 : decode cX11_crowdedOfTrial 0 = .ok (.aload_n 0, 1) := by decide +kernel
theorem dX11_crowdedOfTrial_1 : decode cX11_crowdedOfTrial 1 = .ok (.getfield 39, 3) := by decide +kernel
theorem dX11_crowdedOfTrial_4 : decode cX11_crowdedOfTrial 4 = .ok (.aload_n 0, 1) := by decide +kernel
theorem dX11_crowdedOfTrial_5 : decode cX11_crowdedOfTrial 5 = .ok (.getfield 19, 3) := by decide +kernel
theorem dX11_crowdedOfTrial_8 : decode cX11_crowdedOfTrial 8 = .ok (.invokevirtual 317, 3) := by decide +kernel
theorem dX11_crowdedOfTrial_11 : decode cX11_crowdedOfTrial 11 = .ok (.aload_n 0, 1) := by decide +kernel
theorem dX11_crowdedOfTrial_12 : decode cX11_crowdedOfTrial 12 = .ok (.getfield 39, 3) := by decide +kernel
theorem dX11_crowdedOfTrial_15 : decode cX11_crowdedOfTrial 15 = .ok (.aload_n 0, 1) := by decide +kernel
theorem dX11_crowdedOfTrial_16 : decode cX11_crowdedOfTrial 16 = .ok (.getfield 19, 3) := by decide +kernel
theorem dX11_crowdedOfTrial_19 : decode cX11_crowdedOfTrial 19 = .ok (.getfield 167, 3) := by decide +kernel
theorem dX11_crowdedOfTrial_22 : decode cX11_crowdedOfTrial 22 = .ok (.invokevirtual 323, 3) := by decide +kernel
theorem dX11_crowdedOfTrial_25 : decode cX11_crowdedOfTrial 25 = .ok (.ireturn, 1) := by decide +kernel
theorem dJ6_bitCount_0f7a4_0 : decode cJ6_bitCount_0f7a4 0 = .ok (.iload_n 0, 1) := by decide +kernel
theorem dJ6_bitCount_0f7a4_1 : decode cJ6_bitCount_0f7a4 1 = .ok (.iload_n 0, 1) := by decide +kernel
theorem dJ6_bitCount_0f7a4_2 : decode cJ6_bitCount_0f7a4 2 = .ok (.iconst 1, 1) := by decide +kernel
theorem dJ6_bitCount_0f7a4_3 : decode cJ6_bitCount_0f7a4 3 = .ok (.iushr, 1) := by decide +kernel
theorem dJ6_bitCount_0f7a4_4 : decode cJ6_bitCount_0f7a4 4 = .ok (.ldc_w 265, 3) := by decide +kernel
theorem dJ6_bitCount_0f7a4_7 : decode cJ6_bitCount_0f7a4 7 = .ok (.iand, 1) := by decide +kernel
theorem dJ6_bitCount_0f7a4_8 : decode cJ6_bitCount_0f7a4 8 = .ok (.isub, 1) := by decide +kernel
theorem dJ6_bitCount_0f7a4_9 : decode cJ6_bitCount_0f7a4 9 = .ok (.istore_n 0, 1) := by decide +kernel
theorem dJ6_bitCount_0f7a4_10 : decode cJ6_bitCount_0f7a4 10 = .ok (.iload_n 0, 1) := by decide +kernel
theorem dJ6_bitCount_0f7a4_11 : decode cJ6_bitCount_0f7a4 11 = .ok (.ldc_w 266, 3) := by decide +kernel
theorem dJ6_bitCount_0f7a4_14 : decode cJ6_bitCount_0f7a4 14 = .ok (.iand, 1) := by decide +kernel
theorem dJ6_bitCount_0f7a4_15 : decode cJ6_bitCount_0f7a4 15 = .ok (.iload_n 0, 1) := by decide +kernel
theorem dJ6_bitCount_0f7a4_16 : decode cJ6_bitCount_0f7a4 16 = .ok (.iconst 2, 1) := by decide +kernel
theorem dJ6_bitCount_0f7a4_17 : decode cJ6_bitCount_0f7a4 17 = .ok (.iushr, 1) := by decide +kernel
theorem dJ6_bitCount_0f7a4_18 : decode cJ6_bitCount_0f7a4 18 = .ok (.ldc_w 266, 3) := by decide +kernel
theorem dJ6_bitCount_0f7a4_21 : decode cJ6_bitCount_0f7a4 21 = .ok (.iand, 1) := by decide +kernel
theorem dJ6_bitCount_0f7a4_22 : decode cJ6_bitCount_0f7a4 22 = .ok (.iadd, 1) := by decide +kernel
theorem dJ6_bitCount_0f7a4_23 : decode cJ6_bitCount_0f7a4 23 = .ok (.istore_n 0, 1) := by decide +kernel
theorem dJ6_bitCount_0f7a4_24 : decode cJ6_bitCount_0f7a4 24 = .ok (.iload_n 0, 1) := by decide +kernel
theorem dJ6_bitCount_0f7a4_25 : decode cJ6_bitCount_0f7a4 25 = .ok (.iload_n 0, 1) := by decide +kernel
theorem dJ6_bitCount_0f7a4_26 : decode cJ6_bitCount_0f7a4 26 = .ok (.iconst 4, 1) := by decide +kernel
theorem dJ6_bitCount_0f7a4_27 : decode cJ6_bitCount_0f7a4 27 = .ok (.iushr, 1) := by decide +kernel
theorem dJ6_bitCount_0f7a4_28 : decode cJ6_bitCount_0f7a4 28 = .ok (.iadd, 1) := by decide +kernel
theorem dJ6_bitCount_0f7a4_29 : decode cJ6_bitCount_0f7a4 29 = .ok (.ldc_w 267, 3) := by decide +kernel
theorem dJ6_bitCount_0f7a4_32 : decode cJ6_bitCount_0f7a4 32 = .ok (.iand, 1) := by decide +kernel
theorem dJ6_bitCount_0f7a4_33 : decode cJ6_bitCount_0f7a4 33 = .ok (.istore_n 0, 1) := by decide +kernel
theorem dJ6_bitCount_0f7a4_34 : decode cJ6_bitCount_0f7a4 34 = .ok (.iload_n 0, 1) := by decide +kernel
theorem dJ6_bitCount_0f7a4_35 : decode cJ6_bitCount_0f7a4 35 = .ok (.iload_n 0, 1) := by decide +kernel
theorem dJ6_bitCount_0f7a4_36 : decode cJ6_bitCount_0f7a4 36 = .ok (.bipush 8, 2) := by decide +kernel
theorem dJ6_bitCount_0f7a4_38 : decode cJ6_bitCount_0f7a4 38 = .ok (.iushr, 1) := by decide +kernel
theorem dJ6_bitCount_0f7a4_39 : decode cJ6_bitCount_0f7a4 39 = .ok (.iadd, 1) := by decide +kernel
theorem dJ6_bitCount_0f7a4_40 : decode cJ6_bitCount_0f7a4 40 = .ok (.istore_n 0, 1) := by decide +kernel
theorem dJ6_bitCount_0f7a4_41 : decode cJ6_bitCount_0f7a4 41 = .ok (.iload_n 0, 1) := by decide +kernel
theorem dJ6_bitCount_0f7a4_42 : decode cJ6_bitCount_0f7a4 42 = .ok (.iload_n 0, 1) := by decide +kernel
theorem dJ6_bitCount_0f7a4_43 : decode cJ6_bitCount_0f7a4 43 = .ok (.bipush 16, 2) := by decide +kernel
theorem dJ6_bitCount_0f7a4_45 : decode cJ6_bitCount_0f7a4 45 = .ok (.iushr, 1) := by decide +kernel
theorem dJ6_bitCount_0f7a4_46 : decode cJ6_bitCount_0f7a4 46 = .ok (.iadd, 1) := by decide +kernel
theorem dJ6_bitCount_0f7a4_47 : decode cJ6_bitCount_0f7a4 47 = .ok (.istore_n 0, 1) := by decide +kernel
theorem dJ6_bitCount_0f7a4_48 : decode cJ6_bitCount_0f7a4 48 = .ok (.iload_n 0, 1) := by decide +kernel
theorem dJ6_bitCount_0f7a4_49 : decode cJ6_bitCount_0f7a4 49 = .ok (.bipush 63, 2) := by decide +kernel
theorem dJ6_bitCount_0f7a4_51 : decode cJ6_bitCount_0f7a4 51 = .ok (.iand, 1) := by decide +kernel
theorem dJ6_bitCount_0f7a4_52 : decode cJ6_bitCount_0f7a4 52 = .ok (.ireturn, 1) := by decide +kernel
theorem dJ9_floorMod_7cf53_0 : decode cJ9_floorMod_7cf53 0 = .ok (.iload_n 0, 1) := by decide +kernel
theorem dJ9_floorMod_7cf53_1 : decode cJ9_floorMod_7cf53 1 = .ok (.iload_n 1, 1) := by decide +kernel
theorem dJ9_floorMod_7cf53_2 : decode cJ9_floorMod_7cf53 2 = .ok (.irem, 1) := by decide +kernel
theorem dJ9_floorMod_7cf53_3 : decode cJ9_floorMod_7cf53 3 = .ok (.istore_n 2, 1) := by decide +kernel
theorem dJ9_floorMod_7cf53_4 : decode cJ9_floorMod_7cf53 4 = .ok (.iload_n 0, 1) := by decide +kernel
theorem dJ9_floorMod_7cf53_5 : decode cJ9_floorMod_7cf53 5 = .ok (.iload_n 1, 1) := by decide +kernel
theorem dJ9_floorMod_7cf53_6 : decode cJ9_floorMod_7cf53 6 = .ok (.ixor, 1) := by decide +kernel
theorem dJ9_floorMod_7cf53_7 : decode cJ9_floorMod_7cf53 7 = .ok (.ifCond .ge 11, 3) := by decide +kernel
theorem dJ9_floorMod_7cf53_10 : decode cJ9_floorMod_7cf53 10 = .ok (.iload_n 2, 1) := by decide +kernel
theorem dJ9_floorMod_7cf53_11 : decode cJ9_floorMod_7cf53 11 = .ok (.ifCond .eq 7, 3) := by decide +kernel
theorem dJ9_floorMod_7cf53_14 : decode cJ9_floorMod_7cf53 14 = .ok (.iload_n 2, 1) := by decide +kernel
theorem dJ9_floorMod_7cf53_15 : decode cJ9_floorMod_7cf53 15 = .ok (.iload_n 1, 1) := by decide +kernel
theorem dJ9_floorMod_7cf53_16 : decode cJ9_floorMod_7cf53 16 = .ok (.iadd, 1) := by decide +kernel
theorem dJ9_floorMod_7cf53_17 : decode cJ9_floorMod_7cf53 17 = .ok (.ireturn, 1) := by decide +kernel
theorem dJ9_floorMod_7cf53_18 : decode cJ9_floorMod_7cf53 18 = .ok (.iload_n 2, 1) := by decide +kernel
theorem dJ9_floorMod_7cf53_19 : decode cJ9_floorMod_7cf53 19 = .ok (.ireturn, 1) := by decide +kernel
theorem dJ9_max_7cf53_0 : decode cJ9_max_7cf53 0 = .ok (.iload_n 0, 1) := by decide +kernel
theorem dJ9_max_7cf53_1 : decode cJ9_max_7cf53 1 = .ok (.iload_n 1, 1) := by decide +kernel
theorem dJ9_max_7cf53_2 : decode cJ9_max_7cf53 2 = .ok (.if_icmp .lt 7, 3) := by decide +kernel
theorem dJ9_max_7cf53_5 : decode cJ9_max_7cf53 5 = .ok (.iload_n 0, 1) := by decide +kernel
theorem dJ9_max_7cf53_6 : decode cJ9_max_7cf53 6 = .ok (.goto 4, 3) := by decide +kernel
theorem dJ9_max_7cf53_9 : decode cJ9_max_7cf53 9 = .ok (.iload_n 1, 1) := by decide +kernel
theorem dJ9_max_7cf53_10 : decode cJ9_max_7cf53 10 = .ok (.ireturn, 1) := by decide +kernel
theorem dJ9_min_7cf53_0 : decode cJ9_min_7cf53 0 = .ok (.iload_n 0, 1) := by decide +kernel
theorem dJ9_min_7cf53_1 : decode cJ9_min_7cf53 1 = .ok (.iload_n 1, 1) := by decide +kernel
theorem dJ9_min_7cf53_2 : decode cJ9_min_7cf53 2 = .ok (.if_icmp .gt 7, 3) := by decide +kernel
theorem dJ9_min_7cf53_5 : decode cJ9_min_7cf53 5 = .ok (.iload_n 0, 1) := by decide +kernel
theorem dJ9_min_7cf53_6 : decode cJ9_min_7cf53 6 = .ok (.goto 4, 3) := by decide +kernel
theorem dJ9_min_7cf53_9 : decode cJ9_min_7cf53 9 = .ok (.iload_n 1, 1) := by decide +kernel
theorem dJ9_min_7cf53_10 : decode cJ9_min_7cf53 10 = .ok (.ireturn, 1) := by decide +kernel
theorem dJ0_length_8abf5_0 : decode cJ0_length_8abf5 0 = .ok (.aload_n 0, 1) := by decide +kernel
theorem dJ0_length_8abf5_1 : decode cJ0_length_8abf5 1 = .ok (.getfield 9, 3) := by decide +kernel
theorem dJ0_length_8abf5_4 : decode cJ0_length_8abf5 4 = .ok (.arraylength, 1) := by decide +kernel
theorem dJ0_length_8abf5_5 : decode cJ0_length_8abf5 5 = .ok (.aload_n 0, 1) := by decide +kernel
theorem dJ0_length_8abf5_6 : decode cJ0_length_8abf5 6 = .ok (.invokevirtual 335, 3) := by decide +kernel
theorem dJ0_length_8abf5_9 : decode cJ0_length_8abf5 9 = .ok (.ishr, 1) := by decide +kernel
theorem dJ0_length_8abf5_10 : decode cJ0_length_8abf5 10 = .ok (.ireturn, 1) := by decide +kernel
theorem dJ0_charAt_5068e_0 : decode cJ0_charAt_5068e 0 = .ok (.aload_n 0, 1) := by decide +kernel
theorem dJ0_charAt_5068e_1 : decode cJ0_charAt_5068e 1 = .ok (.invokevirtual 492, 3) := by decide +kernel
theorem dJ0_charAt_5068e_4 : decode cJ0_charAt_5068e 4 = .ok (.ifCond .eq 12, 3) := by decide +kernel
theorem dJ0_charAt_5068e_7 : decode cJ0_charAt_5068e 7 = .ok (.aload_n 0, 1) := by decide +kernel
theorem dJ0_charAt_5068e_8 : decode cJ0_charAt_5068e 8 = .ok (.getfield 9, 3) := by decide +kernel
theorem dJ0_charAt_5068e_11 : decode cJ0_charAt_5068e 11 = .ok (.iload_n 1, 1) := by decide +kernel
theorem dJ0_charAt_5068e_12 : decode cJ0_charAt_5068e 12 = .ok (.invokestatic 495, 3) := by decide +kernel
theorem dJ0_charAt_5068e_15 : decode cJ0_charAt_5068e 15 = .ok (.ireturn, 1) := by decide +kernel
theorem dJ0_charAt_5068e_16 : decode cJ0_charAt_5068e 16 = .ok (.aload_n 0, 1) := by decide +kernel
theorem dJ0_charAt_5068e_17 : decode cJ0_charAt_5068e 17 = .ok (.getfield 9, 3) := by decide +kernel
theorem dJ0_charAt_5068e_20 : decode cJ0_charAt_5068e 20 = .ok (.iload_n 1, 1) := by decide +kernel
theorem dJ0_charAt_5068e_21 : decode cJ0_charAt_5068e 21 = .ok (.invokestatic 498, 3) := by decide +kernel
theorem dJ0_charAt_5068e_24 : decode cJ0_charAt_5068e 24 = .ok (.ireturn, 1) := by decide +kernel
theorem dJ0_coder_7d493_0 : decode cJ0_coder_7d493 0 = .ok (.getstatic 38, 3) := by decide +kernel
theorem dJ0_coder_7d493_3 : decode cJ0_coder_7d493 3 = .ok (.ifCond .eq 10, 3) := by decide +kernel
theorem dJ0_coder_7d493_6 : decode cJ0_coder_7d493 6 = .ok (.aload_n 0, 1) := by decide +kernel
theorem dJ0_coder_7d493_7 : decode cJ0_coder_7d493 7 = .ok (.getfield 15, 3) := by decide +kernel
theorem dJ0_coder_7d493_10 : decode cJ0_coder_7d493 10 = .ok (.goto 4, 3) := by decide +kernel
theorem dJ0_coder_7d493_13 : decode cJ0_coder_7d493 13 = .ok (.iconst 1, 1) := by decide +kernel
theorem dJ0_coder_7d493_14 : decode cJ0_coder_7d493 14 = .ok (.ireturn, 1) := by decide +kernel
theorem dJ0_isLatin1_aae02_0 : decode cJ0_isLatin1_aae02 0 = .ok (.getstatic 38, 3) := by decide +kernel
theorem dJ0_isLatin1_aae02_3 : decode cJ0_isLatin1_aae02 3 = .ok (.ifCond .eq 14, 3) := by decide +kernel
theorem dJ0_isLatin1_aae02_6 : decode cJ0_isLatin1_aae02 6 = .ok (.aload_n 0, 1) := by decide +kernel
theorem dJ0_isLatin1_aae02_7 : decode cJ0_isLatin1_aae02 7 = .ok (.getfield 15, 3) := by decide +kernel
theorem dJ0_isLatin1_aae02_10 : decode cJ0_isLatin1_aae02 10 = .ok (.ifCond .ne 7, 3) := by decide +kernel
theorem dJ0_isLatin1_aae02_13 : decode cJ0_isLatin1_aae02 13 = .ok (.iconst 1, 1) := by decide +kernel
theorem dJ0_isLatin1_aae02_14 : decode cJ0_isLatin1_aae02 14 = .ok (.goto 4, 3) := by decide +kernel
theorem dJ0_isLatin1_aae02_17 : decode cJ0_isLatin1_aae02 17 = .ok (.iconst 0, 1) := by decide +kernel
theorem dJ0_isLatin1_aae02_18 : decode cJ0_isLatin1_aae02 18 = .ok (.ireturn, 1) := by decide +kernel
theorem dJ0_checkIndex_df160_0 : decode cJ0_checkIndex_df160 0 = .ok (.iload_n 0, 1) := by decide +kernel
theorem dJ0_checkIndex_df160_1 : decode cJ0_checkIndex_df160 1 = .ok (.iload_n 1, 1) := by decide +kernel
theorem dJ0_checkIndex_df160_2 : decode cJ0_checkIndex_df160 2 = .ok (.getstatic 1053, 3) := by decide +kernel
theorem dJ0_checkIndex_df160_5 : decode cJ0_checkIndex_df160 5 = .ok (.invokestatic 1059, 3) := by decide +kernel
theorem dJ0_checkIndex_df160_8 : decode cJ0_checkIndex_df160 8 = .ok (.pop, 1) := by decide +kernel
theorem dJ0_checkIndex_df160_9 : decode cJ0_checkIndex_df160 9 = .ok (.return_, 1) := by decide +kernel
theorem dJ1_charAt_3b067_0 : decode cJ1_charAt_3b067 0 = .ok (.iload_n 1, 1) := by decide +kernel
theorem dJ1_charAt_3b067_1 : decode cJ1_charAt_3b067 1 = .ok (.aload_n 0, 1) := by decide +kernel
theorem dJ1_charAt_3b067_2 : decode cJ1_charAt_3b067 2 = .ok (.arraylength, 1) := by decide +kernel
theorem dJ1_charAt_3b067_3 : decode cJ1_charAt_3b067 3 = .ok (.invokestatic 9, 3) := by decide +kernel
theorem dJ1_charAt_3b067_6 : decode cJ1_charAt_3b067 6 = .ok (.aload_n 0, 1) := by decide +kernel
theorem dJ1_charAt_3b067_7 : decode cJ1_charAt_3b067 7 = .ok (.iload_n 1, 1) := by decide +kernel
theorem dJ1_charAt_3b067_8 : decode cJ1_charAt_3b067 8 = .ok (.baload, 1) := by decide +kernel
theorem dJ1_charAt_3b067_9 : decode cJ1_charAt_3b067 9 = .ok (.sipush 255, 3) := by decide +kernel
theorem dJ1_charAt_3b067_12 : decode cJ1_charAt_3b067 12 = .ok (.iand, 1) := by decide +kernel
theorem dJ1_charAt_3b067_13 : decode cJ1_charAt_3b067 13 = .ok (.i2c, 1) := by decide +kernel
theorem dJ1_charAt_3b067_14 : decode cJ1_charAt_3b067 14 = .ok (.ireturn, 1) := by decide +kernel
theorem dJ2_getChar_3b067_0 : decode cJ2_getChar_3b067 0 = .ok (.getstatic 44, 3) := by decide +kernel
theorem dJ2_getChar_3b067_3 : decode cJ2_getChar_3b067 3 = .ok (.ifCond .ne 25, 3) := by decide +kernel
theorem dJ2_getChar_3b067_6 : decode cJ2_getChar_3b067 6 = .ok (.iload_n 1, 1) := by decide +kernel
theorem dJ2_getChar_3b067_7 : decode cJ2_getChar_3b067 7 = .ok (.ifCond .lt 11, 3) := by decide +kernel
theorem dJ2_getChar_3b067_10 : decode cJ2_getChar_3b067 10 = .ok (.iload_n 1, 1) := by decide +kernel
theorem dJ2_getChar_3b067_11 : decode cJ2_getChar_3b067 11 = .ok (.aload_n 0, 1) := by decide +kernel
theorem dJ2_getChar_3b067_12 : decode cJ2_getChar_3b067 12 = .ok (.invokestatic 48, 3) := by decide +kernel
theorem dJ2_getChar_3b067_15 : decode cJ2_getChar_3b067 15 = .ok (.if_icmp .lt 13, 3) := by decide +kernel
theorem dJ2_getChar_3b067_18 : decode cJ2_getChar_3b067 18 = .ok (.new 52, 3) := by decide +kernel
theorem dJ2_getChar_3b067_21 : decode cJ2_getChar_3b067 21 = .ok (.dup, 1) := by decide +kernel
theorem dJ2_getChar_3b067_22 : decode cJ2_getChar_3b067 22 = .ok (.ldc 54, 2) := by decide +kernel
theorem dJ2_getChar_3b067_24 : decode cJ2_getChar_3b067 24 = .ok (.invokespecial 56, 3) := by decide +kernel
theorem dJ2_getChar_3b067_27 : decode cJ2_getChar_3b067 27 = .ok (.athrow, 1) := by decide +kernel
theorem dJ2_getChar_3b067_28 : decode cJ2_getChar_3b067 28 = .ok (.iload_n 1, 1) := by decide +kernel
theorem dJ2_getChar_3b067_29 : decode cJ2_getChar_3b067 29 = .ok (.iconst 1, 1) := by decide +kernel
theorem dJ2_getChar_3b067_30 : decode cJ2_getChar_3b067 30 = .ok (.ishl, 1) := by decide +kernel
theorem dJ2_getChar_3b067_31 : decode cJ2_getChar_3b067 31 = .ok (.istore_n 1, 1) := by decide +kernel
theorem dJ2_getChar_3b067_32 : decode cJ2_getChar_3b067 32 = .ok (.aload_n 0, 1) := by decide +kernel
theorem dJ2_getChar_3b067_33 : decode cJ2_getChar_3b067 33 = .ok (.iload_n 1, 1) := by decide +kernel
theorem dJ2_getChar_3b067_34 : decode cJ2_getChar_3b067 34 = .ok (.iinc 1 1, 3) := by decide +kernel
theorem dJ2_getChar_3b067_37 : decode cJ2_getChar_3b067 37 = .ok (.baload, 1) := by decide +kernel
theorem dJ2_getChar_3b067_38 : decode cJ2_getChar_3b067 38 = .ok (.sipush 255, 3) := by decide +kernel
theorem dJ2_getChar_3b067_41 : decode cJ2_getChar_3b067 41 = .ok (.iand, 1) := by decide +kernel
theorem dJ2_getChar_3b067_42 : decode cJ2_getChar_3b067 42 = .ok (.getstatic 59, 3) := by decide +kernel
theorem dJ2_getChar_3b067_45 : decode cJ2_getChar_3b067 45 = .ok (.ishl, 1) := by decide +kernel
theorem dJ2_getChar_3b067_46 : decode cJ2_getChar_3b067 46 = .ok (.aload_n 0, 1) := by decide +kernel
theorem dJ2_getChar_3b067_47 : decode cJ2_getChar_3b067 47 = .ok (.iload_n 1, 1) := by decide +kernel
theorem dJ2_getChar_3b067_48 : decode cJ2_getChar_3b067 48 = .ok (.baload, 1) := by decide +kernel
theorem dJ2_getChar_3b067_49 : decode cJ2_getChar_3b067 49 = .ok (.sipush 255, 3) := by decide +kernel
theorem dJ2_getChar_3b067_52 : decode cJ2_getChar_3b067 52 = .ok (.iand, 1) := by decide +kernel
theorem dJ2_getChar_3b067_53 : decode cJ2_getChar_3b067 53 = .ok (.getstatic 63, 3) := by decide +kernel
theorem dJ2_getChar_3b067_56 : decode cJ2_getChar_3b067 56 = .ok (.ishl, 1) := by decide +kernel
theorem dJ2_getChar_3b067_57 : decode cJ2_getChar_3b067 57 = .ok (.ior, 1) := by decide +kernel
theorem dJ2_getChar_3b067_58 : decode cJ2_getChar_3b067 58 = .ok (.i2c, 1) := by decide +kernel
theorem dJ2_getChar_3b067_59 : decode cJ2_getChar_3b067 59 = .ok (.ireturn, 1) := by decide +kernel
theorem dJ2_length_9d52b_0 : decode cJ2_length_9d52b 0 = .ok (.aload_n 0, 1) := by decide +kernel
theorem dJ2_length_9d52b_1 : decode cJ2_length_9d52b 1 = .ok (.arraylength, 1) := by decide +kernel
theorem dJ2_length_9d52b_2 : decode cJ2_length_9d52b 2 = .ok (.iconst 1, 1) := by decide +kernel
theorem dJ2_length_9d52b_3 : decode cJ2_length_9d52b 3 = .ok (.ishr, 1) := by decide +kernel
theorem dJ2_length_9d52b_4 : decode cJ2_length_9d52b 4 = .ok (.ireturn, 1) := by decide +kernel
theorem dJ2_charAt_3b067_0 : decode cJ2_charAt_3b067 0 = .ok (.iload_n 1, 1) := by decide +kernel
theorem dJ2_charAt_3b067_1 : decode cJ2_charAt_3b067 1 = .ok (.aload_n 0, 1) := by decide +kernel
theorem dJ2_charAt_3b067_2 : decode cJ2_charAt_3b067 2 = .ok (.invokestatic 67, 3) := by decide +kernel
theorem dJ2_charAt_3b067_5 : decode cJ2_charAt_3b067 5 = .ok (.aload_n 0, 1) := by decide +kernel
theorem dJ2_charAt_3b067_6 : decode cJ2_charAt_3b067 6 = .ok (.iload_n 1, 1) := by decide +kernel
theorem dJ2_charAt_3b067_7 : decode cJ2_charAt_3b067 7 = .ok (.invokestatic 71, 3) := by decide +kernel
theorem dJ2_charAt_3b067_10 : decode cJ2_charAt_3b067 10 = .ok (.ireturn, 1) := by decide +kernel
theorem dJ2_checkIndex_2214a_0 : decode cJ2_checkIndex_2214a 0 = .ok (.iload_n 0, 1) := by decide +kernel
theorem dJ2_checkIndex_2214a_1 : decode cJ2_checkIndex_2214a 1 = .ok (.aload_n 1, 1) := by decide +kernel
theorem dJ2_checkIndex_2214a_2 : decode cJ2_checkIndex_2214a 2 = .ok (.invokestatic 48, 3) := by decide +kernel
theorem dJ2_checkIndex_2214a_5 : decode cJ2_checkIndex_2214a 5 = .ok (.invokestatic 414, 3) := by decide +kernel
theorem dJ2_checkIndex_2214a_8 : decode cJ2_checkIndex_2214a 8 = .ok (.return_, 1) := by decide +kernel
theorem dJ3_checkIndex_8e157_0 : decode cJ3_checkIndex_8e157 0 = .ok (.iload_n 0, 1) := by decide +kernel
theorem dJ3_checkIndex_8e157_1 : decode cJ3_checkIndex_8e157 1 = .ok (.ifCond .lt 8, 3) := by decide +kernel
theorem dJ3_checkIndex_8e157_4 : decode cJ3_checkIndex_8e157 4 = .ok (.iload_n 0, 1) := by decide +kernel
theorem dJ3_checkIndex_8e157_5 : decode cJ3_checkIndex_8e157 5 = .ok (.iload_n 1, 1) := by decide +kernel
theorem dJ3_checkIndex_8e157_6 : decode cJ3_checkIndex_8e157 6 = .ok (.if_icmp .lt 10, 3) := by decide +kernel
theorem dJ3_checkIndex_8e157_9 : decode cJ3_checkIndex_8e157 9 = .ok (.aload_n 2, 1) := by decide +kernel
theorem dJ3_checkIndex_8e157_10 : decode cJ3_checkIndex_8e157 10 = .ok (.iload_n 0, 1) := by decide +kernel
theorem dJ3_checkIndex_8e157_11 : decode cJ3_checkIndex_8e157 11 = .ok (.iload_n 1, 1) := by decide +kernel
theorem dJ3_checkIndex_8e157_12 : decode cJ3_checkIndex_8e157 12 = .ok (.invokestatic 95, 3) := by decide +kernel
theorem dJ3_checkIndex_8e157_15 : decode cJ3_checkIndex_8e157 15 = .ok (.athrow, 1) := by decide +kernel
theorem dJ3_checkIndex_8e157_16 : decode cJ3_checkIndex_8e157 16 = .ok (.iload_n 0, 1) := by decide +kernel
theorem dJ3_checkIndex_8e157_17 : decode cJ3_checkIndex_8e157 17 = .ok (.ireturn, 1) := by decide +kernel
