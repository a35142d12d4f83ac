theorem dX5_loadColumn_38 : decode cX5_loadColumn 38 = .ok (.iload_n 2, 1) := by decide +kernel
theorem dX5_loadColumn_39 : decode cX5_loadColumn 39 = .ok (.aload_n 0, 1) := by decide +kernel
theorem dX5_loadColumn_40 : decode cX5_loadColumn 40 = .ok (.iload_n 2, 1) := by decide +kernel
theorem dX5_loadColumn_41 : decode cX5_loadColumn 41 = .ok (.iload_n 1, 1) := by decide +kernel
theorem dX5_loadColumn_42 : decode cX5_loadColumn 42 = .ok (.invokevirtual 116, 3) := by decide +kernel
theorem dX5_loadColumn_45 : decode cX5_loadColumn 45 = .ok (.invokevirtual 131, 3) := by decide +kernel
theorem dX5_loadColumn_48 : decode cX5_loadColumn 48 = .ok (.iastore, 1) := by decide +kernel
theorem dX5_loadColumn_49 : decode cX5_loadColumn 49 = .ok (.iinc 2 1, 3) := by decide +kernel
theorem dX5_loadColumn_52 : decode cX5_loadColumn 52 = .ok (.goto (-50), 3) := by decide +kernel
theorem dX5_loadColumn_55 : decode cX5_loadColumn 55 = .ok (.return_, 1) := by decide +kernel
theorem dX5_countPitches_0 : decode cX5_countPitches 0 = .ok (.iconst 0, 1) := by decide +kernel
theorem dX5_countPitches_1 : decode cX5_countPitches 1 = .ok (.istore_n 1, 1) := by decide +kernel
theorem dX5_countPitches_2 : decode cX5_countPitches 2 = .ok (.iconst 0, 1) := by decide +kernel
theorem dX5_countPitches_3 : decode cX5_countPitches 3 = .ok (.istore_n 2, 1) := by decide +kernel
theorem dX5_countPitches_4 : decode cX5_countPitches 4 = .ok (.iload_n 2, 1) := by decide +kernel
theorem dX5_countPitches_5 : decode cX5_countPitches 5 = .ok (.aload_n 0, 1) := by decide +kernel
theorem dX5_countPitches_6 : decode cX5_countPitches 6 = .ok (.getfield 22, 3) := by decide +kernel
theorem dX5_countPitches_9 : decode cX5_countPitches 9 = .ok (.getfield 69, 3) := by decide +kernel
theorem dX5_countPitches_12 : decode cX5_countPitches 12 = .ok (.if_icmp .ge 22, 3) := by decide +kernel
theorem dX5_countPitches_15 : decode cX5_countPitches 15 = .ok (.aload_n 0, 1) := by decide +kernel
theorem dX5_countPitches_16 : decode cX5_countPitches 16 = .ok (.getfield 15, 3) := by decide +kernel
theorem dX5_countPitches_19 : decode cX5_countPitches 19 = .ok (.iload_n 2, 1) := by decide +kernel
theorem dX5_countPitches_20 : decode cX5_countPitches 20 = .ok (.iaload, 1) := by decide +kernel
theorem dX5_countPitches_21 : decode cX5_countPitches 21 = .ok (.iconst (-1), 1) := by decide +kernel
theorem dX5_countPitches_22 : decode cX5_countPitches 22 = .ok (.if_icmp .eq 6, 3) := by decide +kernel
theorem dX5_countPitches_25 : decode cX5_countPitches 25 = .ok (.iinc 1 1, 3) := by decide +kernel
theorem dX5_countPitches_28 : decode cX5_countPitches 28 = .ok (.iinc 2 1, 3) := by decide +kernel
theorem dX5_countPitches_31 : decode cX5_countPitches 31 = .ok (.goto (-27), 3) := by decide +kernel
theorem dX5_countPitches_34 : decode cX5_countPitches 34 = .ok (.iload_n 1, 1) := by decide +kernel
theorem dX5_countPitches_35 : decode cX5_countPitches 35 = .ok (.ireturn, 1) := by decide +kernel
theorem dX5_hasPitchTwice_0 : decode cX5_hasPitchTwice 0 = .ok (.iconst 1, 1) := by decide +kernel
theorem dX5_hasPitchTwice_1 : decode cX5_hasPitchTwice 1 = .ok (.istore_n 1, 1) := by decide +kernel
theorem dX5_hasPitchTwice_2 : decode cX5_hasPitchTwice 2 = .ok (.iload_n 1, 1) := by decide +kernel
theorem dX5_hasPitchTwice_3 : decode cX5_hasPitchTwice 3 = .ok (.aload_n 0, 1) := by decide +kernel
theorem dX5_hasPitchTwice_4 : decode cX5_hasPitchTwice 4 = .ok (.getfield 22, 3) := by decide +kernel
theorem dX5_hasPitchTwice_7 : decode cX5_hasPitchTwice 7 = .ok (.getfield 69, 3) := by decide +kernel
theorem dX5_hasPitchTwice_10 : decode cX5_hasPitchTwice 10 = .ok (.if_icmp .ge 49, 3) := by decide +kernel
theorem dX5_hasPitchTwice_13 : decode cX5_hasPitchTwice 13 = .ok (.iconst 0, 1) := by decide +kernel
theorem dX5_hasPitchTwice_14 : decode cX5_hasPitchTwice 14 = .ok (.istore_n 2, 1) := by decide +kernel
theorem dX5_hasPitchTwice_15 : decode cX5_hasPitchTwice 15 = .ok (.iload_n 2, 1) := by decide +kernel
theorem dX5_hasPitchTwice_16 : decode cX5_hasPitchTwice 16 = .ok (.iload_n 1, 1) := by decide +kernel
theorem dX5_hasPitchTwice_17 : decode cX5_hasPitchTwice 17 = .ok (.if_icmp .ge 36, 3) := by decide +kernel
theorem dX5_hasPitchTwice_20 : decode cX5_hasPitchTwice 20 = .ok (.aload_n 0, 1) := by decide +kernel
theorem dX5_hasPitchTwice_21 : decode cX5_hasPitchTwice 21 = .ok (.getfield 15, 3) := by decide +kernel
theorem dX5_hasPitchTwice_24 : decode cX5_hasPitchTwice 24 = .ok (.iload_n 1, 1) := by decide +kernel
theorem dX5_hasPitchTwice_25 : decode cX5_hasPitchTwice 25 = .ok (.iaload, 1) := by decide +kernel
theorem dX5_hasPitchTwice_26 : decode cX5_hasPitchTwice 26 = .ok (.iconst (-1), 1) := by decide +kernel
theorem dX5_hasPitchTwice_27 : decode cX5_hasPitchTwice 27 = .ok (.if_icmp .eq 20, 3) := by decide +kernel
theorem dX5_hasPitchTwice_30 : decode cX5_hasPitchTwice 30 = .ok (.aload_n 0, 1) := by decide +kernel
theorem dX5_hasPitchTwice_31 : decode cX5_hasPitchTwice 31 = .ok (.getfield 15, 3) := by decide +kernel
theorem dX5_hasPitchTwice_34 : decode cX5_hasPitchTwice 34 = .ok (.iload_n 1, 1) := by decide +kernel
theorem dX5_hasPitchTwice_35 : decode cX5_hasPitchTwice 35 = .ok (.iaload, 1) := by decide +kernel
theorem dX5_hasPitchTwice_36 : decode cX5_hasPitchTwice 36 = .ok (.aload_n 0, 1) := by decide +kernel
theorem dX5_hasPitchTwice_37 : decode cX5_hasPitchTwice 37 = .ok (.getfield 15, 3) := by decide +kernel
theorem dX5_hasPitchTwice_40 : decode cX5_hasPitchTwice 40 = .ok (.iload_n 2, 1) := by decide +kernel
theorem dX5_hasPitchTwice_41 : decode cX5_hasPitchTwice 41 = .ok (.iaload, 1) := by decide +kernel
theorem dX5_hasPitchTwice_42 : decode cX5_hasPitchTwice 42 = .ok (.if_icmp .ne 5, 3) := by decide +kernel
theorem dX5_hasPitchTwice_45 : decode cX5_hasPitchTwice 45 = .ok (.iconst 1, 1) := by decide +kernel
theorem dX5_hasPitchTwice_46 : decode cX5_hasPitchTwice 46 = .ok (.ireturn, 1) := by decide +kernel
theorem dX5_hasPitchTwice_47 : decode cX5_hasPitchTwice 47 = .ok (.iinc 2 1, 3) := by decide +kernel
theorem dX5_hasPitchTwice_50 : decode cX5_hasPitchTwice 50 = .ok (.goto (-35), 3) := by decide +kernel
theorem dX5_hasPitchTwice_53 : decode cX5_hasPitchTwice 53 = .ok (.iinc 1 1, 3) := by decide +kernel
theorem dX5_hasPitchTwice_56 : decode cX5_hasPitchTwice 56 = .ok (.goto (-54), 3) := by decide +kernel
theorem dX5_hasPitchTwice_59 : decode cX5_hasPitchTwice 59 = .ok (.iconst 0, 1) := by decide +kernel
theorem dX5_hasPitchTwice_60 : decode cX5_hasPitchTwice 60 = .ok (.ireturn, 1) := by decide +kernel
theorem dX5_lowestString_0 : decode cX5_lowestString 0 = .ok (.iconst 0, 1) := by decide +kernel
theorem dX5_lowestString_1 : decode cX5_lowestString 1 = .ok (.istore_n 1, 1) := by decide +kernel
theorem dX5_lowestString_2 : decode cX5_lowestString 2 = .ok (.iload_n 1, 1) := by decide +kernel
theorem dX5_lowestString_3 : decode cX5_lowestString 3 = .ok (.aload_n 0, 1) := by decide +kernel
theorem dX5_lowestString_4 : decode cX5_lowestString 4 = .ok (.getfield 22, 3) := by decide +kernel
theorem dX5_lowestString_7 : decode cX5_lowestString 7 = .ok (.getfield 69, 3) := by decide +kernel
theorem dX5_lowestString_10 : decode cX5_lowestString 10 = .ok (.if_icmp .ge 21, 3) := by decide +kernel
theorem dX5_lowestString_13 : decode cX5_lowestString 13 = .ok (.aload_n 0, 1) := by decide +kernel
theorem dX5_lowestString_14 : decode cX5_lowestString 14 = .ok (.getfield 15, 3) := by decide +kernel
theorem dX5_lowestString_17 : decode cX5_lowestString 17 = .ok (.iload_n 1, 1) := by decide +kernel
theorem dX5_lowestString_18 : decode cX5_lowestString 18 = .ok (.iaload, 1) := by decide +kernel
theorem dX5_lowestString_19 : decode cX5_lowestString 19 = .ok (.iconst (-1), 1) := by decide +kernel
theorem dX5_lowestString_20 : decode cX5_lowestString 20 = .ok (.if_icmp .eq 5, 3) := by decide +kernel
theorem dX5_lowestString_23 : decode cX5_lowestString 23 = .ok (.iload_n 1, 1) := by decide +kernel
theorem dX5_lowestString_24 : decode cX5_lowestString 24 = .ok (.ireturn, 1) := by decide +kernel
theorem dX5_lowestString_25 : decode cX5_lowestString 25 = .ok (.iinc 1 1, 3) := by decide +kernel
theorem dX5_lowestString_28 : decode cX5_lowestString 28 = .ok (.goto (-26), 3) := by decide +kernel
theorem dX5_lowestString_31 : decode cX5_lowestString 31 = .ok (.iconst (-1), 1) := by decide +kernel
theorem dX5_lowestString_32 : decode cX5_lowestString 32 = .ok (.ireturn, 1) := by decide +kernel
theorem dX5_numberIn_0 : decode cX5_numberIn 0 = .ok (.aload_n 0, 1) := by decide +kernel
theorem dX5_numberIn_1 : decode cX5_numberIn 1 = .ok (.iload_n 1, 1) := by decide +kernel
theorem dX5_numberIn_2 : decode cX5_numberIn 2 = .ok (.iload_n 2, 1) := by decide +kernel
theorem dX5_numberIn_3 : decode cX5_numberIn 3 = .ok (.invokevirtual 81, 3) := by decide +kernel
theorem dX5_numberIn_6 : decode cX5_numberIn 6 = .ok (.bipush 48, 2) := by decide +kernel
theorem dX5_numberIn_8 : decode cX5_numberIn 8 = .ok (.isub, 1) := by decide +kernel
theorem dX5_numberIn_9 : decode cX5_numberIn 9 = .ok (.istore_n 3, 1) := by decide +kernel
theorem dX5_numberIn_10 : decode cX5_numberIn 10 = .ok (.aload_n 0, 1) := by decide +kernel
theorem dX5_numberIn_11 : decode cX5_numberIn 11 = .ok (.iload_n 1, 1) := by decide +kernel
theorem dX5_numberIn_12 : decode cX5_numberIn 12 = .ok (.iload_n 2, 1) := by decide +kernel
theorem dX5_numberIn_13 : decode cX5_numberIn 13 = .ok (.iconst 1, 1) := by decide +kernel
theorem dX5_numberIn_14 : decode cX5_numberIn 14 = .ok (.iadd, 1) := by decide +kernel
theorem dX5_numberIn_15 : decode cX5_numberIn 15 = .ok (.invokevirtual 81, 3) := by decide +kernel
theorem dX5_numberIn_18 : decode cX5_numberIn 18 = .ok (.istore 4, 2) := by decide +kernel
theorem dX5_numberIn_20 : decode cX5_numberIn 20 = .ok (.iload 4, 2) := by decide +kernel
theorem dX5_numberIn_22 : decode cX5_numberIn 22 = .ok (.invokestatic 110, 3) := by decide +kernel
theorem dX5_numberIn_25 : decode cX5_numberIn 25 = .ok (.ifCond .eq 16, 3) := by decide +kernel
theorem dX5_numberIn_28 : decode cX5_numberIn 28 = .ok (.iload_n 3, 1) := by decide +kernel
theorem dX5_numberIn_29 : decode cX5_numberIn 29 = .ok (.bipush 10, 2) := by decide +kernel
theorem dX5_numberIn_31 : decode cX5_numberIn 31 = .ok (.imul, 1) := by decide +kernel
theorem dX5_numberIn_32 : decode cX5_numberIn 32 = .ok (.iload 4, 2) := by decide +kernel
theorem dX5_numberIn_34 : decode cX5_numberIn 34 = .ok (.iadd, 1) := by decide +kernel
theorem dX5_numberIn_35 : decode cX5_numberIn 35 = .ok (.bipush 48, 2) := by decide +kernel
theorem dX5_numberIn_37 : decode cX5_numberIn 37 = .ok (.isub, 1) := by decide +kernel
theorem dX5_numberIn_38 : decode cX5_numberIn 38 = .ok (.goto 4, 3) := by decide +kernel
theorem dX5_numberIn_41 : decode cX5_numberIn 41 = .ok (.iload_n 3, 1) := by decide +kernel
theorem dX5_numberIn_42 : decode cX5_numberIn 42 = .ok (.ireturn, 1) := by decide +kernel
theorem dX5_beginsNumber_0 : decode cX5_beginsNumber 0 = .ok (.aload_n 0, 1) := by decide +kernel
theorem dX5_beginsNumber_1 : decode cX5_beginsNumber 1 = .ok (.iload_n 1, 1) := by decide +kernel
theorem dX5_beginsNumber_2 : decode cX5_beginsNumber 2 = .ok (.iload_n 2, 1) := by decide +kernel
theorem dX5_beginsNumber_3 : decode cX5_beginsNumber 3 = .ok (.invokevirtual 81, 3) := by decide +kernel
theorem dX5_beginsNumber_6 : decode cX5_beginsNumber 6 = .ok (.invokestatic 110, 3) := by decide +kernel
theorem dX5_beginsNumber_9 : decode cX5_beginsNumber 9 = .ok (.ifCond .eq 21, 3) := by decide +kernel
theorem dX5_beginsNumber_12 : decode cX5_beginsNumber 12 = .ok (.aload_n 0, 1) := by decide +kernel
theorem dX5_beginsNumber_13 : decode cX5_beginsNumber 13 = .ok (.iload_n 1, 1) := by decide +kernel
theorem dX5_beginsNumber_14 : decode cX5_beginsNumber 14 = .ok (.iload_n 2, 1) := by decide +kernel
theorem dX5_beginsNumber_15 : decode cX5_beginsNumber 15 = .ok (.iconst 1, 1) := by decide +kernel
theorem dX5_beginsNumber_16 : decode cX5_beginsNumber 16 = .ok (.isub, 1) := by decide +kernel
theorem dX5_beginsNumber_17 : decode cX5_beginsNumber 17 = .ok (.invokevirtual 81, 3) := by decide +kernel
theorem dX5_beginsNumber_20 : decode cX5_beginsNumber 20 = .ok (.invokestatic 110, 3) := by decide +kernel
theorem dX5_beginsNumber_23 : decode cX5_beginsNumber 23 = .ok (.ifCond .ne 7, 3) := by decide +kernel
theorem dX5_beginsNumber_26 : decode cX5_beginsNumber 26 = .ok (.iconst 1, 1) := by decide +kernel
theorem dX5_beginsNumber_27 : decode cX5_beginsNumber 27 = .ok (.goto 4, 3) := by decide +kernel
theorem dX5_beginsNumber_30 : decode cX5_beginsNumber 30 = .ok (.iconst 0, 1) := by decide +kernel
theorem dX5_beginsNumber_31 : decode cX5_beginsNumber 31 = .ok (.ireturn, 1) := by decide +kernel
theorem dX5_signIn_0 : decode cX5_signIn 0 = .ok (.aload_n 0, 1) := by decide +kernel
theorem dX5_signIn_1 : decode cX5_signIn 1 = .ok (.getfield 30, 3) := by decide +kernel
theorem dX5_signIn_4 : decode cX5_signIn 4 = .ok (.aload_n 0, 1) := by decide +kernel
theorem dX5_signIn_5 : decode cX5_signIn 5 = .ok (.iload_n 1, 1) := by decide +kernel
theorem dX5_signIn_6 : decode cX5_signIn 6 = .ok (.iload_n 2, 1) := by decide +kernel
theorem dX5_signIn_7 : decode cX5_signIn 7 = .ok (.invokevirtual 88, 3) := by decide +kernel
theorem dX5_signIn_10 : decode cX5_signIn 10 = .ok (.invokevirtual 96, 3) := by decide +kernel
theorem dX5_signIn_13 : decode cX5_signIn 13 = .ok (.ireturn, 1) := by decide +kernel
theorem dX5_placeOf_0 : decode cX5_placeOf 0 = .ok (.aload_n 0, 1) := by decide +kernel
theorem dX5_placeOf_1 : decode cX5_placeOf 1 = .ok (.getfield 22, 3) := by decide +kernel
theorem dX5_placeOf_4 : decode cX5_placeOf 4 = .ok (.getfield 69, 3) := by decide +kernel
theorem dX5_placeOf_7 : decode cX5_placeOf 7 = .ok (.iconst 1, 1) := by decide +kernel
theorem dX5_placeOf_8 : decode cX5_placeOf 8 = .ok (.isub, 1) := by decide +kernel
theorem dX5_placeOf_9 : decode cX5_placeOf 9 = .ok (.iload_n 1, 1) := by decide +kernel
theorem dX5_placeOf_10 : decode cX5_placeOf 10 = .ok (.isub, 1) := by decide +kernel
theorem dX5_placeOf_11 : decode cX5_placeOf 11 = .ok (.aload_n 0, 1) := by decide +kernel
theorem dX5_placeOf_12 : decode cX5_placeOf 12 = .ok (.getfield 9, 3) := by decide +kernel
theorem dX5_placeOf_15 : decode cX5_placeOf 15 = .ok (.imul, 1) := by decide +kernel
theorem dX5_placeOf_16 : decode cX5_placeOf 16 = .ok (.iload_n 2, 1) := by decide +kernel
theorem dX5_placeOf_17 : decode cX5_placeOf 17 = .ok (.iadd, 1) := by decide +kernel
theorem dX5_placeOf_18 : decode cX5_placeOf 18 = .ok (.ireturn, 1) := by decide +kernel
theorem dX5_isInner_0 : decode cX5_isInner 0 = .ok (.iload_n 0, 1) := by decide +kernel
theorem dX5_isInner_1 : decode cX5_isInner 1 = .ok (.bipush 45, 2) := by decide +kernel
theorem dX5_isInner_3 : decode cX5_isInner 3 = .ok (.if_icmp .eq 10, 3) := by decide +kernel
theorem dX5_isInner_6 : decode cX5_isInner 6 = .ok (.iload_n 0, 1) := by decide +kernel
theorem dX5_isInner_7 : decode cX5_isInner 7 = .ok (.invokestatic 110, 3) := by decide +kernel
theorem dX5_isInner_10 : decode cX5_isInner 10 = .ok (.ifCond .eq 7, 3) := by decide +kernel
theorem dX5_isInner_13 : decode cX5_isInner 13 = .ok (.iconst 1, 1) := by decide +kernel
theorem dX5_isInner_14 : decode cX5_isInner 14 = .ok (.goto 4, 3) := by decide +kernel
theorem dX5_isInner_17 : decode cX5_isInner 17 = .ok (.iconst 0, 1) := by decide +kernel
theorem dX5_isInner_18 : decode cX5_isInner 18 = .ok (.ireturn, 1) := by decide +kernel
theorem dX5_isDigit_0 : decode cX5_isDigit 0 = .ok (.iload_n 0, 1) := by decide +kernel
theorem dX5_isDigit_1 : decode cX5_isDigit 1 = .ok (.bipush 48, 2) := by decide +kernel
theorem dX5_isDigit_3 : decode cX5_isDigit 3 = .ok (.if_icmp .lt 13, 3) := by decide +kernel
theorem dX5_isDigit_6 : decode cX5_isDigit 6 = .ok (.iload_n 0, 1) := by decide +kernel
theorem dX5_isDigit_7 : decode cX5_isDigit 7 = .ok (.bipush 57, 2) := by decide +kernel
theorem dX5_isDigit_9 : decode cX5_isDigit 9 = .ok (.if_icmp .gt 7, 3) := by decide +kernel
theorem dX5_isDigit_12 : decode cX5_isDigit 12 = .ok (.iconst 1, 1) := by decide +kernel
theorem dX5_isDigit_13 : decode cX5_isDigit 13 = .ok (.goto 4, 3) := by decide +kernel
theorem dX5_isDigit_16 : decode cX5_isDigit 16 = .ok (.iconst 0, 1) := by decide +kernel
theorem dX5_isDigit_17 : decode cX5_isDigit 17 = .ok (.ireturn, 1) := by decide +kernel
theorem dX6_init_0 : decode cX6_init 0 = .ok (.aload_n 0, 1) := by decide +kernel
theorem dX6_init_1 : decode cX6_init 1 = .ok (.invokespecial 3, 3) := by decide +kernel
theorem dX6_init_4 : decode cX6_init 4 = .ok (.aload_n 0, 1) := by decide +kernel
theorem dX6_init_5 : decode cX6_init 5 = .ok (.bipush 40, 2) := by decide +kernel
theorem dX6_init_7 : decode cX6_init 7 = .ok (.newarray .int, 2) := by decide +kernel
theorem dX6_init_9 : decode cX6_init 9 = .ok (.putfield 9, 3) := by decide +kernel
theorem dX6_init_12 : decode cX6_init 12 = .ok (.aload_n 0, 1) := by decide +kernel
theorem dX6_init_13 : decode cX6_init 13 = .ok (.aload_n 1, 1) := by decide +kernel
theorem dX6_init_14 : decode cX6_init 14 = .ok (.putfield 15, 3) := by decide +kernel
theorem dX6_init_17 : decode cX6_init 17 = .ok (.aload_n 0, 1) := by decide +kernel
theorem dX6_init_18 : decode cX6_init 18 = .ok (.aload_n 2, 1) := by decide +kernel
theorem dX6_init_19 : decode cX6_init 19 = .ok (.putfield 19, 3) := by decide +kernel
theorem dX6_init_22 : decode cX6_init 22 = .ok (.aload_n 0, 1) := by decide +kernel
theorem dX6_init_23 : decode cX6_init 23 = .ok (.aload_n 3, 1) := by decide +kernel
theorem dX6_init_24 : decode cX6_init 24 = .ok (.putfield 23, 3) := by decide +kernel
theorem dX6_init_27 : decode cX6_init 27 = .ok (.aload_n 0, 1) := by decide +kernel
theorem dX6_init_28 : decode cX6_init 28 = .ok (.aload 4, 2) := by decide +kernel
theorem dX6_init_30 : decode cX6_init 30 = .ok (.putfield 27, 3) := by decide +kernel
theorem dX6_init_33 : decode cX6_init 33 = .ok (.return_, 1) := by decide +kernel
theorem dX6_writeTab_0 : decode cX6_writeTab 0 = .ok (.aload_n 0, 1) := by decide +kernel
theorem dX6_writeTab_1 : decode cX6_writeTab 1 = .ok (.getfield 27, 3) := by decide +kernel
theorem dX6_writeTab_4 : decode cX6_writeTab 4 = .ok (.iconst 0, 1) := by decide +kernel
theorem dX6_writeTab_5 : decode cX6_writeTab 5 = .ok (.putfield 31, 3) := by decide +kernel
theorem dX6_writeTab_8 : decode cX6_writeTab 8 = .ok (.iconst 0, 1) := by decide +kernel
theorem dX6_writeTab_9 : decode cX6_writeTab 9 = .ok (.istore_n 1, 1) := by decide +kernel
theorem dX6_writeTab_10 : decode cX6_writeTab 10 = .ok (.iload_n 1, 1) := by decide +kernel
theorem dX6_writeTab_11 : decode cX6_writeTab 11 = .ok (.aload_n 0, 1) := by decide +kernel
theorem dX6_writeTab_12 : decode cX6_writeTab 12 = .ok (.getfield 19, 3) := by decide +kernel
theorem dX6_writeTab_15 : decode cX6_writeTab 15 = .ok (.getfield 37, 3) := by decide +kernel
theorem dX6_writeTab_18 : decode cX6_writeTab 18 = .ok (.if_icmp .ge 20, 3) := by decide +kernel
theorem dX6_writeTab_21 : decode cX6_writeTab 21 = .ok (.aload_n 0, 1) := by decide +kernel
theorem dX6_writeTab_22 : decode cX6_writeTab 22 = .ok (.getfield 9, 3) := by decide +kernel
theorem dX6_writeTab_25 : decode cX6_writeTab 25 = .ok (.iload_n 1, 1) := by decide +kernel
theorem dX6_writeTab_26 : decode cX6_writeTab 26 = .ok (.aload_n 0, 1) := by decide +kernel
theorem dX6_writeTab_27 : decode cX6_writeTab 27 = .ok (.iload_n 1, 1) := by decide +kernel
theorem dX6_writeTab_28 : decode cX6_writeTab 28 = .ok (.invokevirtual 42, 3) := by decide +kernel
theorem dX6_writeTab_31 : decode cX6_writeTab 31 = .ok (.iastore, 1) := by decide +kernel
theorem dX6_writeTab_32 : decode cX6_writeTab 32 = .ok (.iinc 1 1, 3) := by decide +kernel
theorem dX6_writeTab_35 : decode cX6_writeTab 35 = .ok (.goto (-25), 3) := by decide +kernel
theorem dX6_writeTab_38 : decode cX6_writeTab 38 = .ok (.aload_n 0, 1) := by decide +kernel
theorem dX6_writeTab_39 : decode cX6_writeTab 39 = .ok (.getfield 15, 3) := by decide +kernel
theorem dX6_writeTab_42 : decode cX6_writeTab 42 = .ok (.getfield 46, 3) := by decide +kernel
theorem dX6_writeTab_45 : decode cX6_writeTab 45 = .ok (.iconst 1, 1) := by decide +kernel
theorem dX6_writeTab_46 : decode cX6_writeTab 46 = .ok (.isub, 1) := by decide +kernel
theorem dX6_writeTab_47 : decode cX6_writeTab 47 = .ok (.istore_n 1, 1) := by decide +kernel
theorem dX6_writeTab_48 : decode cX6_writeTab 48 = .ok (.iload_n 1, 1) := by decide +kernel
theorem dX6_writeTab_49 : decode cX6_writeTab 49 = .ok (.ifCond .lt 14, 3) := by decide +kernel
theorem dX6_writeTab_52 : decode cX6_writeTab 52 = .ok (.aload_n 0, 1) := by decide +kernel
theorem dX6_writeTab_53 : decode cX6_writeTab 53 = .ok (.iload_n 1, 1) := by decide +kernel
theorem dX6_writeTab_54 : decode cX6_writeTab 54 = .ok (.invokevirtual 51, 3) := by decide +kernel
theorem dX6_writeTab_57 : decode cX6_writeTab 57 = .ok (.iinc 1 (-1), 3) := by decide +kernel
theorem dX6_writeTab_60 : decode cX6_writeTab 60 = .ok (.goto (-12), 3) := by decide +kernel
theorem dX6_writeTab_63 : decode cX6_writeTab 63 = .ok (.return_, 1) := by decide +kernel
theorem dX6_writeLine_0 : decode cX6_writeLine 0 = .ok (.aload_n 0, 1) := by decide +kernel
theorem dX6_writeLine_1 : decode cX6_writeLine 1 = .ok (.getfield 27, 3) := by decide +kernel
theorem dX6_writeLine_4 : decode cX6_writeLine 4 = .ok (.bipush 124, 2) := by decide +kernel
theorem dX6_writeLine_6 : decode cX6_writeLine 6 = .ok (.invokevirtual 55, 3) := by decide +kernel
theorem dX6_writeLine_9 : decode cX6_writeLine 9 = .ok (.pop, 1) := by decide +kernel
theorem dX6_writeLine_10 : decode cX6_writeLine 10 = .ok (.iconst 0, 1) := by decide +kernel
theorem dX6_writeLine_11 : decode cX6_writeLine 11 = .ok (.istore_n 2, 1) := by decide +kernel
theorem dX6_writeLine_12 : decode cX6_writeLine 12 = .ok (.iload_n 2, 1) := by decide +kernel
theorem dX6_writeLine_13 : decode cX6_writeLine 13 = .ok (.aload_n 0, 1) := by decide +kernel
theorem dX6_writeLine_14 : decode cX6_writeLine 14 = .ok (.getfield 19, 3) := by decide +kernel
theorem dX6_writeLine_17 : decode cX6_writeLine 17 = .ok (.getfield 37, 3) := by decide +kernel
theorem dX6_writeLine_20 : decode cX6_writeLine 20 = .ok (.if_icmp .ge 60, 3) := by decide +kernel
theorem dX6_writeLine_23 : decode cX6_writeLine 23 = .ok (.aload_n 0, 1) := by decide +kernel
theorem dX6_writeLine_24 : decode cX6_writeLine 24 = .ok (.getfield 27, 3) := by decide +kernel
theorem dX6_writeLine_27 : decode cX6_writeLine 27 = .ok (.bipush 45, 2) := by decide +kernel
theorem dX6_writeLine_29 : decode cX6_writeLine 29 = .ok (.invokevirtual 55, 3) := by decide +kernel
theorem dX6_writeLine_32 : decode cX6_writeLine 32 = .ok (.pop, 1) := by decide +kernel
theorem dX6_writeLine_33 : decode cX6_writeLine 33 = .ok (.aload_n 0, 1) := by decide +kernel
theorem dX6_writeLine_34 : decode cX6_writeLine 34 = .ok (.aload_n 0, 1) := by decide +kernel
theorem dX6_writeLine_35 : decode cX6_writeLine 35 = .ok (.iload_n 2, 1) := by decide +kernel
theorem dX6_writeLine_36 : decode cX6_writeLine 36 = .ok (.iload_n 1, 1) := by decide +kernel
theorem dX6_writeLine_37 : decode cX6_writeLine 37 = .ok (.invokevirtual 59, 3) := by decide +kernel
theorem dX6_writeLine_40 : decode cX6_writeLine 40 = .ok (.invokevirtual 63, 3) := by decide +kernel
theorem dX6_writeLine_43 : decode cX6_writeLine 43 = .ok (.istore_n 3, 1) := by decide +kernel
theorem dX6_writeLine_44 : decode cX6_writeLine 44 = .ok (.iload_n 3, 1) := by decide +kernel
theorem dX6_writeLine_45 : decode cX6_writeLine 45 = .ok (.istore 4, 2) := by decide +kernel
theorem dX6_writeLine_47 : decode cX6_writeLine 47 = .ok (.iload 4, 2) := by decide +kernel
theorem dX6_writeLine_49 : decode cX6_writeLine 49 = .ok (.aload_n 0, 1) := by decide +kernel
theorem dX6_writeLine_50 : decode cX6_writeLine 50 = .ok (.getfield 9, 3) := by decide +kernel
theorem dX6_writeLine_53 : decode cX6_writeLine 53 = .ok (.iload_n 2, 1) := by decide +kernel
theorem dX6_writeLine_54 : decode cX6_writeLine 54 = .ok (.iaload, 1) := by decide +kernel
theorem dX6_writeLine_55 : decode cX6_writeLine 55 = .ok (.if_icmp .ge 19, 3) := by decide +kernel
theorem dX6_writeLine_58 : decode cX6_writeLine 58 = .ok (.aload_n 0, 1) := by decide +kernel
theorem dX6_writeLine_59 : decode cX6_writeLine 59 = .ok (.getfield 27, 3) := by decide +kernel
theorem dX6_writeLine_62 : decode cX6_writeLine 62 = .ok (.bipush 45, 2) := by decide +kernel
theorem dX6_writeLine_64 : decode cX6_writeLine 64 = .ok (.invokevirtual 55, 3) := by decide +kernel
theorem dX6_writeLine_67 : decode cX6_writeLine 67 = .ok (.pop, 1) := by decide +kernel
theorem dX6_writeLine_68 : decode cX6_writeLine 68 = .ok (.iinc 4 1, 3) := by decide +kernel
theorem dX6_writeLine_71 : decode cX6_writeLine 71 = .ok (.goto (-24), 3) := by decide +kernel
theorem dX6_writeLine_74 : decode cX6_writeLine 74 = .ok (.iinc 2 1, 3) := by decide +kernel
theorem dX6_writeLine_77 : decode cX6_writeLine 77 = .ok (.goto (-65), 3) := by decide +kernel
theorem dX6_writeLine_80 : decode cX6_writeLine 80 = .ok (.aload_n 0, 1) := by decide +kernel
theorem dX6_writeLine_81 : decode cX6_writeLine 81 = .ok (.getfield 27, 3) := by decide +kernel
theorem dX6_writeLine_84 : decode cX6_writeLine 84 = .ok (.bipush 45, 2) := by decide +kernel
theorem dX6_writeLine_86 : decode cX6_writeLine 86 = .ok (.invokevirtual 55, 3) := by decide +kernel
theorem dX6_writeLine_89 : decode cX6_writeLine 89 = .ok (.pop, 1) := by decide +kernel
theorem dX6_writeLine_90 : decode cX6_writeLine 90 = .ok (.aload_n 0, 1) := by decide +kernel
theorem dX6_writeLine_91 : decode cX6_writeLine 91 = .ok (.getfield 27, 3) := by decide +kernel
theorem dX6_writeLine_94 : decode cX6_writeLine 94 = .ok (.bipush 124, 2) := by decide +kernel
theorem dX6_writeLine_96 : decode cX6_writeLine 96 = .ok (.invokevirtual 55, 3) := by decide +kernel
theorem dX6_writeLine_99 : decode cX6_writeLine 99 = .ok (.pop, 1) := by decide +kernel
theorem dX6_writeLine_100 : decode cX6_writeLine 100 = .ok (.aload_n 0, 1) := by decide +kernel
theorem dX6_writeLine_101 : decode cX6_writeLine 101 = .ok (.getfield 27, 3) := by decide +kernel
theorem dX6_writeLine_104 : decode cX6_writeLine 104 = .ok (.bipush 10, 2) := by decide +kernel
theorem dX6_writeLine_106 : decode cX6_writeLine 106 = .ok (.invokevirtual 55, 3) := by decide +kernel
theorem dX6_writeLine_109 : decode cX6_writeLine 109 = .ok (.pop, 1) := by decide +kernel
theorem dX6_writeLine_110 : decode cX6_writeLine 110 = .ok (.return_, 1) := by decide +kernel
theorem dX6_writeNumber_0 : decode cX6_writeNumber 0 = .ok (.iload_n 1, 1) := by decide +kernel
theorem dX6_writeNumber_1 : decode cX6_writeNumber 1 = .ok (.invokestatic 66, 3) := by decide +kernel
theorem dX6_writeNumber_4 : decode cX6_writeNumber 4 = .ok (.istore_n 2, 1) := by decide +kernel
theorem dX6_writeNumber_5 : decode cX6_writeNumber 5 = .ok (.iload_n 2, 1) := by decide +kernel
theorem dX6_writeNumber_6 : decode cX6_writeNumber 6 = .ok (.iconst 1, 1) := by decide +kernel
theorem dX6_writeNumber_7 : decode cX6_writeNumber 7 = .ok (.if_icmp .le 18, 3) := by decide +kernel
theorem dX6_writeNumber_10 : decode cX6_writeNumber 10 = .ok (.aload_n 0, 1) := by decide +kernel
theorem dX6_writeNumber_11 : decode cX6_writeNumber 11 = .ok (.getfield 27, 3) := by decide +kernel
theorem dX6_writeNumber_14 : decode cX6_writeNumber 14 = .ok (.bipush 48, 2) := by decide +kernel
theorem dX6_writeNumber_16 : decode cX6_writeNumber 16 = .ok (.iload_n 1, 1) := by decide +kernel
theorem dX6_writeNumber_17 : decode cX6_writeNumber 17 = .ok (.bipush 10, 2) := by decide +kernel
theorem dX6_writeNumber_19 : decode cX6_writeNumber 19 = .ok (.idiv, 1) := by decide +kernel
theorem dX6_writeNumber_20 : decode cX6_writeNumber 20 = .ok (.iadd, 1) := by decide +kernel
theorem dX6_writeNumber_21 : decode cX6_writeNumber 21 = .ok (.invokevirtual 55, 3) := by decide +kernel
theorem dX6_writeNumber_24 : decode cX6_writeNumber 24 = .ok (.pop, 1) := by decide +kernel
theorem dX6_writeNumber_25 : decode cX6_writeNumber 25 = .ok (.iload_n 2, 1) := by decide +kernel
theorem dX6_writeNumber_26 : decode cX6_writeNumber 26 = .ok (.ifCond .le 18, 3) := by decide +kernel
theorem dX6_writeNumber_29 : decode cX6_writeNumber 29 = .ok (.aload_n 0, 1) := by decide +kernel
theorem dX6_writeNumber_30 : decode cX6_writeNumber 30 = .ok (.getfield 27, 3) := by decide +kernel
theorem dX6_writeNumber_33 : decode cX6_writeNumber 33 = .ok (.bipush 48, 2) := by decide +kernel
theorem dX6_writeNumber_35 : decode cX6_writeNumber 35 = .ok (.iload_n 1, 1) := by decide +kernel
theorem dX6_writeNumber_36 : decode cX6_writeNumber 36 = .ok (.bipush 10, 2) := by decide +kernel
theorem dX6_writeNumber_38 : decode cX6_writeNumber 38 = .ok (.irem, 1) := by decide +kernel
theorem dX6_writeNumber_39 : decode cX6_writeNumber 39 = .ok (.iadd, 1) := by decide +kernel
theorem dX6_writeNumber_40 : decode cX6_writeNumber 40 = .ok (.invokevirtual 55, 3) := by decide +kernel
theorem dX6_writeNumber_43 : decode cX6_writeNumber 43 = .ok (.pop, 1) := by decide +kernel
theorem dX6_writeNumber_44 : decode cX6_writeNumber 44 = .ok (.iload_n 2, 1) := by decide +kernel
theorem dX6_writeNumber_45 : decode cX6_writeNumber 45 = .ok (.ireturn, 1) := by decide +kernel
theorem dX6_longestNumber_0 : decode cX6_longestNumber 0 = .ok (.iconst 0, 1) := by decide +kernel
theorem dX6_longestNumber_1 : decode cX6_longestNumber 1 = .ok (.istore_n 2, 1) := by decide +kernel
theorem dX6_longestNumber_2 : decode cX6_longestNumber 2 = .ok (.iconst 0, 1) := by decide +kernel
theorem dX6_longestNumber_3 : decode cX6_longestNumber 3 = .ok (.istore_n 3, 1) := by decide +kernel
theorem dX6_longestNumber_4 : decode cX6_longestNumber 4 = .ok (.iload_n 3, 1) := by decide +kernel
theorem dX6_longestNumber_5 : decode cX6_longestNumber 5 = .ok (.aload_n 0, 1) := by decide +kernel
theorem dX6_longestNumber_6 : decode cX6_longestNumber 6 = .ok (.getfield 15, 3) := by decide +kernel
theorem dX6_longestNumber_9 : decode cX6_longestNumber 9 = .ok (.getfield 46, 3) := by decide +kernel
theorem dX6_longestNumber_12 : decode cX6_longestNumber 12 = .ok (.if_icmp .ge 23, 3) := by decide +kernel
theorem dX6_longestNumber_15 : decode cX6_longestNumber 15 = .ok (.iload_n 2, 1) := by decide +kernel
theorem dX6_longestNumber_16 : decode cX6_longestNumber 16 = .ok (.aload_n 0, 1) := by decide +kernel
theorem dX6_longestNumber_17 : decode cX6_longestNumber 17 = .ok (.iload_n 1, 1) := by decide +kernel
theorem dX6_longestNumber_18 : decode cX6_longestNumber 18 = .ok (.iload_n 3, 1) := by decide +kernel
theorem dX6_longestNumber_19 : decode cX6_longestNumber 19 = .ok (.invokevirtual 59, 3) := by decide +kernel
theorem dX6_longestNumber_22 : decode cX6_longestNumber 22 = .ok (.invokestatic 66, 3) := by decide +kernel
theorem dX6_longestNumber_25 : decode cX6_longestNumber 25 = .ok (.invokestatic 69, 3) := by decide +kernel
theorem dX6_longestNumber_28 : decode cX6_longestNumber 28 = .ok (.istore_n 2, 1) := by decide +kernel
theorem dX6_longestNumber_29 : decode cX6_longestNumber 29 = .ok (.iinc 3 1, 3) := by decide +kernel
theorem dX6_longestNumber_32 : decode cX6_longestNumber 32 = .ok (.goto (-28), 3) := by decide +kernel
theorem dX6_longestNumber_35 : decode cX6_longestNumber 35 = .ok (.iload_n 2, 1) := by decide +kernel
theorem dX6_longestNumber_36 : decode cX6_longestNumber 36 = .ok (.ireturn, 1) := by decide +kernel
theorem dX6_lengthOf_0 : decode cX6_lengthOf 0 = .ok (.iload_n 0, 1) := by decide +kernel
theorem dX6_lengthOf_1 : decode cX6_lengthOf 1 = .ok (.iconst (-1), 1) := by decide +kernel
theorem dX6_lengthOf_2 : decode cX6_lengthOf 2 = .ok (.if_icmp .ne 5, 3) := by decide +kernel
theorem dX6_lengthOf_5 : decode cX6_lengthOf 5 = .ok (.iconst 0, 1) := by decide +kernel
theorem dX6_lengthOf_6 : decode cX6_lengthOf 6 = .ok (.ireturn, 1) := by decide +kernel
theorem dX6_lengthOf_7 : decode cX6_lengthOf 7 = .ok (.iload_n 0, 1) := by decide +kernel
theorem dX6_lengthOf_8 : decode cX6_lengthOf 8 = .ok (.bipush 10, 2) := by decide +kernel
theorem dX6_lengthOf_10 : decode cX6_lengthOf 10 = .ok (.if_icmp .ge 7, 3) := by decide +kernel
theorem dX6_lengthOf_13 : decode cX6_lengthOf 13 = .ok (.iconst 1, 1) := by decide +kernel
theorem dX6_lengthOf_14 : decode cX6_lengthOf 14 = .ok (.goto 4, 3) := by decide +kernel
theorem dX6_lengthOf_17 : decode cX6_lengthOf 17 = .ok (.iconst 2, 1) := by decide +kernel
theorem dX6_lengthOf_18 : decode cX6_lengthOf 18 = .ok (.ireturn, 1) := by decide +kernel
theorem dX6_fretsBehindCapo_0 : decode cX6_fretsBehindCapo 0 = .ok (.aload_n 0, 1) := by decide +kernel
theorem dX6_fretsBehindCapo_1 : decode cX6_fretsBehindCapo 1 = .ok (.getfield 23, 3) := by decide +kernel
theorem dX6_fretsBehindCapo_4 : decode cX6_fretsBehindCapo 4 = .ok (.iload_n 1, 1) := by decide +kernel
theorem dX6_fretsBehindCapo_5 : decode cX6_fretsBehindCapo 5 = .ok (.invokevirtual 74, 3) := by decide +kernel
theorem dX6_fretsBehindCapo_8 : decode cX6_fretsBehindCapo 8 = .ok (.ifCond .ne 5, 3) := by decide +kernel
theorem dX6_fretsBehindCapo_11 : decode cX6_fretsBehindCapo 11 = .ok (.iconst (-1), 1) := by decide +kernel
theorem dX6_fretsBehindCapo_12 : decode cX6_fretsBehindCapo 12 = .ok (.ireturn, 1) := by decide +kernel
theorem dX6_fretsBehindCapo_13 : decode cX6_fretsBehindCapo 13 = .ok (.aload_n 0, 1) := by decide +kernel
theorem dX6_fretsBehindCapo_14 : decode cX6_fretsBehindCapo 14 = .ok (.getfield 19, 3) := by decide +kernel
theorem dX6_fretsBehindCapo_17 : decode cX6_fretsBehindCapo 17 = .ok (.iload_n 1, 1) := by decide +kernel
theorem dX6_fretsBehindCapo_18 : decode cX6_fretsBehindCapo 18 = .ok (.invokevirtual 79, 3) := by decide +kernel
theorem dX6_fretsBehindCapo_21 : decode cX6_fretsBehindCapo 21 = .ok (.istore_n 3, 1) := by decide +kernel
theorem dX6_fretsBehindCapo_22 : decode cX6_fretsBehindCapo 22 = .ok (.iconst 0, 1) := by decide +kernel
theorem dX6_fretsBehindCapo_23 : decode cX6_fretsBehindCapo 23 = .ok (.istore 4, 2) := by decide +kernel
theorem dX6_fretsBehindCapo_25 : decode cX6_fretsBehindCapo 25 = .ok (.iload 4, 2) := by decide +kernel
theorem dX6_fretsBehindCapo_27 : decode cX6_fretsBehindCapo 27 = .ok (.iload_n 3, 1) := by decide +kernel
theorem dX6_fretsBehindCapo_28 : decode cX6_fretsBehindCapo 28 = .ok (.if_icmp .ge 54, 3) := by decide +kernel
theorem dX6_fretsBehindCapo_31 : decode cX6_fretsBehindCapo 31 = .ok (.aload_n 0, 1) := by decide +kernel
theorem dX6_fretsBehindCapo_32 : decode cX6_fretsBehindCapo 32 = .ok (.getfield 23, 3) := by decide +kernel
theorem dX6_fretsBehindCapo_35 : decode cX6_fretsBehindCapo 35 = .ok (.getfield 82, 3) := by decide +kernel
theorem dX6_fretsBehindCapo_38 : decode cX6_fretsBehindCapo 38 = .ok (.iload_n 1, 1) := by decide +kernel
theorem dX6_fretsBehindCapo_39 : decode cX6_fretsBehindCapo 39 = .ok (.iaload, 1) := by decide +kernel
theorem dX6_fretsBehindCapo_40 : decode cX6_fretsBehindCapo 40 = .ok (.iload 4, 2) := by decide +kernel
theorem dX6_fretsBehindCapo_42 : decode cX6_fretsBehindCapo 42 = .ok (.invokestatic 84, 3) := by decide +kernel
theorem dX6_fretsBehindCapo_45 : decode cX6_fretsBehindCapo 45 = .ok (.iload_n 2, 1) := by decide +kernel
theorem dX6_fretsBehindCapo_46 : decode cX6_fretsBehindCapo 46 = .ok (.if_icmp .ne 30, 3) := by decide +kernel
theorem dX6_fretsBehindCapo_49 : decode cX6_fretsBehindCapo 49 = .ok (.aload_n 0, 1) := by decide +kernel
theorem dX6_fretsBehindCapo_50 : decode cX6_fretsBehindCapo 50 = .ok (.getfield 15, 3) := by decide +kernel
theorem dX6_fretsBehindCapo_53 : decode cX6_fretsBehindCapo 53 = .ok (.iload_n 2, 1) := by decide +kernel
theorem dX6_fretsBehindCapo_54 : decode cX6_fretsBehindCapo 54 = .ok (.aload_n 0, 1) := by decide +kernel
theorem dX6_fretsBehindCapo_55 : decode cX6_fretsBehindCapo 55 = .ok (.getfield 19, 3) := by decide +kernel
theorem dX6_fretsBehindCapo_58 : decode cX6_fretsBehindCapo 58 = .ok (.iload_n 1, 1) := by decide +kernel
theorem dX6_fretsBehindCapo_59 : decode cX6_fretsBehindCapo 59 = .ok (.iload 4, 2) := by decide +kernel
theorem dX6_fretsBehindCapo_61 : decode cX6_fretsBehindCapo 61 = .ok (.invokevirtual 89, 3) := by decide +kernel
theorem dX6_fretsBehindCapo_64 : decode cX6_fretsBehindCapo 64 = .ok (.invokevirtual 92, 3) := by decide +kernel
theorem dX6_fretsBehindCapo_67 : decode cX6_fretsBehindCapo 67 = .ok (.aload_n 0, 1) := by decide +kernel
theorem dX6_fretsBehindCapo_68 : decode cX6_fretsBehindCapo 68 = .ok (.getfield 15, 3) := by decide +kernel
theorem dX6_fretsBehindCapo_71 : decode cX6_fretsBehindCapo 71 = .ok (.getfield 95, 3) := by decide +kernel
theorem dX6_fretsBehindCapo_74 : decode cX6_fretsBehindCapo 74 = .ok (.isub, 1) := by decide +kernel
theorem dX6_fretsBehindCapo_75 : decode cX6_fretsBehindCapo 75 = .ok (.ireturn, 1) := by decide +kernel
theorem dX6_fretsBehindCapo_76 : decode cX6_fretsBehindCapo 76 = .ok (.iinc 4 1, 3) := by decide +kernel
theorem dX6_fretsBehindCapo_79 : decode cX6_fretsBehindCapo 79 = .ok (.goto (-54), 3) := by decide +kernel
theorem dX6_fretsBehindCapo_82 : decode cX6_fretsBehindCapo 82 = .ok (.iconst (-1), 1) := by decide +kernel
theorem dX6_fretsBehindCapo_83 : decode cX6_fretsBehindCapo 83 = .ok (.ireturn, 1) := by decide +kernel
theorem dX7_init_0 : decode cX7_init 0 = .ok (.aload_n 0, 1) := by decide +kernel
theorem dX7_init_1 : decode cX7_init 1 = .ok (.invokespecial 3, 3) := by decide +kernel
theorem dX7_init_4 : decode cX7_init 4 = .ok (.aload_n 0, 1) := by decide +kernel
theorem dX7_init_5 : decode cX7_init 5 = .ok (.sipush 2000, 3) := by decide +kernel
theorem dX7_init_8 : decode cX7_init 8 = .ok (.newarray .int, 2) := by decide +kernel
theorem dX7_init_10 : decode cX7_init 10 = .ok (.putfield 9, 3) := by decide +kernel
theorem dX7_init_13 : decode cX7_init 13 = .ok (.aload_n 0, 1) := by decide +kernel
theorem dX7_init_14 : decode cX7_init 14 = .ok (.iconst 0, 1) := by decide +kernel
theorem dX7_init_15 : decode cX7_init 15 = .ok (.putfield 15, 3) := by decide +kernel
theorem dX7_init_18 : decode cX7_init 18 = .ok (.return_, 1) := by decide +kernel
theorem dX7_add_0 : decode cX7_add 0 = .ok (.aload_n 0, 1) := by decide +kernel
theorem dX7_add_1 : decode cX7_add 1 = .ok (.getfield 15, 3) := by decide +kernel
theorem dX7_add_4 : decode cX7_add 4 = .ok (.sipush 2000, 3) := by decide +kernel
theorem dX7_add_7 : decode cX7_add 7 = .ok (.if_icmp .lt 5, 3) := by decide +kernel
theorem dX7_add_10 : decode cX7_add 10 = .ok (.iconst 0, 1) := by decide +kernel
theorem dX7_add_11 : decode cX7_add 11 = .ok (.ireturn, 1) := by decide +kernel
theorem dX7_add_12 : decode cX7_add 12 = .ok (.aload_n 0, 1) := by decide +kernel
theorem dX7_add_13 : decode cX7_add 13 = .ok (.getfield 9, 3) := by decide +kernel
theorem dX7_add_16 : decode cX7_add 16 = .ok (.aload_n 0, 1) := by decide +kernel
theorem dX7_add_17 : decode cX7_add 17 = .ok (.getfield 15, 3) := by decide +kernel
theorem dX7_add_20 : decode cX7_add 20 = .ok (.iload_n 1, 1) := by decide +kernel
theorem dX7_add_21 : decode cX7_add 21 = .ok (.iastore, 1) := by decide +kernel
theorem dX7_add_22 : decode cX7_add 22 = .ok (.aload_n 0, 1) := by decide +kernel
theorem dX7_add_23 : decode cX7_add 23 = .ok (.dup, 1) := by decide +kernel
theorem dX7_add_24 : decode cX7_add 24 = .ok (.getfield 15, 3) := by decide +kernel
theorem dX7_add_27 : decode cX7_add 27 = .ok (.iconst 1, 1) := by decide +kernel
theorem dX7_add_28 : decode cX7_add 28 = .ok (.iadd, 1) := by decide +kernel
theorem dX7_add_29 : decode cX7_add 29 = .ok (.putfield 15, 3) := by decide +kernel
theorem dX7_add_32 : decode cX7_add 32 = .ok (.iconst 1, 1) := by decide +kernel
theorem dX7_add_33 : decode cX7_add 33 = .ok (.ireturn, 1) := by decide +kernel
theorem dX7_signAt_0 : decode cX7_signAt 0 = .ok (.iload_n 1, 1) := by decide +kernel
theorem dX7_signAt_1 : decode cX7_signAt 1 = .ok (.ifCond .lt 20, 3) := by decide +kernel
theorem dX7_signAt_4 : decode cX7_signAt 4 = .ok (.iload_n 1, 1) := by decide +kernel
theorem dX7_signAt_5 : decode cX7_signAt 5 = .ok (.aload_n 0, 1) := by decide +kernel
theorem dX7_signAt_6 : decode cX7_signAt 6 = .ok (.getfield 15, 3) := by decide +kernel
theorem dX7_signAt_9 : decode cX7_signAt 9 = .ok (.if_icmp .ge 12, 3) := by decide +kernel
theorem dX7_signAt_12 : decode cX7_signAt 12 = .ok (.aload_n 0, 1) := by decide +kernel
theorem dX7_signAt_13 : decode cX7_signAt 13 = .ok (.getfield 9, 3) := by decide +kernel
theorem dX7_signAt_16 : decode cX7_signAt 16 = .ok (.iload_n 1, 1) := by decide +kernel
theorem dX7_signAt_17 : decode cX7_signAt 17 = .ok (.iaload, 1) := by decide +kernel
theorem dX7_signAt_18 : decode cX7_signAt 18 = .ok (.goto 4, 3) := by decide +kernel
theorem dX7_signAt_21 : decode cX7_signAt 21 = .ok (.iconst (-1), 1) := by decide +kernel
theorem dX7_signAt_22 : decode cX7_signAt 22 = .ok (.ireturn, 1) := by decide +kernel
theorem dX8_init_0 : decode cX8_init 0 = .ok (.aload_n 0, 1) := by decide +kernel
theorem dX8_init_1 : decode cX8_init 1 = .ok (.invokespecial 3, 3) := by decide +kernel
theorem dX8_init_4 : decode cX8_init 4 = .ok (.aload_n 0, 1) := by decide +kernel
theorem dX8_init_5 : decode cX8_init 5 = .ok (.bipush 40, 2) := by decide +kernel
theorem dX8_init_7 : decode cX8_init 7 = .ok (.newarray .int, 2) := by decide +kernel
theorem dX8_init_9 : decode cX8_init 9 = .ok (.putfield 9, 3) := by decide +kernel
theorem dX8_init_12 : decode cX8_init 12 = .ok (.aload_n 0, 1) := by decide +kernel
theorem dX8_init_13 : decode cX8_init 13 = .ok (.sipush 160, 3) := by decide +kernel
theorem dX8_init_16 : decode cX8_init 16 = .ok (.newarray .int, 2) := by decide +kernel
theorem dX8_init_18 : decode cX8_init 18 = .ok (.putfield 15, 3) := by decide +kernel
theorem dX8_init_21 : decode cX8_init 21 = .ok (.aload_n 0, 1) := by decide +kernel
theorem dX8_init_22 : decode cX8_init 22 = .ok (.sipush 160, 3) := by decide +kernel
theorem dX8_init_25 : decode cX8_init 25 = .ok (.newarray .int, 2) := by decide +kernel
theorem dX8_init_27 : decode cX8_init 27 = .ok (.putfield 18, 3) := by decide +kernel
theorem dX8_init_30 : decode cX8_init 30 = .ok (.aload_n 0, 1) := by decide +kernel
theorem dX8_init_31 : decode cX8_init 31 = .ok (.iconst 0, 1) := by decide +kernel
theorem dX8_init_32 : decode cX8_init 32 = .ok (.putfield 21, 3) := by decide +kernel
theorem dX8_init_35 : decode cX8_init 35 = .ok (.return_, 1) := by decide +kernel
theorem dX8_hasEvent_0 : decode cX8_hasEvent 0 = .ok (.iload_n 1, 1) := by decide +kernel
theorem dX8_hasEvent_1 : decode cX8_hasEvent 1 = .ok (.ifCond .lt 15, 3) := by decide +kernel
theorem dX8_hasEvent_4 : decode cX8_hasEvent 4 = .ok (.iload_n 1, 1) := by decide +kernel
theorem dX8_hasEvent_5 : decode cX8_hasEvent 5 = .ok (.aload_n 0, 1) := by decide +kernel
theorem dX8_hasEvent_6 : decode cX8_hasEvent 6 = .ok (.getfield 21, 3) := by decide +kernel
theorem dX8_hasEvent_9 : decode cX8_hasEvent 9 = .ok (.if_icmp .ge 7, 3) := by decide +kernel
theorem dX8_hasEvent_12 : decode cX8_hasEvent 12 = .ok (.iconst 1, 1) := by decide +kernel
theorem dX8_hasEvent_13 : decode cX8_hasEvent 13 = .ok (.goto 4, 3) := by decide +kernel
theorem dX8_hasEvent_16 : decode cX8_hasEvent 16 = .ok (.iconst 0, 1) := by decide +kernel
theorem dX8_hasEvent_17 : decode cX8_hasEvent 17 = .ok (.ireturn, 1) := by decide +kernel
theorem dX8_sizeOf_0 : decode cX8_sizeOf 0 = .ok (.aload_n 0, 1) := by decide +kernel
theorem dX8_sizeOf_1 : decode cX8_sizeOf 1 = .ok (.iload_n 1, 1) := by decide +kernel
theorem dX8_sizeOf_2 : decode cX8_sizeOf 2 = .ok (.invokevirtual 25, 3) := by decide +kernel
theorem dX8_sizeOf_5 : decode cX8_sizeOf 5 = .ok (.ifCond .eq 12, 3) := by decide +kernel
theorem dX8_sizeOf_8 : decode cX8_sizeOf 8 = .ok (.aload_n 0, 1) := by decide +kernel
theorem dX8_sizeOf_9 : decode cX8_sizeOf 9 = .ok (.getfield 9, 3) := by decide +kernel
theorem dX8_sizeOf_12 : decode cX8_sizeOf 12 = .ok (.iload_n 1, 1) := by decide +kernel
theorem dX8_sizeOf_13 : decode cX8_sizeOf 13 = .ok (.iaload, 1) := by decide +kernel
theorem dX8_sizeOf_14 : decode cX8_sizeOf 14 = .ok (.goto 4, 3) := by decide +kernel
theorem dX8_sizeOf_17 : decode cX8_sizeOf 17 = .ok (.iconst 0, 1) := by decide +kernel
theorem dX8_sizeOf_18 : decode cX8_sizeOf 18 = .ok (.ireturn, 1) := by decide +kernel
theorem dX8_hasPitch_0 : decode cX8_hasPitch 0 = .ok (.aload_n 0, 1) := by decide +kernel
theorem dX8_hasPitch_1 : decode cX8_hasPitch 1 = .ok (.iload_n 1, 1) := by decide +kernel
theorem dX8_hasPitch_2 : decode cX8_hasPitch 2 = .ok (.invokevirtual 25, 3) := by decide +kernel
theorem dX8_hasPitch_5 : decode cX8_hasPitch 5 = .ok (.ifCond .eq 21, 3) := by decide +kernel
theorem dX8_hasPitch_8 : decode cX8_hasPitch 8 = .ok (.iload_n 2, 1) := by decide +kernel
theorem dX8_hasPitch_9 : decode cX8_hasPitch 9 = .ok (.ifCond .lt 17, 3) := by decide +kernel
theorem dX8_hasPitch_12 : decode cX8_hasPitch 12 = .ok (.iload_n 2, 1) := by decide +kernel
theorem dX8_hasPitch_13 : decode cX8_hasPitch 13 = .ok (.aload_n 0, 1) := by decide +kernel
theorem dX8_hasPitch_14 : decode cX8_hasPitch 14 = .ok (.getfield 9, 3) := by decide +kernel
theorem dX8_hasPitch_17 : decode cX8_hasPitch 17 = .ok (.iload_n 1, 1) := by decide +kernel
theorem dX8_hasPitch_18 : decode cX8_hasPitch 18 = .ok (.iaload, 1) := by decide +kernel
theorem dX8_hasPitch_19 : decode cX8_hasPitch 19 = .ok (.if_icmp .ge 7, 3) := by decide +kernel
theorem dX8_hasPitch_22 : decode cX8_hasPitch 22 = .ok (.iconst 1, 1) := by decide +kernel
theorem dX8_hasPitch_23 : decode cX8_hasPitch 23 = .ok (.goto 4, 3) := by decide +kernel
theorem dX8_hasPitch_26 : decode cX8_hasPitch 26 = .ok (.iconst 0, 1) := by decide +kernel
theorem dX8_hasPitch_27 : decode cX8_hasPitch 27 = .ok (.ireturn, 1) := by decide +kernel
theorem dX8_pitchOf_0 : decode cX8_pitchOf 0 = .ok (.aload_n 0, 1) := by decide +kernel
theorem dX8_pitchOf_1 : decode cX8_pitchOf 1 = .ok (.iload_n 1, 1) := by decide +kernel
theorem dX8_pitchOf_2 : decode cX8_pitchOf 2 = .ok (.iload_n 2, 1) := by decide +kernel
theorem dX8_pitchOf_3 : decode cX8_pitchOf 3 = .ok (.invokevirtual 29, 3) := by decide +kernel
theorem dX8_pitchOf_6 : decode cX8_pitchOf 6 = .ok (.ifCond .eq 16, 3) := by decide +kernel
theorem dX8_pitchOf_9 : decode cX8_pitchOf 9 = .ok (.aload_n 0, 1) := by decide +kernel
theorem dX8_pitchOf_10 : decode cX8_pitchOf 10 = .ok (.getfield 15, 3) := by decide +kernel
theorem dX8_pitchOf_13 : decode cX8_pitchOf 13 = .ok (.iload_n 1, 1) := by decide +kernel
theorem dX8_pitchOf_14 : decode cX8_pitchOf 14 = .ok (.iconst 4, 1) := by decide +kernel
theorem dX8_pitchOf_15 : decode cX8_pitchOf 15 = .ok (.imul, 1) := by decide +kernel
theorem dX8_pitchOf_16 : decode cX8_pitchOf 16 = .ok (.iload_n 2, 1) := by decide +kernel
theorem dX8_pitchOf_17 : decode cX8_pitchOf 17 = .ok (.iadd, 1) := by decide +kernel
theorem dX8_pitchOf_18 : decode cX8_pitchOf 18 = .ok (.iaload, 1) := by decide +kernel
theorem dX8_pitchOf_19 : decode cX8_pitchOf 19 = .ok (.goto 4, 3) := by decide +kernel
theorem dX8_pitchOf_22 : decode cX8_pitchOf 22 = .ok (.iconst (-1), 1) := by decide +kernel
theorem dX8_pitchOf_23 : decode cX8_pitchOf 23 = .ok (.ireturn, 1) := by decide +kernel
theorem dX8_stringOf_0 : decode cX8_stringOf 0 = .ok (.aload_n 0, 1) := by decide +kernel
theorem dX8_stringOf_1 : decode cX8_stringOf 1 = .ok (.iload_n 1, 1) := by decide +kernel
theorem dX8_stringOf_2 : decode cX8_stringOf 2 = .ok (.iload_n 2, 1) := by decide +kernel
theorem dX8_stringOf_3 : decode cX8_stringOf 3 = .ok (.invokevirtual 29, 3) := by decide +kernel
theorem dX8_stringOf_6 : decode cX8_stringOf 6 = .ok (.ifCond .eq 16, 3) := by decide +kernel
theorem dX8_stringOf_9 : decode cX8_stringOf 9 = .ok (.aload_n 0, 1) := by decide +kernel
theorem dX8_stringOf_10 : decode cX8_stringOf 10 = .ok (.getfield 18, 3) := by decide +kernel
theorem dX8_stringOf_13 : decode cX8_stringOf 13 = .ok (.iload_n 1, 1) := by decide +kernel
theorem dX8_stringOf_14 : decode cX8_stringOf 14 = .ok (.iconst 4, 1) := by decide +kernel
theorem dX8_stringOf_15 : decode cX8_stringOf 15 = .ok (.imul, 1) := by decide +kernel
theorem dX8_stringOf_16 : decode cX8_stringOf 16 = .ok (.iload_n 2, 1) := by decide +kernel
theorem dX8_stringOf_17 : decode cX8_stringOf 17 = .ok (.iadd, 1) := by decide +kernel
theorem dX8_stringOf_18 : decode cX8_stringOf 18 = .ok (.iaload, 1) := by decide +kernel
theorem dX8_stringOf_19 : decode cX8_stringOf 19 = .ok (.goto 4, 3) := by decide +kernel
theorem dX8_stringOf_22 : decode cX8_stringOf 22 = .ok (.iconst (-1), 1) := by decide +kernel
theorem dX8_stringOf_23 : decode cX8_stringOf 23 = .ok (.ireturn, 1) := by decide +kernel
theorem dX8_bindPitch_0 : decode cX8_bindPitch 0 = .ok (.aload_n 0, 1) := by decide +kernel
theorem dX8_bindPitch_1 : decode cX8_bindPitch 1 = .ok (.iload_n 1, 1) := by decide +kernel
theorem dX8_bindPitch_2 : decode cX8_bindPitch 2 = .ok (.iload_n 2, 1) := by decide +kernel
theorem dX8_bindPitch_3 : decode cX8_bindPitch 3 = .ok (.invokevirtual 29, 3) := by decide +kernel
theorem dX8_bindPitch_6 : decode cX8_bindPitch 6 = .ok (.ifCond .eq 14, 3) := by decide +kernel
theorem dX8_bindPitch_9 : decode cX8_bindPitch 9 = .ok (.aload_n 0, 1) := by decide +kernel
theorem dX8_bindPitch_10 : decode cX8_bindPitch 10 = .ok (.getfield 18, 3) := by decide +kernel
theorem dX8_bindPitch_13 : decode cX8_bindPitch 13 = .ok (.iload_n 1, 1) := by decide +kernel
theorem dX8_bindPitch_14 : decode cX8_bindPitch 14 = .ok (.iconst 4, 1) := by decide +kernel
theorem dX8_bindPitch_15 : decode cX8_bindPitch 15 = .ok (.imul, 1) := by decide +kernel
theorem dX8_bindPitch_16 : decode cX8_bindPitch 16 = .ok (.iload_n 2, 1) := by decide +kernel
theorem dX8_bindPitch_17 : decode cX8_bindPitch 17 = .ok (.iadd, 1) := by decide +kernel
theorem dX8_bindPitch_18 : decode cX8_bindPitch 18 = .ok (.iload_n 3, 1) := by decide +kernel
theorem dX8_bindPitch_19 : decode cX8_bindPitch 19 = .ok (.iastore, 1) := by decide +kernel
theorem dX8_bindPitch_20 : decode cX8_bindPitch 20 = .ok (.return_, 1) := by decide +kernel
theorem dX8_contains_0 : decode cX8_contains 0 = .ok (.aload_n 0, 1) := by decide +kernel
theorem dX8_contains_1 : decode cX8_contains 1 = .ok (.iload_n 1, 1) := by decide +kernel
theorem dX8_contains_2 : decode cX8_contains 2 = .ok (.invokevirtual 33, 3) := by decide +kernel
theorem dX8_contains_5 : decode cX8_contains 5 = .ok (.istore_n 3, 1) := by decide +kernel
theorem dX8_contains_6 : decode cX8_contains 6 = .ok (.iconst 0, 1) := by decide +kernel
theorem dX8_contains_7 : decode cX8_contains 7 = .ok (.istore 4, 2) := by decide +kernel
theorem dX8_contains_9 : decode cX8_contains 9 = .ok (.iload 4, 2) := by decide +kernel
theorem dX8_contains_11 : decode cX8_contains 11 = .ok (.iload_n 3, 1) := by decide +kernel
theorem dX8_contains_12 : decode cX8_contains 12 = .ok (.if_icmp .ge 22, 3) := by decide +kernel
theorem dX8_contains_15 : decode cX8_contains 15 = .ok (.aload_n 0, 1) := by decide +kernel
theorem dX8_contains_16 : decode cX8_contains 16 = .ok (.iload_n 1, 1) := by decide +kernel
theorem dX8_contains_17 : decode cX8_contains 17 = .ok (.iload 4, 2) := by decide +kernel
theorem dX8_contains_19 : decode cX8_contains 19 = .ok (.invokevirtual 37, 3) := by decide +kernel
theorem dX8_contains_22 : decode cX8_contains 22 = .ok (.iload_n 2, 1) := by decide +kernel
theorem dX8_contains_23 : decode cX8_contains 23 = .ok (.if_icmp .ne 5, 3) := by decide +kernel
theorem dX8_contains_26 : decode cX8_contains 26 = .ok (.iconst 1, 1) := by decide +kernel
theorem dX8_contains_27 : decode cX8_contains 27 = .ok (.ireturn, 1) := by decide +kernel
theorem dX8_contains_28 : decode cX8_contains 28 = .ok (.iinc 4 1, 3) := by decide +kernel
theorem dX8_contains_31 : decode cX8_contains 31 = .ok (.goto (-22), 3) := by decide +kernel
theorem dX8_contains_34 : decode cX8_contains 34 = .ok (.iconst 0, 1) := by decide +kernel
theorem dX8_contains_35 : decode cX8_contains 35 = .ok (.ireturn, 1) := by decide +kernel
theorem dX8_addEvent_0 : decode cX8_addEvent 0 = .ok (.aload_n 0, 1) := by decide +kernel
theorem dX8_addEvent_1 : decode cX8_addEvent 1 = .ok (.getfield 21, 3) := by decide +kernel
theorem dX8_addEvent_4 : decode cX8_addEvent 4 = .ok (.bipush 40, 2) := by decide +kernel
theorem dX8_addEvent_6 : decode cX8_addEvent 6 = .ok (.if_icmp .lt 5, 3) := by decide +kernel
theorem dX8_addEvent_9 : decode cX8_addEvent 9 = .ok (.iconst 0, 1) := by decide +kernel
theorem dX8_addEvent_10 : decode cX8_addEvent 10 = .ok (.ireturn, 1) := by decide +kernel
theorem dX8_addEvent_11 : decode cX8_addEvent 11 = .ok (.aload_n 0, 1) := by decide +kernel
theorem dX8_addEvent_12 : decode cX8_addEvent 12 = .ok (.getfield 9, 3) := by decide +kernel
theorem dX8_addEvent_15 : decode cX8_addEvent 15 = .ok (.aload_n 0, 1) := by decide +kernel
theorem dX8_addEvent_16 : decode cX8_addEvent 16 = .ok (.getfield 21, 3) := by decide +kernel
theorem dX8_addEvent_19 : decode cX8_addEvent 19 = .ok (.iconst 0, 1) := by decide +kernel
theorem dX8_addEvent_20 : decode cX8_addEvent 20 = .ok (.iastore, 1) := by decide +kernel
theorem dX8_addEvent_21 : decode cX8_addEvent 21 = .ok (.aload_n 0, 1) := by decide +kernel
theorem dX8_addEvent_22 : decode cX8_addEvent 22 = .ok (.dup, 1) := by decide +kernel
theorem dX8_addEvent_23 : decode cX8_addEvent 23 = .ok (.getfield 21, 3) := by decide +kernel
theorem dX8_addEvent_26 : decode cX8_addEvent 26 = .ok (.iconst 1, 1) := by decide +kernel
theorem dX8_addEvent_27 : decode cX8_addEvent 27 = .ok (.iadd, 1) := by decide +kernel
theorem dX8_addEvent_28 : decode cX8_addEvent 28 = .ok (.putfield 21, 3) := by decide +kernel
theorem dX8_addEvent_31 : decode cX8_addEvent 31 = .ok (.iconst 1, 1) := by decide +kernel
theorem dX8_addEvent_32 : decode cX8_addEvent 32 = .ok (.ireturn, 1) := by decide +kernel
theorem dX8_addPitch_0 : decode cX8_addPitch 0 = .ok (.aload_n 0, 1) := by decide +kernel
theorem dX8_addPitch_1 : decode cX8_addPitch 1 = .ok (.getfield 21, 3) := by decide +kernel
theorem dX8_addPitch_4 : decode cX8_addPitch 4 = .ok (.iconst 1, 1) := by decide +kernel
theorem dX8_addPitch_5 : decode cX8_addPitch 5 = .ok (.isub, 1) := by decide +kernel
theorem dX8_addPitch_6 : decode cX8_addPitch 6 = .ok (.istore_n 3, 1) := by decide +kernel
theorem dX8_addPitch_7 : decode cX8_addPitch 7 = .ok (.iload_n 3, 1) := by decide +kernel
theorem dX8_addPitch_8 : decode cX8_addPitch 8 = .ok (.ifCond .lt 13, 3) := by decide +kernel
theorem dX8_addPitch_11 : decode cX8_addPitch 11 = .ok (.aload_n 0, 1) := by decide +kernel
theorem dX8_addPitch_12 : decode cX8_addPitch 12 = .ok (.getfield 9, 3) := by decide +kernel
theorem dX8_addPitch_15 : decode cX8_addPitch 15 = .ok (.iload_n 3, 1) := by decide +kernel
theorem dX8_addPitch_16 : decode cX8_addPitch 16 = .ok (.iaload, 1) := by decide +kernel
theorem dX8_addPitch_17 : decode cX8_addPitch 17 = .ok (.iconst 4, 1) := by decide +kernel
theorem dX8_addPitch_18 : decode cX8_addPitch 18 = .ok (.if_icmp .lt 5, 3) := by decide +kernel
theorem dX8_addPitch_21 : decode cX8_addPitch 21 = .ok (.iconst 0, 1) := by decide +kernel
theorem dX8_addPitch_22 : decode cX8_addPitch 22 = .ok (.ireturn, 1) := by decide +kernel
theorem dX8_addPitch_23 : decode cX8_addPitch 23 = .ok (.iload_n 3, 1) := by decide +kernel
theorem dX8_addPitch_24 : decode cX8_addPitch 24 = .ok (.iconst 4, 1) := by decide +kernel
theorem dX8_addPitch_25 : decode cX8_addPitch 25 = .ok (.imul, 1) := by decide +kernel
theorem dX8_addPitch_26 : decode cX8_addPitch 26 = .ok (.aload_n 0, 1) := by decide +kernel
theorem dX8_addPitch_27 : decode cX8_addPitch 27 = .ok (.getfield 9, 3) := by decide +kernel
theorem dX8_addPitch_30 : decode cX8_addPitch 30 = .ok (.iload_n 3, 1) := by decide +kernel
theorem dX8_addPitch_31 : decode cX8_addPitch 31 = .ok (.iaload, 1) := by decide +kernel
theorem dX8_addPitch_32 : decode cX8_addPitch 32 = .ok (.iadd, 1) := by decide +kernel
theorem dX8_addPitch_33 : decode cX8_addPitch 33 = .ok (.istore 4, 2) := by decide +kernel
theorem dX8_addPitch_35 : decode cX8_addPitch 35 = .ok (.aload_n 0, 1) := by decide +kernel
theorem dX8_addPitch_36 : decode cX8_addPitch 36 = .ok (.getfield 15, 3) := by decide +kernel
theorem dX8_addPitch_39 : decode cX8_addPitch 39 = .ok (.iload 4, 2) := by decide +kernel
theorem dX8_addPitch_41 : decode cX8_addPitch 41 = .ok (.iload_n 1, 1) := by decide +kernel
theorem dX8_addPitch_42 : decode cX8_addPitch 42 = .ok (.iastore, 1) := by decide +kernel
theorem dX8_addPitch_43 : decode cX8_addPitch 43 = .ok (.aload_n 0, 1) := by decide +kernel
theorem dX8_addPitch_44 : decode cX8_addPitch 44 = .ok (.getfield 18, 3) := by decide +kernel
theorem dX8_addPitch_47 : decode cX8_addPitch 47 = .ok (.iload 4, 2) := by decide +kernel
theorem dX8_addPitch_49 : decode cX8_addPitch 49 = .ok (.iload_n 2, 1) := by decide +kernel
theorem dX8_addPitch_50 : decode cX8_addPitch 50 = .ok (.iastore, 1) := by decide +kernel
theorem dX8_addPitch_51 : decode cX8_addPitch 51 = .ok (.aload_n 0, 1) := by decide +kernel
theorem dX8_addPitch_52 : decode cX8_addPitch 52 = .ok (.getfield 9, 3) := by decide +kernel
theorem dX8_addPitch_55 : decode cX8_addPitch 55 = .ok (.iload_n 3, 1) := by decide +kernel
theorem dX8_addPitch_56 : decode cX8_addPitch 56 = .ok (.dup2, 1) := by decide +kernel
theorem dX8_addPitch_57 : decode cX8_addPitch 57 = .ok (.iaload, 1) := by decide +kernel
theorem dX8_addPitch_58 : decode cX8_addPitch 58 = .ok (.iconst 1, 1) := by decide +kernel
theorem dX8_addPitch_59 : decode cX8_addPitch 59 = .ok (.iadd, 1) := by decide +kernel
theorem dX8_addPitch_60 : decode cX8_addPitch 60 = .ok (.iastore, 1) := by decide +kernel
theorem dX8_addPitch_61 : decode cX8_addPitch 61 = .ok (.iconst 1, 1) := by decide +kernel
theorem dX8_addPitch_62 : decode cX8_addPitch 62 = .ok (.ireturn, 1) := by decide +kernel
theorem dX9_init_0 : decode cX9_init 0 = .ok (.aload_n 0, 1) := by decide +kernel
theorem dX9_init_1 : decode cX9_init 1 = .ok (.invokespecial 3, 3) := by decide +kernel
theorem dX9_init_4 : decode cX9_init 4 = .ok (.aload_n 0, 1) := by decide +kernel
theorem dX9_init_5 : decode cX9_init 5 = .ok (.new 9, 3) := by decide +kernel
theorem dX9_init_8 : decode cX9_init 8 = .ok (.dup, 1) := by decide +kernel
theorem dX9_init_9 : decode cX9_init 9 = .ok (.invokespecial 11, 3) := by decide +kernel
theorem dX9_init_12 : decode cX9_init 12 = .ok (.putfield 12, 3) := by decide +kernel
theorem dX9_init_15 : decode cX9_init 15 = .ok (.aload_n 0, 1) := by decide +kernel
theorem dX9_init_16 : decode cX9_init 16 = .ok (.iconst 4, 1) := by decide +kernel
theorem dX9_init_17 : decode cX9_init 17 = .ok (.newarray .int, 2) := by decide +kernel
theorem dX9_init_19 : decode cX9_init 19 = .ok (.dup, 1) := by decide +kernel
theorem dX9_init_20 : decode cX9_init 20 = .ok (.iconst 0, 1) := by decide +kernel
theorem dX9_init_21 : decode cX9_init 21 = .ok (.iconst 1, 1) := by decide +kernel
theorem dX9_init_22 : decode cX9_init 22 = .ok (.iastore, 1) := by decide +kernel
theorem dX9_init_23 : decode cX9_init 23 = .ok (.dup, 1) := by decide +kernel
theorem dX9_init_24 : decode cX9_init 24 = .ok (.iconst 1, 1) := by decide +kernel
theorem dX9_init_25 : decode cX9_init 25 = .ok (.iconst 1, 1) := by decide +kernel
theorem dX9_init_26 : decode cX9_init 26 = .ok (.iastore, 1) := by decide +kernel
theorem dX9_init_27 : decode cX9_init 27 = .ok (.dup, 1) := by decide +kernel
theorem dX9_init_28 : decode cX9_init 28 = .ok (.iconst 2, 1) := by decide +kernel
theorem dX9_init_29 : decode cX9_init 29 = .ok (.iconst 1, 1) := by decide +kernel
theorem dX9_init_30 : decode cX9_init 30 = .ok (.iastore, 1) := by decide +kernel
theorem dX9_init_31 : decode cX9_init 31 = .ok (.dup, 1) := by decide +kernel
theorem dX9_init_32 : decode cX9_init 32 = .ok (.iconst 3, 1) := by decide +kernel
theorem dX9_init_33 : decode cX9_init 33 = .ok (.iconst 1, 1) := by decide +kernel
theorem dX9_init_34 : decode cX9_init 34 = .ok (.iastore, 1) := by decide +kernel
theorem dX9_init_35 : decode cX9_init 35 = .ok (.putfield 16, 3) := by decide +kernel
theorem dX9_init_38 : decode cX9_init 38 = .ok (.aload_n 0, 1) := by decide +kernel
theorem dX9_init_39 : decode cX9_init 39 = .ok (.new 20, 3) := by decide +kernel
theorem dX9_init_42 : decode cX9_init 42 = .ok (.dup, 1) := by decide +kernel
theorem dX9_init_43 : decode cX9_init 43 = .ok (.invokespecial 22, 3) := by decide +kernel
theorem dX9_init_46 : decode cX9_init 46 = .ok (.putfield 23, 3) := by decide +kernel
theorem dX9_init_49 : decode cX9_init 49 = .ok (.aload_n 0, 1) := by decide +kernel
theorem dX9_init_50 : decode cX9_init 50 = .ok (.new 27, 3) := by decide +kernel
theorem dX9_init_53 : decode cX9_init 53 = .ok (.dup, 1) := by decide +kernel
theorem dX9_init_54 : decode cX9_init 54 = .ok (.invokespecial 29, 3) := by decide +kernel
theorem dX9_init_57 : decode cX9_init 57 = .ok (.putfield 30, 3) := by decide +kernel
theorem dX9_init_60 : decode cX9_init 60 = .ok (.aload_n 0, 1) := by decide +kernel
theorem dX9_init_61 : decode cX9_init 61 = .ok (.new 34, 3) := by decide +kernel
theorem dX9_init_64 : decode cX9_init 64 = .ok (.dup, 1) := by decide +kernel
theorem dX9_init_65 : decode cX9_init 65 = .ok (.aload_n 0, 1) := by decide +kernel
theorem dX9_init_66 : decode cX9_init 66 = .ok (.getfield 12, 3) := by decide +kernel
theorem dX9_init_69 : decode cX9_init 69 = .ok (.aload_n 0, 1) := by decide +kernel
theorem dX9_init_70 : decode cX9_init 70 = .ok (.getfield 16, 3) := by decide +kernel
theorem dX9_init_73 : decode cX9_init 73 = .ok (.aload_n 0, 1) := by decide +kernel
theorem dX9_init_74 : decode cX9_init 74 = .ok (.getfield 23, 3) := by decide +kernel
theorem dX9_init_77 : decode cX9_init 77 = .ok (.invokespecial 36, 3) := by decide +kernel
theorem dX9_init_80 : decode cX9_init 80 = .ok (.putfield 39, 3) := by decide +kernel
theorem dX9_init_83 : decode cX9_init 83 = .ok (.aload_n 0, 1) := by decide +kernel
theorem dX9_init_84 : decode cX9_init 84 = .ok (.new 43, 3) := by decide +kernel
theorem dX9_init_87 : decode cX9_init 87 = .ok (.dup, 1) := by decide +kernel
theorem dX9_init_88 : decode cX9_init 88 = .ok (.aload_n 0, 1) := by decide +kernel
theorem dX9_init_89 : decode cX9_init 89 = .ok (.getfield 12, 3) := by decide +kernel
theorem dX9_init_92 : decode cX9_init 92 = .ok (.aload_n 0, 1) := by decide +kernel
theorem dX9_init_93 : decode cX9_init 93 = .ok (.getfield 16, 3) := by decide +kernel
theorem dX9_init_96 : decode cX9_init 96 = .ok (.aload_n 0, 1) := by decide +kernel
theorem dX9_init_97 : decode cX9_init 97 = .ok (.getfield 23, 3) := by decide +kernel
theorem dX9_init_100 : decode cX9_init 100 = .ok (.aload_n 0, 1) := by decide +kernel
theorem dX9_init_101 : decode cX9_init 101 = .ok (.getfield 39, 3) := by decide +kernel
theorem dX9_init_104 : decode cX9_init 104 = .ok (.invokespecial 45, 3) := by decide +kernel
theorem dX9_init_107 : decode cX9_init 107 = .ok (.putfield 48, 3) := by decide +kernel
theorem dX9_init_110 : decode cX9_init 110 = .ok (.aload_n 0, 1) := by decide +kernel
theorem dX9_init_111 : decode cX9_init 111 = .ok (.new 52, 3) := by decide +kernel
theorem dX9_init_114 : decode cX9_init 114 = .ok (.dup, 1) := by decide +kernel
theorem dX9_init_115 : decode cX9_init 115 = .ok (.invokespecial 54, 3) := by decide +kernel
theorem dX9_init_118 : decode cX9_init 118 = .ok (.putfield 55, 3) := by decide +kernel
theorem dX9_init_121 : decode cX9_init 121 = .ok (.aload_n 0, 1) := by decide +kernel
theorem dX9_init_122 : decode cX9_init 122 = .ok (.new 59, 3) := by decide +kernel
theorem dX9_init_125 : decode cX9_init 125 = .ok (.dup, 1) := by decide +kernel
theorem dX9_init_126 : decode cX9_init 126 = .ok (.aload_n 0, 1) := by decide +kernel
theorem dX9_init_127 : decode cX9_init 127 = .ok (.getfield 12, 3) := by decide +kernel
theorem dX9_init_130 : decode cX9_init 130 = .ok (.aload_n 0, 1) := by decide +kernel
theorem dX9_init_131 : decode cX9_init 131 = .ok (.getfield 23, 3) := by decide +kernel
theorem dX9_init_134 : decode cX9_init 134 = .ok (.aload_n 0, 1) := by decide +kernel
theorem dX9_init_135 : decode cX9_init 135 = .ok (.getfield 30, 3) := by decide +kernel
theorem dX9_init_138 : decode cX9_init 138 = .ok (.aload_n 0, 1) := by decide +kernel
theorem dX9_init_139 : decode cX9_init 139 = .ok (.getfield 55, 3) := by decide +kernel
theorem dX9_init_142 : decode cX9_init 142 = .ok (.invokespecial 61, 3) := by decide +kernel
theorem dX9_init_145 : decode cX9_init 145 = .ok (.putfield 64, 3) := by decide +kernel
theorem dX9_init_148 : decode cX9_init 148 = .ok (.aload_n 0, 1) := by decide +kernel
theorem dX9_init_149 : decode cX9_init 149 = .ok (.new 68, 3) := by decide +kernel
theorem dX9_init_152 : decode cX9_init 152 = .ok (.dup, 1) := by decide +kernel
theorem dX9_init_153 : decode cX9_init 153 = .ok (.aload_n 0, 1) := by decide +kernel
theorem dX9_init_154 : decode cX9_init 154 = .ok (.getfield 12, 3) := by decide +kernel
theorem dX9_init_157 : decode cX9_init 157 = .ok (.aload_n 0, 1) := by decide +kernel
theorem dX9_init_158 : decode cX9_init 158 = .ok (.getfield 23, 3) := by decide +kernel
theorem dX9_init_161 : decode cX9_init 161 = .ok (.aload_n 0, 1) := by decide +kernel
theorem dX9_init_162 : decode cX9_init 162 = .ok (.getfield 55, 3) := by decide +kernel
theorem dX9_init_165 : decode cX9_init 165 = .ok (.invokespecial 70, 3) := by decide +kernel
theorem dX9_init_168 : decode cX9_init 168 = .ok (.putfield 73, 3) := by decide +kernel
theorem dX9_init_171 : decode cX9_init 171 = .ok (.return_, 1) := by decide +kernel
theorem dX9_string_0 : decode cX9_string 0 = .ok (.iload_n 1, 1) := by decide +kernel
theorem dX9_string_1 : decode cX9_string 1 = .ok (.ifCond .lt 9, 3) := by decide +kernel
theorem dX9_string_4 : decode cX9_string 4 = .ok (.iload_n 1, 1) := by decide +kernel
theorem dX9_string_5 : decode cX9_string 5 = .ok (.bipush 99, 2) := by decide +kernel
theorem dX9_string_7 : decode cX9_string 7 = .ok (.if_icmp .le 6, 3) := by decide +kernel
theorem dX9_string_10 : decode cX9_string 10 = .ok (.bipush (-2), 2) := by decide +kernel
theorem dX9_string_12 : decode cX9_string 12 = .ok (.ireturn, 1) := by decide +kernel
theorem dX9_string_13 : decode cX9_string 13 = .ok (.aload_n 0, 1) := by decide +kernel
theorem dX9_string_14 : decode cX9_string 14 = .ok (.getfield 23, 3) := by decide +kernel
theorem dX9_string_17 : decode cX9_string 17 = .ok (.getfield 77, 3) := by decide +kernel
theorem dX9_string_20 : decode cX9_string 20 = .ok (.ifCond .le 6, 3) := by decide +kernel
theorem dX9_string_23 : decode cX9_string 23 = .ok (.bipush (-4), 2) := by decide +kernel
theorem dX9_string_25 : decode cX9_string 25 = .ok (.ireturn, 1) := by decide +kernel
theorem dX9_string_26 : decode cX9_string 26 = .ok (.aload_n 0, 1) := by decide +kernel
theorem dX9_string_27 : decode cX9_string 27 = .ok (.getfield 12, 3) := by decide +kernel
theorem dX9_string_30 : decode cX9_string 30 = .ok (.iload_n 1, 1) := by decide +kernel
theorem dX9_string_31 : decode cX9_string 31 = .ok (.invokevirtual 81, 3) := by decide +kernel
theorem dX9_string_34 : decode cX9_string 34 = .ok (.ifCond .ne 6, 3) := by decide +kernel
theorem dX9_string_37 : decode cX9_string 37 = .ok (.bipush (-5), 2) := by decide +kernel
theorem dX9_string_39 : decode cX9_string 39 = .ok (.ireturn, 1) := by decide +kernel
theorem dX9_string_40 : decode cX9_string 40 = .ok (.aload_n 0, 1) := by decide +kernel
theorem dX9_string_41 : decode cX9_string 41 = .ok (.getfield 30, 3) := by decide +kernel
theorem dX9_string_44 : decode cX9_string 44 = .ok (.invokevirtual 85, 3) := by decide +kernel
theorem dX9_string_47 : decode cX9_string 47 = .ok (.aload_n 0, 1) := by decide +kernel
theorem dX9_string_48 : decode cX9_string 48 = .ok (.getfield 12, 3) := by decide +kernel
theorem dX9_string_51 : decode cX9_string 51 = .ok (.getfield 88, 3) := by decide +kernel
theorem dX9_string_54 : decode cX9_string 54 = .ok (.ireturn, 1) := by decide +kernel
theorem dX9_clear_0 : decode cX9_clear 0 = .ok (.aload_n 0, 1) := by decide +kernel
theorem dX9_clear_1 : decode cX9_clear 1 = .ok (.getfield 23, 3) := by decide +kernel
theorem dX9_clear_4 : decode cX9_clear 4 = .ok (.getfield 77, 3) := by decide +kernel
theorem dX9_clear_7 : decode cX9_clear 7 = .ok (.istore_n 1, 1) := by decide +kernel
theorem dX9_clear_8 : decode cX9_clear 8 = .ok (.aload_n 0, 1) := by decide +kernel
theorem dX9_clear_9 : decode cX9_clear 9 = .ok (.getfield 12, 3) := by decide +kernel
theorem dX9_clear_12 : decode cX9_clear 12 = .ok (.iconst 0, 1) := by decide +kernel
theorem dX9_clear_13 : decode cX9_clear 13 = .ok (.putfield 88, 3) := by decide +kernel
theorem dX9_clear_16 : decode cX9_clear 16 = .ok (.aload_n 0, 1) := by decide +kernel
theorem dX9_clear_17 : decode cX9_clear 17 = .ok (.getfield 23, 3) := by decide +kernel
theorem dX9_clear_20 : decode cX9_clear 20 = .ok (.iconst 0, 1) := by decide +kernel
theorem dX9_clear_21 : decode cX9_clear 21 = .ok (.putfield 77, 3) := by decide +kernel
theorem dX9_clear_24 : decode cX9_clear 24 = .ok (.aload_n 0, 1) := by decide +kernel
theorem dX9_clear_25 : decode cX9_clear 25 = .ok (.getfield 30, 3) := by decide +kernel
theorem dX9_clear_28 : decode cX9_clear 28 = .ok (.invokevirtual 85, 3) := by decide +kernel
theorem dX9_clear_31 : decode cX9_clear 31 = .ok (.iload_n 1, 1) := by decide +kernel
theorem dX9_clear_32 : decode cX9_clear 32 = .ok (.ireturn, 1) := by decide +kernel
theorem dX9_neck_0 : decode cX9_neck 0 = .ok (.iload_n 1, 1) := by decide +kernel
theorem dX9_neck_1 : decode cX9_neck 1 = .ok (.iconst 1, 1) := by decide +kernel
theorem dX9_neck_2 : decode cX9_neck 2 = .ok (.if_icmp .lt 20, 3) := by decide +kernel
theorem dX9_neck_5 : decode cX9_neck 5 = .ok (.iload_n 1, 1) := by decide +kernel
theorem dX9_neck_6 : decode cX9_neck 6 = .ok (.bipush 24, 2) := by decide +kernel
theorem dX9_neck_8 : decode cX9_neck 8 = .ok (.if_icmp .gt 14, 3) := by decide +kernel
theorem dX9_neck_11 : decode cX9_neck 11 = .ok (.iload_n 1, 1) := by decide +kernel
theorem dX9_neck_12 : decode cX9_neck 12 = .ok (.aload_n 0, 1) := by decide +kernel
theorem dX9_neck_13 : decode cX9_neck 13 = .ok (.getfield 12, 3) := by decide +kernel
theorem dX9_neck_16 : decode cX9_neck 16 = .ok (.getfield 91, 3) := by decide +kernel
theorem dX9_neck_19 : decode cX9_neck 19 = .ok (.if_icmp .gt 6, 3) := by decide +kernel
theorem dX9_neck_22 : decode cX9_neck 22 = .ok (.bipush (-2), 2) := by decide +kernel
theorem dX9_neck_24 : decode cX9_neck 24 = .ok (.ireturn, 1) := by decide +kernel
theorem dX9_neck_25 : decode cX9_neck 25 = .ok (.aload_n 0, 1) := by decide +kernel
theorem dX9_neck_26 : decode cX9_neck 26 = .ok (.getfield 12, 3) := by decide +kernel
theorem dX9_neck_29 : decode cX9_neck 29 = .ok (.getfield 94, 3) := by decide +kernel
theorem dX9_neck_32 : decode cX9_neck 32 = .ok (.istore_n 2, 1) := by decide +kernel
theorem dX9_neck_33 : decode cX9_neck 33 = .ok (.aload_n 0, 1) := by decide +kernel
theorem dX9_neck_34 : decode cX9_neck 34 = .ok (.getfield 12, 3) := by decide +kernel
theorem dX9_neck_37 : decode cX9_neck 37 = .ok (.iload_n 1, 1) := by decide +kernel
theorem dX9_neck_38 : decode cX9_neck 38 = .ok (.putfield 94, 3) := by decide +kernel
theorem dX9_neck_41 : decode cX9_neck 41 = .ok (.aload_n 0, 1) := by decide +kernel
theorem dX9_neck_42 : decode cX9_neck 42 = .ok (.getfield 30, 3) := by decide +kernel
theorem dX9_neck_45 : decode cX9_neck 45 = .ok (.invokevirtual 85, 3) := by decide +kernel
theorem dX9_neck_48 : decode cX9_neck 48 = .ok (.iload_n 2, 1) := by decide +kernel
theorem dX9_neck_49 : decode cX9_neck 49 = .ok (.ireturn, 1) := by decide +kernel
theorem dX9_capo_0 : decode cX9_capo 0 = .ok (.iload_n 1, 1) := by decide +kernel
theorem dX9_capo_1 : decode cX9_capo 1 = .ok (.ifCond .lt 14, 3) := by decide +kernel
theorem dX9_capo_4 : decode cX9_capo 4 = .ok (.iload_n 1, 1) := by decide +kernel
theorem dX9_capo_5 : decode cX9_capo 5 = .ok (.aload_n 0, 1) := by decide +kernel
theorem dX9_capo_6 : decode cX9_capo 6 = .ok (.getfield 12, 3) := by decide +kernel
theorem dX9_capo_9 : decode cX9_capo 9 = .ok (.getfield 94, 3) := by decide +kernel
theorem dX9_capo_12 : decode cX9_capo 12 = .ok (.if_icmp .lt 6, 3) := by decide +kernel
theorem dX9_capo_15 : decode cX9_capo 15 = .ok (.bipush (-2), 2) := by decide +kernel
theorem dX9_capo_17 : decode cX9_capo 17 = .ok (.ireturn, 1) := by decide +kernel
theorem dX9_capo_18 : decode cX9_capo 18 = .ok (.aload_n 0, 1) := by decide +kernel
theorem dX9_capo_19 : decode cX9_capo 19 = .ok (.getfield 12, 3) := by decide +kernel
theorem dX9_capo_22 : decode cX9_capo 22 = .ok (.getfield 91, 3) := by decide +kernel
theorem dX9_capo_25 : decode cX9_capo 25 = .ok (.istore_n 2, 1) := by decide +kernel
theorem dX9_capo_26 : decode cX9_capo 26 = .ok (.aload_n 0, 1) := by decide +kernel
theorem dX9_capo_27 : decode cX9_capo 27 = .ok (.getfield 12, 3) := by decide +kernel
theorem dX9_capo_30 : decode cX9_capo 30 = .ok (.iload_n 1, 1) := by decide +kernel
theorem dX9_capo_31 : decode cX9_capo 31 = .ok (.putfield 91, 3) := by decide +kernel
theorem dX9_capo_34 : decode cX9_capo 34 = .ok (.aload_n 0, 1) := by decide +kernel
theorem dX9_capo_35 : decode cX9_capo 35 = .ok (.getfield 30, 3) := by decide +kernel
theorem dX9_capo_38 : decode cX9_capo 38 = .ok (.invokevirtual 85, 3) := by decide +kernel
theorem dX9_capo_41 : decode cX9_capo 41 = .ok (.iload_n 2, 1) := by decide +kernel
theorem dX9_capo_42 : decode cX9_capo 42 = .ok (.ireturn, 1) := by decide +kernel
theorem dX9_weight_0 : decode cX9_weight 0 = .ok (.iload_n 1, 1) := by decide +kernel
theorem dX9_weight_1 : decode cX9_weight 1 = .ok (.ifCond .lt 18, 3) := by decide +kernel
theorem dX9_weight_4 : decode cX9_weight 4 = .ok (.iload_n 1, 1) := by decide +kernel
theorem dX9_weight_5 : decode cX9_weight 5 = .ok (.iconst 4, 1) := by decide +kernel
theorem dX9_weight_6 : decode cX9_weight 6 = .ok (.if_icmp .ge 13, 3) := by decide +kernel
theorem dX9_weight_9 : decode cX9_weight 9 = .ok (.iload_n 2, 1) := by decide +kernel
theorem dX9_weight_10 : decode cX9_weight 10 = .ok (.ifCond .lt 9, 3) := by decide +kernel
theorem dX9_weight_13 : decode cX9_weight 13 = .ok (.iload_n 2, 1) := by decide +kernel
theorem dX9_weight_14 : decode cX9_weight 14 = .ok (.bipush 20, 2) := by decide +kernel
theorem dX9_weight_16 : decode cX9_weight 16 = .ok (.if_icmp .le 6, 3) := by decide +kernel
theorem dX9_weight_19 : decode cX9_weight 19 = .ok (.bipush (-2), 2) := by decide +kernel
theorem dX9_weight_21 : decode cX9_weight 21 = .ok (.ireturn, 1) := by decide +kernel
theorem dX9_weight_22 : decode cX9_weight 22 = .ok (.aload_n 0, 1) := by decide +kernel
theorem dX9_weight_23 : decode cX9_weight 23 = .ok (.getfield 16, 3) := by decide +kernel
theorem dX9_weight_26 : decode cX9_weight 26 = .ok (.iload_n 1, 1) := by decide +kernel
theorem dX9_weight_27 : decode cX9_weight 27 = .ok (.iaload, 1) := by decide +kernel
theorem dX9_weight_28 : decode cX9_weight 28 = .ok (.istore_n 3, 1) := by decide +kernel
theorem dX9_weight_29 : decode cX9_weight 29 = .ok (.aload_n 0, 1) := by decide +kernel
theorem dX9_weight_30 : decode cX9_weight 30 = .ok (.getfield 16, 3) := by decide +kernel
theorem dX9_weight_33 : decode cX9_weight 33 = .ok (.iload_n 1, 1) := by decide +kernel
theorem dX9_weight_34 : decode cX9_weight 34 = .ok (.iload_n 2, 1) := by decide +kernel
theorem dX9_weight_35 : decode cX9_weight 35 = .ok (.iastore, 1) := by decide +kernel
theorem dX9_weight_36 : decode cX9_weight 36 = .ok (.aload_n 0, 1) := by decide +kernel
theorem dX9_weight_37 : decode cX9_weight 37 = .ok (.getfield 30, 3) := by decide +kernel
theorem dX9_weight_40 : decode cX9_weight 40 = .ok (.invokevirtual 85, 3) := by decide +kernel
theorem dX9_weight_43 : decode cX9_weight 43 = .ok (.iload_n 3, 1) := by decide +kernel
theorem dX9_weight_44 : decode cX9_weight 44 = .ok (.ireturn, 1) := by decide +kernel
theorem dX9_event_0 : decode cX9_event 0 = .ok (.iload_n 1, 1) := by decide +kernel
theorem dX9_event_1 : decode cX9_event 1 = .ok (.invokestatic 97, 3) := by decide +kernel
theorem dX9_event_4 : decode cX9_event 4 = .ok (.ifCond .ne 6, 3) := by decide +kernel
theorem dX9_event_7 : decode cX9_event 7 = .ok (.bipush (-2), 2) := by decide +kernel
theorem dX9_event_9 : decode cX9_event 9 = .ok (.ireturn, 1) := by decide +kernel
theorem dX9_event_10 : decode cX9_event 10 = .ok (.aload_n 0, 1) := by decide +kernel
theorem dX9_event_11 : decode cX9_event 11 = .ok (.getfield 23, 3) := by decide +kernel
theorem dX9_event_14 : decode cX9_event 14 = .ok (.invokevirtual 100, 3) := by decide +kernel
theorem dX9_event_17 : decode cX9_event 17 = .ok (.ifCond .ne 6, 3) := by decide +kernel
theorem dX9_event_20 : decode cX9_event 20 = .ok (.bipush (-5), 2) := by decide +kernel
theorem dX9_event_22 : decode cX9_event 22 = .ok (.ireturn, 1) := by decide +kernel
theorem dX9_event_23 : decode cX9_event 23 = .ok (.aload_n 0, 1) := by decide +kernel
theorem dX9_event_24 : decode cX9_event 24 = .ok (.getfield 23, 3) := by decide +kernel
theorem dX9_event_27 : decode cX9_event 27 = .ok (.iload_n 1, 1) := by decide +kernel
theorem dX9_event_28 : decode cX9_event 28 = .ok (.iconst (-1), 1) := by decide +kernel
theorem dX9_event_29 : decode cX9_event 29 = .ok (.invokevirtual 104, 3) := by decide +kernel
theorem dX9_event_32 : decode cX9_event 32 = .ok (.pop, 1) := by decide +kernel
theorem dX9_event_33 : decode cX9_event 33 = .ok (.aload_n 0, 1) := by decide +kernel
theorem dX9_event_34 : decode cX9_event 34 = .ok (.getfield 30, 3) := by decide +kernel
theorem dX9_event_37 : decode cX9_event 37 = .ok (.invokevirtual 85, 3) := by decide +kernel
theorem dX9_event_40 : decode cX9_event 40 = .ok (.aload_n 0, 1) := by decide +kernel
theorem dX9_event_41 : decode cX9_event 41 = .ok (.getfield 23, 3) := by decide +kernel
theorem dX9_event_44 : decode cX9_event 44 = .ok (.getfield 77, 3) := by decide +kernel
theorem dX9_event_47 : decode cX9_event 47 = .ok (.iconst 1, 1) := by decide +kernel
theorem dX9_event_48 : decode cX9_event 48 = .ok (.isub, 1) := by decide +kernel
theorem dX9_event_49 : decode cX9_event 49 = .ok (.ireturn, 1) := by decide +kernel
theorem dX9_pitch_0 : decode cX9_pitch 0 = .ok (.aload_n 0, 1) := by decide +kernel
theorem dX9_pitch_1 : decode cX9_pitch 1 = .ok (.getfield 23, 3) := by decide +kernel
theorem dX9_pitch_4 : decode cX9_pitch 4 = .ok (.getfield 77, 3) := by decide +kernel
theorem dX9_pitch_7 : decode cX9_pitch 7 = .ok (.iconst 1, 1) := by decide +kernel
theorem dX9_pitch_8 : decode cX9_pitch 8 = .ok (.isub, 1) := by decide +kernel
theorem dX9_pitch_9 : decode cX9_pitch 9 = .ok (.istore_n 2, 1) := by decide +kernel
theorem dX9_pitch_10 : decode cX9_pitch 10 = .ok (.iload_n 1, 1) := by decide +kernel
theorem dX9_pitch_11 : decode cX9_pitch 11 = .ok (.invokestatic 97, 3) := by decide +kernel
theorem dX9_pitch_14 : decode cX9_pitch 14 = .ok (.ifCond .eq 15, 3) := by decide +kernel
theorem dX9_pitch_17 : decode cX9_pitch 17 = .ok (.aload_n 0, 1) := by decide +kernel
theorem dX9_pitch_18 : decode cX9_pitch 18 = .ok (.getfield 23, 3) := by decide +kernel
theorem dX9_pitch_21 : decode cX9_pitch 21 = .ok (.iload_n 2, 1) := by decide +kernel
theorem dX9_pitch_22 : decode cX9_pitch 22 = .ok (.iload_n 1, 1) := by decide +kernel
theorem dX9_pitch_23 : decode cX9_pitch 23 = .ok (.invokevirtual 108, 3) := by decide +kernel
theorem dX9_pitch_26 : decode cX9_pitch 26 = .ok (.ifCond .eq 6, 3) := by decide +kernel
theorem dX9_pitch_29 : decode cX9_pitch 29 = .ok (.bipush (-2), 2) := by decide +kernel
theorem dX9_pitch_31 : decode cX9_pitch 31 = .ok (.ireturn, 1) := by decide +kernel
theorem dX9_pitch_32 : decode cX9_pitch 32 = .ok (.iload_n 2, 1) := by decide +kernel
theorem dX9_pitch_33 : decode cX9_pitch 33 = .ok (.ifCond .ge 6, 3) := by decide +kernel
theorem dX9_pitch_36 : decode cX9_pitch 36 = .ok (.bipush (-4), 2) := by decide +kernel
theorem dX9_pitch_38 : decode cX9_pitch 38 = .ok (.ireturn, 1) := by decide +kernel
theorem dX9_pitch_39 : decode cX9_pitch 39 = .ok (.aload_n 0, 1) := by decide +kernel
theorem dX9_pitch_40 : decode cX9_pitch 40 = .ok (.getfield 23, 3) := by decide +kernel
theorem dX9_pitch_43 : decode cX9_pitch 43 = .ok (.iload_n 1, 1) := by decide +kernel
theorem dX9_pitch_44 : decode cX9_pitch 44 = .ok (.iconst (-1), 1) := by decide +kernel
theorem dX9_pitch_45 : decode cX9_pitch 45 = .ok (.invokevirtual 104, 3) := by decide +kernel
theorem dX9_pitch_48 : decode cX9_pitch 48 = .ok (.ifCond .ne 6, 3) := by decide +kernel
theorem dX9_pitch_51 : decode cX9_pitch 51 = .ok (.bipush (-5), 2) := by decide +kernel
theorem dX9_pitch_53 : decode cX9_pitch 53 = .ok (.ireturn, 1) := by decide +kernel
theorem dX9_pitch_54 : decode cX9_pitch 54 = .ok (.aload_n 0, 1) := by decide +kernel
theorem dX9_pitch_55 : decode cX9_pitch 55 = .ok (.getfield 30, 3) := by decide +kernel
theorem dX9_pitch_58 : decode cX9_pitch 58 = .ok (.invokevirtual 85, 3) := by decide +kernel
theorem dX9_pitch_61 : decode cX9_pitch 61 = .ok (.aload_n 0, 1) := by decide +kernel
theorem dX9_pitch_62 : decode cX9_pitch 62 = .ok (.getfield 23, 3) := by decide +kernel
theorem dX9_pitch_65 : decode cX9_pitch 65 = .ok (.iload_n 2, 1) := by decide +kernel
theorem dX9_pitch_66 : decode cX9_pitch 66 = .ok (.invokevirtual 111, 3) := by decide +kernel
theorem dX9_pitch_69 : decode cX9_pitch 69 = .ok (.ireturn, 1) := by decide +kernel
theorem dX9_bind_0 : decode cX9_bind 0 = .ok (.aload_n 0, 1) := by decide +kernel
theorem dX9_bind_1 : decode cX9_bind 1 = .ok (.getfield 23, 3) := by decide +kernel
theorem dX9_bind_4 : decode cX9_bind 4 = .ok (.iload_n 1, 1) := by decide +kernel
theorem dX9_bind_5 : decode cX9_bind 5 = .ok (.invokevirtual 115, 3) := by decide +kernel
theorem dX9_bind_8 : decode cX9_bind 8 = .ok (.ifCond .ne 6, 3) := by decide +kernel
theorem dX9_bind_11 : decode cX9_bind 11 = .ok (.bipush (-3), 2) := by decide +kernel
theorem dX9_bind_13 : decode cX9_bind 13 = .ok (.ireturn, 1) := by decide +kernel
theorem dX9_bind_14 : decode cX9_bind 14 = .ok (.aload_n 0, 1) := by decide +kernel
theorem dX9_bind_15 : decode cX9_bind 15 = .ok (.getfield 23, 3) := by decide +kernel
theorem dX9_bind_18 : decode cX9_bind 18 = .ok (.iload_n 1, 1) := by decide +kernel
theorem dX9_bind_19 : decode cX9_bind 19 = .ok (.iload_n 2, 1) := by decide +kernel
theorem dX9_bind_20 : decode cX9_bind 20 = .ok (.invokevirtual 118, 3) := by decide +kernel
theorem dX9_bind_23 : decode cX9_bind 23 = .ok (.ifCond .eq 19, 3) := by decide +kernel
theorem dX9_bind_26 : decode cX9_bind 26 = .ok (.iload_n 3, 1) := by decide +kernel
theorem dX9_bind_27 : decode cX9_bind 27 = .ok (.iconst (-1), 1) := by decide +kernel
theorem dX9_bind_28 : decode cX9_bind 28 = .ok (.if_icmp .eq 17, 3) := by decide +kernel
theorem dX9_bind_31 : decode cX9_bind 31 = .ok (.aload_n 0, 1) := by decide +kernel
theorem dX9_bind_32 : decode cX9_bind 32 = .ok (.getfield 12, 3) := by decide +kernel
theorem dX9_bind_35 : decode cX9_bind 35 = .ok (.iload_n 3, 1) := by decide +kernel
theorem dX9_bind_36 : decode cX9_bind 36 = .ok (.invokevirtual 121, 3) := by decide +kernel
theorem dX9_bind_39 : decode cX9_bind 39 = .ok (.ifCond .ne 6, 3) := by decide +kernel
theorem dX9_bind_42 : decode cX9_bind 42 = .ok (.bipush (-2), 2) := by decide +kernel
theorem dX9_bind_44 : decode cX9_bind 44 = .ok (.ireturn, 1) := by decide +kernel
theorem dX9_bind_45 : decode cX9_bind 45 = .ok (.aload_n 0, 1) := by decide +kernel
theorem dX9_bind_46 : decode cX9_bind 46 = .ok (.getfield 23, 3) := by decide +kernel
theorem dX9_bind_49 : decode cX9_bind 49 = .ok (.iload_n 1, 1) := by decide +kernel
theorem dX9_bind_50 : decode cX9_bind 50 = .ok (.iload_n 2, 1) := by decide +kernel
theorem dX9_bind_51 : decode cX9_bind 51 = .ok (.invokevirtual 124, 3) := by decide +kernel
theorem dX9_bind_54 : decode cX9_bind 54 = .ok (.istore 4, 2) := by decide +kernel
theorem dX9_bind_56 : decode cX9_bind 56 = .ok (.aload_n 0, 1) := by decide +kernel
theorem dX9_bind_57 : decode cX9_bind 57 = .ok (.getfield 23, 3) := by decide +kernel
theorem dX9_bind_60 : decode cX9_bind 60 = .ok (.iload_n 1, 1) := by decide +kernel
theorem dX9_bind_61 : decode cX9_bind 61 = .ok (.iload_n 2, 1) := by decide +kernel
theorem dX9_bind_62 : decode cX9_bind 62 = .ok (.iload_n 3, 1) := by decide +kernel
theorem dX9_bind_63 : decode cX9_bind 63 = .ok (.invokevirtual 128, 3) := by decide +kernel
theorem dX9_bind_66 : decode cX9_bind 66 = .ok (.aload_n 0, 1) := by decide +kernel
theorem dX9_bind_67 : decode cX9_bind 67 = .ok (.getfield 30, 3) := by decide +kernel
theorem dX9_bind_70 : decode cX9_bind 70 = .ok (.invokevirtual 85, 3) := by decide +kernel
theorem dX9_bind_73 : decode cX9_bind 73 = .ok (.iload 4, 2) := by decide +kernel
theorem dX9_bind_75 : decode cX9_bind 75 = .ok (.ireturn, 1) := by decide +kernel
theorem dX9_drop_0 : decode cX9_drop 0 = .ok (.aload_n 0, 1) := by decide +kernel
theorem dX9_drop_1 : decode cX9_drop 1 = .ok (.getfield 23, 3) := by decide +kernel
theorem dX9_drop_4 : decode cX9_drop 4 = .ok (.getfield 77, 3) := by decide +kernel
theorem dX9_drop_7 : decode cX9_drop 7 = .ok (.ifCond .ne 6, 3) := by decide +kernel
theorem dX9_drop_10 : decode cX9_drop 10 = .ok (.bipush (-4), 2) := by decide +kernel
theorem dX9_drop_12 : decode cX9_drop 12 = .ok (.ireturn, 1) := by decide +kernel
theorem dX9_drop_13 : decode cX9_drop 13 = .ok (.aload_n 0, 1) := by decide +kernel
theorem dX9_drop_14 : decode cX9_drop 14 = .ok (.getfield 23, 3) := by decide +kernel
theorem dX9_drop_17 : decode cX9_drop 17 = .ok (.dup, 1) := by decide +kernel
theorem dX9_drop_18 : decode cX9_drop 18 = .ok (.getfield 77, 3) := by decide +kernel
theorem dX9_drop_21 : decode cX9_drop 21 = .ok (.iconst 1, 1) := by decide +kernel
theorem dX9_drop_22 : decode cX9_drop 22 = .ok (.isub, 1) := by decide +kernel
theorem dX9_drop_23 : decode cX9_drop 23 = .ok (.putfield 77, 3) := by decide +kernel
theorem dX9_drop_26 : decode cX9_drop 26 = .ok (.aload_n 0, 1) := by decide +kernel
theorem dX9_drop_27 : decode cX9_drop 27 = .ok (.getfield 30, 3) := by decide +kernel
theorem dX9_drop_30 : decode cX9_drop 30 = .ok (.invokevirtual 85, 3) := by decide +kernel
theorem dX9_drop_33 : decode cX9_drop 33 = .ok (.aload_n 0, 1) := by decide +kernel
theorem dX9_drop_34 : decode cX9_drop 34 = .ok (.getfield 23, 3) := by decide +kernel
theorem dX9_drop_37 : decode cX9_drop 37 = .ok (.getfield 77, 3) := by decide +kernel
theorem dX9_drop_40 : decode cX9_drop 40 = .ok (.ireturn, 1) := by decide +kernel
theorem dX9_told_0 : decode cX9_told 0 = .ok (.iload_n 1, 1) := by decide +kernel
theorem dX9_told_1 : decode cX9_told 1 = .ok (.tableswitch 75 0 4 #[35, 43, 51, 59, 67], 35) := by decide +kernel
theorem dX9_told_36 : decode cX9_told 36 = .ok (.aload_n 0, 1) := by decide +kernel
theorem dX9_told_37 : decode cX9_told 37 = .ok (.getfield 12, 3) := by decide +kernel
theorem dX9_told_40 : decode cX9_told 40 = .ok (.getfield 88, 3) := by decide +kernel
theorem dX9_told_43 : decode cX9_told 43 = .ok (.ireturn, 1) := by decide +kernel
theorem dX9_told_44 : decode cX9_told 44 = .ok (.aload_n 0, 1) := by decide +kernel
theorem dX9_told_45 : decode cX9_told 45 = .ok (.getfield 12, 3) := by decide +kernel
theorem dX9_told_48 : decode cX9_told 48 = .ok (.getfield 94, 3) := by decide +kernel
theorem dX9_told_51 : decode cX9_told 51 = .ok (.ireturn, 1) := by decide +kernel
theorem dX9_told_52 : decode cX9_told 52 = .ok (.aload_n 0, 1) := by decide +kernel
theorem dX9_told_53 : decode cX9_told 53 = .ok (.getfield 12, 3) := by decide +kernel
theorem dX9_told_56 : decode cX9_told 56 = .ok (.getfield 91, 3) := by decide +kernel
theorem dX9_told_59 : decode cX9_told 59 = .ok (.ireturn, 1) := by decide +kernel
theorem dX9_told_60 : decode cX9_told 60 = .ok (.aload_n 0, 1) := by decide +kernel
theorem dX9_told_61 : decode cX9_told 61 = .ok (.getfield 23, 3) := by decide +kernel
theorem dX9_told_64 : decode cX9_told 64 = .ok (.getfield 77, 3) := by decide +kernel
theorem dX9_told_67 : decode cX9_told 67 = .ok (.ireturn, 1) := by decide +kernel
theorem dX9_told_68 : decode cX9_told 68 = .ok (.aload_n 0, 1) := by decide +kernel
theorem dX9_told_69 : decode cX9_told 69 = .ok (.getfield 55, 3) := by decide +kernel
theorem dX9_told_72 : decode cX9_told 72 = .ok (.getfield 132, 3) := by decide +kernel
theorem dX9_told_75 : decode cX9_told 75 = .ok (.ireturn, 1) := by decide +kernel
theorem dX9_told_76 : decode cX9_told 76 = .ok (.bipush (-2), 2) := by decide +kernel
theorem dX9_told_78 : decode cX9_told 78 = .ok (.ireturn, 1) := by decide +kernel
theorem dX9_at_0 : decode cX9_at 0 = .ok (.aload_n 0, 1) := by decide +kernel
theorem dX9_at_1 : decode cX9_at 1 = .ok (.getfield 23, 3) := by decide +kernel
theorem dX9_at_4 : decode cX9_at 4 = .ok (.iload_n 1, 1) := by decide +kernel
theorem dX9_at_5 : decode cX9_at 5 = .ok (.invokevirtual 115, 3) := by decide +kernel
theorem dX9_at_8 : decode cX9_at 8 = .ok (.ifCond .eq 15, 3) := by decide +kernel
theorem dX9_at_11 : decode cX9_at 11 = .ok (.aload_n 0, 1) := by decide +kernel
theorem dX9_at_12 : decode cX9_at 12 = .ok (.getfield 23, 3) := by decide +kernel
theorem dX9_at_15 : decode cX9_at 15 = .ok (.iload_n 1, 1) := by decide +kernel
theorem dX9_at_16 : decode cX9_at 16 = .ok (.iload_n 2, 1) := by decide +kernel
theorem dX9_at_17 : decode cX9_at 17 = .ok (.invokevirtual 135, 3) := by decide +kernel
theorem dX9_at_20 : decode cX9_at 20 = .ok (.goto 5, 3) := by decide +kernel
theorem dX9_at_23 : decode cX9_at 23 = .ok (.bipush (-3), 2) := by decide +kernel
theorem dX9_at_25 : decode cX9_at 25 = .ok (.ireturn, 1) := by decide +kernel
theorem dX9_bound_0 : decode cX9_bound 0 = .ok (.aload_n 0, 1) := by decide +kernel
theorem dX9_bound_1 : decode cX9_bound 1 = .ok (.getfield 23, 3) := by decide +kernel
theorem dX9_bound_4 : decode cX9_bound 4 = .ok (.iload_n 1, 1) := by decide +kernel
theorem dX9_bound_5 : decode cX9_bound 5 = .ok (.invokevirtual 115, 3) := by decide +kernel
theorem dX9_bound_8 : decode cX9_bound 8 = .ok (.ifCond .eq 15, 3) := by decide +kernel
theorem dX9_bound_11 : decode cX9_bound 11 = .ok (.aload_n 0, 1) := by decide +kernel
theorem dX9_bound_12 : decode cX9_bound 12 = .ok (.getfield 23, 3) := by decide +kernel
theorem dX9_bound_15 : decode cX9_bound 15 = .ok (.iload_n 1, 1) := by decide +kernel
theorem dX9_bound_16 : decode cX9_bound 16 = .ok (.iload_n 2, 1) := by decide +kernel
theorem dX9_bound_17 : decode cX9_bound 17 = .ok (.invokevirtual 124, 3) := by decide +kernel
theorem dX9_bound_20 : decode cX9_bound 20 = .ok (.goto 5, 3) := by decide +kernel
theorem dX9_bound_23 : decode cX9_bound 23 = .ok (.bipush (-3), 2) := by decide +kernel
theorem dX9_bound_25 : decode cX9_bound 25 = .ok (.ireturn, 1) := by decide +kernel
theorem dX9_fret_0 : decode cX9_fret 0 = .ok (.aload_n 0, 1) := by decide +kernel
theorem dX9_fret_1 : decode cX9_fret 1 = .ok (.getfield 12, 3) := by decide +kernel
theorem dX9_fret_4 : decode cX9_fret 4 = .ok (.iload_n 1, 1) := by decide +kernel
theorem dX9_fret_5 : decode cX9_fret 5 = .ok (.invokevirtual 121, 3) := by decide +kernel
theorem dX9_fret_8 : decode cX9_fret 8 = .ok (.ifCond .eq 15, 3) := by decide +kernel
theorem dX9_fret_11 : decode cX9_fret 11 = .ok (.aload_n 0, 1) := by decide +kernel
theorem dX9_fret_12 : decode cX9_fret 12 = .ok (.getfield 12, 3) := by decide +kernel
theorem dX9_fret_15 : decode cX9_fret 15 = .ok (.iload_n 1, 1) := by decide +kernel
theorem dX9_fret_16 : decode cX9_fret 16 = .ok (.iload_n 2, 1) := by decide +kernel
theorem dX9_fret_17 : decode cX9_fret 17 = .ok (.invokevirtual 138, 3) := by decide +kernel
theorem dX9_fret_20 : decode cX9_fret 20 = .ok (.goto 5, 3) := by decide +kernel
theorem dX9_fret_23 : decode cX9_fret 23 = .ok (.bipush (-2), 2) := by decide +kernel
theorem dX9_fret_25 : decode cX9_fret 25 = .ok (.ireturn, 1) := by decide +kernel
theorem dX9_grips_0 : decode cX9_grips 0 = .ok (.aload_n 0, 1) := by decide +kernel
theorem dX9_grips_1 : decode cX9_grips 1 = .ok (.getfield 23, 3) := by decide +kernel
theorem dX9_grips_4 : decode cX9_grips 4 = .ok (.iload_n 1, 1) := by decide +kernel
theorem dX9_grips_5 : decode cX9_grips 5 = .ok (.invokevirtual 115, 3) := by decide +kernel
theorem dX9_grips_8 : decode cX9_grips 8 = .ok (.ifCond .ne 6, 3) := by decide +kernel
theorem dX9_grips_11 : decode cX9_grips 11 = .ok (.bipush (-3), 2) := by decide +kernel
theorem dX9_grips_13 : decode cX9_grips 13 = .ok (.ireturn, 1) := by decide +kernel
theorem dX9_grips_14 : decode cX9_grips 14 = .ok (.aload_n 0, 1) := by decide +kernel
theorem dX9_grips_15 : decode cX9_grips 15 = .ok (.getfield 39, 3) := by decide +kernel
theorem dX9_grips_18 : decode cX9_grips 18 = .ok (.iload_n 1, 1) := by decide +kernel
theorem dX9_grips_19 : decode cX9_grips 19 = .ok (.invokevirtual 141, 3) := by decide +kernel
theorem dX9_grips_22 : decode cX9_grips 22 = .ok (.aload_n 0, 1) := by decide +kernel
theorem dX9_grips_23 : decode cX9_grips 23 = .ok (.getfield 39, 3) := by decide +kernel
theorem dX9_grips_26 : decode cX9_grips 26 = .ok (.bipush 25, 2) := by decide +kernel
theorem dX9_grips_28 : decode cX9_grips 28 = .ok (.invokevirtual 145, 3) := by decide +kernel
theorem dX9_grips_31 : decode cX9_grips 31 = .ok (.ireturn, 1) := by decide +kernel
theorem dX9_grip_0 : decode cX9_grip 0 = .ok (.aload_n 0, 1) := by decide +kernel
theorem dX9_grip_1 : decode cX9_grip 1 = .ok (.getfield 23, 3) := by decide +kernel
theorem dX9_grip_4 : decode cX9_grip 4 = .ok (.iload_n 1, 1) := by decide +kernel
theorem dX9_grip_5 : decode cX9_grip 5 = .ok (.invokevirtual 115, 3) := by decide +kernel
theorem dX9_grip_8 : decode cX9_grip 8 = .ok (.ifCond .ne 6, 3) := by decide +kernel
theorem dX9_grip_11 : decode cX9_grip 11 = .ok (.bipush (-3), 2) := by decide +kernel
theorem dX9_grip_13 : decode cX9_grip 13 = .ok (.ireturn, 1) := by decide +kernel
theorem dX9_grip_14 : decode cX9_grip 14 = .ok (.iload_n 3, 1) := by decide +kernel
theorem dX9_grip_15 : decode cX9_grip 15 = .ok (.ifCond .lt 8, 3) := by decide +kernel
theorem dX9_grip_18 : decode cX9_grip 18 = .ok (.iload_n 3, 1) := by decide +kernel
theorem dX9_grip_19 : decode cX9_grip 19 = .ok (.iconst 5, 1) := by decide +kernel
theorem dX9_grip_20 : decode cX9_grip 20 = .ok (.if_icmp .le 6, 3) := by decide +kernel
theorem dX9_grip_23 : decode cX9_grip 23 = .ok (.bipush (-2), 2) := by decide +kernel
theorem dX9_grip_25 : decode cX9_grip 25 = .ok (.ireturn, 1) := by decide +kernel
theorem dX9_grip_26 : decode cX9_grip 26 = .ok (.aload_n 0, 1) := by decide +kernel
theorem dX9_grip_27 : decode cX9_grip 27 = .ok (.getfield 39, 3) := by decide +kernel
theorem dX9_grip_30 : decode cX9_grip 30 = .ok (.iload_n 1, 1) := by decide +kernel
theorem dX9_grip_31 : decode cX9_grip 31 = .ok (.iload_n 2, 1) := by decide +kernel
theorem dX9_grip_32 : decode cX9_grip 32 = .ok (.invokevirtual 148, 3) := by decide +kernel
theorem dX9_grip_35 : decode cX9_grip 35 = .ok (.ifCond .ne 5, 3) := by decide +kernel
theorem dX9_grip_38 : decode cX9_grip 38 = .ok (.iconst (-1), 1) := by decide +kernel
theorem dX9_grip_39 : decode cX9_grip 39 = .ok (.ireturn, 1) := by decide +kernel
theorem dX9_grip_40 : decode cX9_grip 40 = .ok (.aload_n 0, 1) := by decide +kernel
theorem dX9_grip_41 : decode cX9_grip 41 = .ok (.iload_n 1, 1) := by decide +kernel
theorem dX9_grip_42 : decode cX9_grip 42 = .ok (.iload_n 3, 1) := by decide +kernel
theorem dX9_grip_43 : decode cX9_grip 43 = .ok (.aload_n 0, 1) := by decide +kernel
theorem dX9_grip_44 : decode cX9_grip 44 = .ok (.getfield 39, 3) := by decide +kernel
theorem dX9_grip_47 : decode cX9_grip 47 = .ok (.getfield 151, 3) := by decide +kernel
theorem dX9_grip_50 : decode cX9_grip 50 = .ok (.aload_n 0, 1) := by decide +kernel
theorem dX9_grip_51 : decode cX9_grip 51 = .ok (.getfield 39, 3) := by decide +kernel
theorem dX9_grip_54 : decode cX9_grip 54 = .ok (.getfield 154, 3) := by decide +kernel
theorem dX9_grip_57 : decode cX9_grip 57 = .ok (.aload_n 0, 1) := by decide +kernel
theorem dX9_grip_58 : decode cX9_grip 58 = .ok (.getfield 39, 3) := by decide +kernel
theorem dX9_grip_61 : decode cX9_grip 61 = .ok (.getfield 157, 3) := by decide +kernel
theorem dX9_grip_64 : decode cX9_grip 64 = .ok (.invokevirtual 160, 3) := by decide +kernel
theorem dX9_grip_67 : decode cX9_grip 67 = .ok (.ireturn, 1) := by decide +kernel
theorem dX9_plan_0 : decode cX9_plan 0 = .ok (.aload_n 0, 1) := by decide +kernel
theorem dX9_plan_1 : decode cX9_plan 1 = .ok (.getfield 23, 3) := by decide +kernel
theorem dX9_plan_4 : decode cX9_plan 4 = .ok (.getfield 77, 3) := by decide +kernel
theorem dX9_plan_7 : decode cX9_plan 7 = .ok (.ifCond .ne 6, 3) := by decide +kernel
theorem dX9_plan_10 : decode cX9_plan 10 = .ok (.bipush (-4), 2) := by decide +kernel
theorem dX9_plan_12 : decode cX9_plan 12 = .ok (.ireturn, 1) := by decide +kernel
theorem dX9_plan_13 : decode cX9_plan 13 = .ok (.aload_n 0, 1) := by decide +kernel
theorem dX9_plan_14 : decode cX9_plan 14 = .ok (.getfield 30, 3) := by decide +kernel
theorem dX9_plan_17 : decode cX9_plan 17 = .ok (.invokevirtual 85, 3) := by decide +kernel
theorem dX9_plan_20 : decode cX9_plan 20 = .ok (.aload_n 0, 1) := by decide +kernel
theorem dX9_plan_21 : decode cX9_plan 21 = .ok (.getfield 48, 3) := by decide +kernel
theorem dX9_plan_24 : decode cX9_plan 24 = .ok (.invokevirtual 164, 3) := by decide +kernel
theorem dX9_plan_27 : decode cX9_plan 27 = .ok (.aload_n 0, 1) := by decide +kernel
theorem dX9_plan_28 : decode cX9_plan 28 = .ok (.getfield 48, 3) := by decide +kernel
theorem dX9_plan_31 : decode cX9_plan 31 = .ok (.getfield 167, 3) := by decide +kernel
theorem dX9_plan_34 : decode cX9_plan 34 = .ok (.iconst (-1), 1) := by decide +kernel
theorem dX9_plan_35 : decode cX9_plan 35 = .ok (.if_icmp .eq 14, 3) := by decide +kernel
theorem dX9_plan_38 : decode cX9_plan 38 = .ok (.aload_n 0, 1) := by decide +kernel
theorem dX9_plan_39 : decode cX9_plan 39 = .ok (.getfield 48, 3) := by decide +kernel
theorem dX9_plan_42 : decode cX9_plan 42 = .ok (.aload_n 0, 1) := by decide +kernel
theorem dX9_plan_43 : decode cX9_plan 43 = .ok (.getfield 30, 3) := by decide +kernel
theorem dX9_plan_46 : decode cX9_plan 46 = .ok (.invokevirtual 170, 3) := by decide +kernel
theorem dX9_plan_49 : decode cX9_plan 49 = .ok (.aload_n 0, 1) := by decide +kernel
theorem dX9_plan_50 : decode cX9_plan 50 = .ok (.getfield 48, 3) := by decide +kernel
theorem dX9_plan_53 : decode cX9_plan 53 = .ok (.getfield 167, 3) := by decide +kernel
theorem dX9_plan_56 : decode cX9_plan 56 = .ok (.ireturn, 1) := by decide +kernel
theorem dX9_planned_0 : decode cX9_planned 0 = .ok (.iload_n 2, 1) := by decide +kernel
theorem dX9_planned_1 : decode cX9_planned 1 = .ok (.ifCond .lt 9, 3) := by decide +kernel
theorem dX9_planned_4 : decode cX9_planned 4 = .ok (.iload_n 2, 1) := by decide +kernel
theorem dX9_planned_5 : decode cX9_planned 5 = .ok (.bipush 6, 2) := by decide +kernel
theorem dX9_planned_7 : decode cX9_planned 7 = .ok (.if_icmp .le 6, 3) := by decide +kernel
theorem dX9_planned_10 : decode cX9_planned 10 = .ok (.bipush (-2), 2) := by decide +kernel
theorem dX9_planned_12 : decode cX9_planned 12 = .ok (.ireturn, 1) := by decide +kernel
theorem dX9_planned_13 : decode cX9_planned 13 = .ok (.aload_n 0, 1) := by decide +kernel
theorem dX9_planned_14 : decode cX9_planned 14 = .ok (.getfield 30, 3) := by decide +kernel
theorem dX9_planned_17 : decode cX9_planned 17 = .ok (.iload_n 1, 1) := by decide +kernel
theorem dX9_planned_18 : decode cX9_planned 18 = .ok (.invokevirtual 174, 3) := by decide +kernel
theorem dX9_planned_21 : decode cX9_planned 21 = .ok (.ifCond .ne 5, 3) := by decide +kernel
theorem dX9_planned_24 : decode cX9_planned 24 = .ok (.iconst (-1), 1) := by decide +kernel
theorem dX9_planned_25 : decode cX9_planned 25 = .ok (.ireturn, 1) := by decide +kernel
theorem dX9_planned_26 : decode cX9_planned 26 = .ok (.iload_n 2, 1) := by decide +kernel
theorem dX9_planned_27 : decode cX9_planned 27 = .ok (.bipush 6, 2) := by decide +kernel
theorem dX9_planned_29 : decode cX9_planned 29 = .ok (.if_icmp .ne 13, 3) := by decide +kernel
theorem dX9_planned_32 : decode cX9_planned 32 = .ok (.aload_n 0, 1) := by decide +kernel
theorem dX9_planned_33 : decode cX9_planned 33 = .ok (.getfield 30, 3) := by decide +kernel
theorem dX9_planned_36 : decode cX9_planned 36 = .ok (.getfield 175, 3) := by decide +kernel
theorem dX9_planned_39 : decode cX9_planned 39 = .ok (.iload_n 1, 1) := by decide +kernel
theorem dX9_planned_40 : decode cX9_planned 40 = .ok (.iaload, 1) := by decide +kernel
theorem dX9_planned_41 : decode cX9_planned 41 = .ok (.ireturn, 1) := by decide +kernel
theorem dX9_planned_42 : decode cX9_planned 42 = .ok (.aload_n 0, 1) := by decide +kernel
theorem dX9_planned_43 : decode cX9_planned 43 = .ok (.iload_n 1, 1) := by decide +kernel
theorem dX9_planned_44 : decode cX9_planned 44 = .ok (.iload_n 2, 1) := by decide +kernel
theorem dX9_planned_45 : decode cX9_planned 45 = .ok (.aload_n 0, 1) := by decide +kernel
theorem dX9_planned_46 : decode cX9_planned 46 = .ok (.getfield 30, 3) := by decide +kernel
theorem dX9_planned_49 : decode cX9_planned 49 = .ok (.getfield 178, 3) := by decide +kernel
theorem dX9_planned_52 : decode cX9_planned 52 = .ok (.iload_n 1, 1) := by decide +kernel
theorem dX9_planned_53 : decode cX9_planned 53 = .ok (.iaload, 1) := by decide +kernel
theorem dX9_planned_54 : decode cX9_planned 54 = .ok (.aload_n 0, 1) := by decide +kernel
theorem dX9_planned_55 : decode cX9_planned 55 = .ok (.getfield 30, 3) := by decide +kernel
theorem dX9_planned_58 : decode cX9_planned 58 = .ok (.getfield 181, 3) := by decide +kernel
theorem dX9_planned_61 : decode cX9_planned 61 = .ok (.iload_n 1, 1) := by decide +kernel
theorem dX9_planned_62 : decode cX9_planned 62 = .ok (.iaload, 1) := by decide +kernel
theorem dX9_planned_63 : decode cX9_planned 63 = .ok (.aload_n 0, 1) := by decide +kernel
theorem dX9_planned_64 : decode cX9_planned 64 = .ok (.getfield 30, 3) := by decide +kernel
theorem dX9_planned_67 : decode cX9_planned 67 = .ok (.getfield 183, 3) := by decide +kernel
theorem dX9_planned_70 : decode cX9_planned 70 = .ok (.iload_n 1, 1) := by decide +kernel
theorem dX9_planned_71 : decode cX9_planned 71 = .ok (.iaload, 1) := by decide +kernel
theorem dX9_planned_72 : decode cX9_planned 72 = .ok (.invokevirtual 160, 3) := by decide +kernel
theorem dX9_planned_75 : decode cX9_planned 75 = .ok (.ireturn, 1) := by decide +kernel
theorem dX9_ties_0 : decode cX9_ties 0 = .ok (.aload_n 0, 1) := by decide +kernel
theorem dX9_ties_1 : decode cX9_ties 1 = .ok (.getfield 23, 3) := by decide +kernel
theorem dX9_ties_4 : decode cX9_ties 4 = .ok (.getfield 77, 3) := by decide +kernel
theorem dX9_ties_7 : decode cX9_ties 7 = .ok (.ifCond .ne 6, 3) := by decide +kernel
theorem dX9_ties_10 : decode cX9_ties 10 = .ok (.bipush (-4), 2) := by decide +kernel
theorem dX9_ties_12 : decode cX9_ties 12 = .ok (.ireturn, 1) := by decide +kernel
theorem dX9_ties_13 : decode cX9_ties 13 = .ok (.aload_n 0, 1) := by decide +kernel
theorem dX9_ties_14 : decode cX9_ties 14 = .ok (.getfield 48, 3) := by decide +kernel
theorem dX9_ties_17 : decode cX9_ties 17 = .ok (.invokevirtual 164, 3) := by decide +kernel
theorem dX9_ties_20 : decode cX9_ties 20 = .ok (.aload_n 0, 1) := by decide +kernel
theorem dX9_ties_21 : decode cX9_ties 21 = .ok (.getfield 48, 3) := by decide +kernel
theorem dX9_ties_24 : decode cX9_ties 24 = .ok (.getfield 167, 3) := by decide +kernel
theorem dX9_ties_27 : decode cX9_ties 27 = .ok (.iconst (-1), 1) := by decide +kernel
theorem dX9_ties_28 : decode cX9_ties 28 = .ok (.if_icmp .ne 7, 3) := by decide +kernel
theorem dX9_ties_31 : decode cX9_ties 31 = .ok (.iconst 0, 1) := by decide +kernel
theorem dX9_ties_32 : decode cX9_ties 32 = .ok (.goto 10, 3) := by decide +kernel
theorem dX9_ties_35 : decode cX9_ties 35 = .ok (.aload_n 0, 1) := by decide +kernel
theorem dX9_ties_36 : decode cX9_ties 36 = .ok (.getfield 48, 3) := by decide +kernel
theorem dX9_ties_39 : decode cX9_ties 39 = .ok (.getfield 186, 3) := by decide +kernel
theorem dX9_ties_42 : decode cX9_ties 42 = .ok (.ireturn, 1) := by decide +kernel
theorem dX9_sign_0 : decode cX9_sign 0 = .ok (.iload_n 1, 1) := by decide +kernel
theorem dX9_sign_1 : decode cX9_sign 1 = .ok (.iconst 1, 1) := by decide +kernel
theorem dX9_sign_2 : decode cX9_sign 2 = .ok (.if_icmp .lt 9, 3) := by decide +kernel
theorem dX9_sign_5 : decode cX9_sign 5 = .ok (.iload_n 1, 1) := by decide +kernel
theorem dX9_sign_6 : decode cX9_sign 6 = .ok (.bipush 127, 2) := by decide +kernel
theorem dX9_sign_8 : decode cX9_sign 8 = .ok (.if_icmp .le 6, 3) := by decide +kernel
theorem dX9_sign_11 : decode cX9_sign 11 = .ok (.bipush (-2), 2) := by decide +kernel
theorem dX9_sign_13 : decode cX9_sign 13 = .ok (.ireturn, 1) := by decide +kernel
theorem dX9_sign_14 : decode cX9_sign 14 = .ok (.aload_n 0, 1) := by decide +kernel
theorem dX9_sign_15 : decode cX9_sign 15 = .ok (.getfield 55, 3) := by decide +kernel
theorem dX9_sign_18 : decode cX9_sign 18 = .ok (.iload_n 1, 1) := by decide +kernel
theorem dX9_sign_19 : decode cX9_sign 19 = .ok (.invokevirtual 189, 3) := by decide +kernel
theorem dX9_sign_22 : decode cX9_sign 22 = .ok (.ifCond .eq 13, 3) := by decide +kernel
theorem dX9_sign_25 : decode cX9_sign 25 = .ok (.aload_n 0, 1) := by decide +kernel
theorem dX9_sign_26 : decode cX9_sign 26 = .ok (.getfield 55, 3) := by decide +kernel
theorem dX9_sign_29 : decode cX9_sign 29 = .ok (.getfield 132, 3) := by decide +kernel
theorem dX9_sign_32 : decode cX9_sign 32 = .ok (.goto 5, 3) := by decide +kernel
theorem dX9_sign_35 : decode cX9_sign 35 = .ok (.bipush (-5), 2) := by decide +kernel
theorem dX9_sign_37 : decode cX9_sign 37 = .ok (.ireturn, 1) := by decide +kernel
theorem dX9_tape_0 : decode cX9_tape 0 = .ok (.aload_n 0, 1) := by decide +kernel
theorem dX9_tape_1 : decode cX9_tape 1 = .ok (.getfield 55, 3) := by decide +kernel
theorem dX9_tape_4 : decode cX9_tape 4 = .ok (.iload_n 1, 1) := by decide +kernel
theorem dX9_tape_5 : decode cX9_tape 5 = .ok (.invokevirtual 192, 3) := by decide +kernel
theorem dX9_tape_8 : decode cX9_tape 8 = .ok (.ireturn, 1) := by decide +kernel
theorem dX9_empty_0 : decode cX9_empty 0 = .ok (.aload_n 0, 1) := by decide +kernel
theorem dX9_empty_1 : decode cX9_empty 1 = .ok (.getfield 55, 3) := by decide +kernel
theorem dX9_empty_4 : decode cX9_empty 4 = .ok (.getfield 132, 3) := by decide +kernel
theorem dX9_empty_7 : decode cX9_empty 7 = .ok (.istore_n 1, 1) := by decide +kernel
theorem dX9_empty_8 : decode cX9_empty 8 = .ok (.aload_n 0, 1) := by decide +kernel
theorem dX9_empty_9 : decode cX9_empty 9 = .ok (.getfield 55, 3) := by decide +kernel
theorem dX9_empty_12 : decode cX9_empty 12 = .ok (.iconst 0, 1) := by decide +kernel
theorem dX9_empty_13 : decode cX9_empty 13 = .ok (.putfield 132, 3) := by decide +kernel
theorem dX9_empty_16 : decode cX9_empty 16 = .ok (.iload_n 1, 1) := by decide +kernel
theorem dX9_empty_17 : decode cX9_empty 17 = .ok (.ireturn, 1) := by decide +kernel
theorem dX9_write_0 : decode cX9_write 0 = .ok (.aload_n 0, 1) := by decide +kernel
theorem dX9_write_1 : decode cX9_write 1 = .ok (.getfield 30, 3) := by decide +kernel
theorem dX9_write_4 : decode cX9_write 4 = .ok (.invokevirtual 195, 3) := by decide +kernel
theorem dX9_write_7 : decode cX9_write 7 = .ok (.ifCond .ne 6, 3) := by decide +kernel
theorem dX9_write_10 : decode cX9_write 10 = .ok (.bipush (-4), 2) := by decide +kernel
theorem dX9_write_12 : decode cX9_write 12 = .ok (.ireturn, 1) := by decide +kernel
theorem dX9_write_13 : decode cX9_write 13 = .ok (.aload_n 0, 1) := by decide +kernel
theorem dX9_write_14 : decode cX9_write 14 = .ok (.getfield 64, 3) := by decide +kernel
theorem dX9_write_17 : decode cX9_write 17 = .ok (.invokevirtual 198, 3) := by decide +kernel
theorem dX9_write_20 : decode cX9_write 20 = .ok (.aload_n 0, 1) := by decide +kernel
theorem dX9_write_21 : decode cX9_write 21 = .ok (.getfield 55, 3) := by decide +kernel
theorem dX9_write_24 : decode cX9_write 24 = .ok (.getfield 132, 3) := by decide +kernel
theorem dX9_write_27 : decode cX9_write 27 = .ok (.ireturn, 1) := by decide +kernel
theorem dX9_read_0 : decode cX9_read 0 = .ok (.aload_n 0, 1) := by decide +kernel
theorem dX9_read_1 : decode cX9_read 1 = .ok (.getfield 12, 3) := by decide +kernel
theorem dX9_read_4 : decode cX9_read 4 = .ok (.getfield 88, 3) := by decide +kernel
theorem dX9_read_7 : decode cX9_read 7 = .ok (.ifCond .ne 6, 3) := by decide +kernel
theorem dX9_read_10 : decode cX9_read 10 = .ok (.bipush (-4), 2) := by decide +kernel
theorem dX9_read_12 : decode cX9_read 12 = .ok (.ireturn, 1) := by decide +kernel
theorem dX9_read_13 : decode cX9_read 13 = .ok (.aload_n 0, 1) := by decide +kernel
theorem dX9_read_14 : decode cX9_read 14 = .ok (.getfield 73, 3) := by decide +kernel
theorem dX9_read_17 : decode cX9_read 17 = .ok (.invokevirtual 201, 3) := by decide +kernel
theorem dX9_read_20 : decode cX9_read 20 = .ok (.istore_n 1, 1) := by decide +kernel
theorem dX9_read_21 : decode cX9_read 21 = .ok (.iload_n 1, 1) := by decide +kernel
theorem dX9_read_22 : decode cX9_read 22 = .ok (.ifCond .ne 17, 3) := by decide +kernel
theorem dX9_read_25 : decode cX9_read 25 = .ok (.aload_n 0, 1) := by decide +kernel
theorem dX9_read_26 : decode cX9_read 26 = .ok (.getfield 73, 3) := by decide +kernel
theorem dX9_read_29 : decode cX9_read 29 = .ok (.invokevirtual 205, 3) := by decide +kernel
theorem dX9_read_32 : decode cX9_read 32 = .ok (.aload_n 0, 1) := by decide +kernel
theorem dX9_read_33 : decode cX9_read 33 = .ok (.getfield 30, 3) := by decide +kernel
theorem dX9_read_36 : decode cX9_read 36 = .ok (.invokevirtual 85, 3) := by decide +kernel
theorem dX9_read_39 : decode cX9_read 39 = .ok (.aload_n 0, 1) := by decide +kernel
theorem dX9_read_40 : decode cX9_read 40 = .ok (.getfield 55, 3) := by decide +kernel
theorem dX9_read_43 : decode cX9_read 43 = .ok (.iconst 0, 1) := by decide +kernel
theorem dX9_read_44 : decode cX9_read 44 = .ok (.putfield 132, 3) := by decide +kernel
theorem dX9_read_47 : decode cX9_read 47 = .ok (.iload_n 1, 1) := by decide +kernel
theorem dX9_read_48 : decode cX9_read 48 = .ok (.ifCond .ne 13, 3) := by decide +kernel
theorem dX9_read_51 : decode cX9_read 51 = .ok (.aload_n 0, 1) := by decide +kernel
theorem dX9_read_52 : decode cX9_read 52 = .ok (.getfield 23, 3) := by decide +kernel
theorem dX9_read_55 : decode cX9_read 55 = .ok (.getfield 77, 3) := by decide +kernel
theorem dX9_read_58 : decode cX9_read 58 = .ok (.goto 7, 3) := by decide +kernel
theorem dX9_read_61 : decode cX9_read 61 = .ok (.bipush (-10), 2) := by decide +kernel
theorem dX9_read_63 : decode cX9_read 63 = .ok (.iload_n 1, 1) := by decide +kernel
theorem dX9_read_64 : decode cX9_read 64 = .ok (.isub, 1) := by decide +kernel
theorem dX9_read_65 : decode cX9_read 65 = .ok (.ireturn, 1) := by decide +kernel
theorem dX9_place_0 : decode cX9_place 0 = .ok (.aload_n 0, 1) := by decide +kernel
theorem dX9_place_1 : decode cX9_place 1 = .ok (.getfield 73, 3) := by decide +kernel
theorem dX9_place_4 : decode cX9_place 4 = .ok (.getfield 208, 3) := by decide +kernel
theorem dX9_place_7 : decode cX9_place 7 = .ok (.ireturn, 1) := by decide +kernel
theorem dX9_isPitch_0 : decode cX9_isPitch 0 = .ok (.iload_n 0, 1) := by decide +kernel
theorem dX9_isPitch_1 : decode cX9_isPitch 1 = .ok (.ifCond .lt 13, 3) := by decide +kernel
theorem dX9_isPitch_4 : decode cX9_isPitch 4 = .ok (.iload_n 0, 1) := by decide +kernel
theorem dX9_isPitch_5 : decode cX9_isPitch 5 = .ok (.bipush 123, 2) := by decide +kernel
theorem dX9_isPitch_7 : decode cX9_isPitch 7 = .ok (.if_icmp .gt 7, 3) := by decide +kernel
theorem dX9_isPitch_10 : decode cX9_isPitch 10 = .ok (.iconst 1, 1) := by decide +kernel
theorem dX9_isPitch_11 : decode cX9_isPitch 11 = .ok (.goto 4, 3) := by decide +kernel
theorem dX9_isPitch_14 : decode cX9_isPitch 14 = .ok (.iconst 0, 1) := by decide +kernel
theorem dX9_isPitch_15 : decode cX9_isPitch 15 = .ok (.ireturn, 1) := by decide +kernel
theorem dX9_partOf_0 : decode cX9_partOf 0 = .ok (.iload_n 2, 1) := by decide +kernel
theorem dX9_partOf_1 : decode cX9_partOf 1 = .ok (.ifCond .ne 5, 3) := by decide +kernel
theorem dX9_partOf_4 : decode cX9_partOf 4 = .ok (.iload_n 3, 1) := by decide +kernel
theorem dX9_partOf_5 : decode cX9_partOf 5 = .ok (.ireturn, 1) := by decide +kernel
theorem dX9_partOf_6 : decode cX9_partOf 6 = .ok (.iload_n 2, 1) := by decide +kernel
theorem dX9_partOf_7 : decode cX9_partOf 7 = .ok (.iconst 5, 1) := by decide +kernel
theorem dX9_partOf_8 : decode cX9_partOf 8 = .ok (.if_icmp .ne 6, 3) := by decide +kernel
theorem dX9_partOf_11 : decode cX9_partOf 11 = .ok (.iload 5, 2) := by decide +kernel
theorem dX9_partOf_13 : decode cX9_partOf 13 = .ok (.ireturn, 1) := by decide +kernel
theorem dX9_partOf_14 : decode cX9_partOf 14 = .ok (.aload_n 0, 1) := by decide +kernel
theorem dX9_partOf_15 : decode cX9_partOf 15 = .ok (.getfield 23, 3) := by decide +kernel
theorem dX9_partOf_18 : decode cX9_partOf 18 = .ok (.iload_n 1, 1) := by decide +kernel
theorem dX9_partOf_19 : decode cX9_partOf 19 = .ok (.iload_n 2, 1) := by decide +kernel
theorem dX9_partOf_20 : decode cX9_partOf 20 = .ok (.iconst 1, 1) := by decide +kernel
theorem dX9_partOf_21 : decode cX9_partOf 21 = .ok (.isub, 1) := by decide +kernel
theorem dX9_partOf_22 : decode cX9_partOf 22 = .ok (.invokevirtual 118, 3) := by decide +kernel
theorem dX9_partOf_25 : decode cX9_partOf 25 = .ok (.ifCond .eq 14, 3) := by decide +kernel
theorem dX9_partOf_28 : decode cX9_partOf 28 = .ok (.iload 4, 2) := by decide +kernel
theorem dX9_partOf_30 : decode cX9_partOf 30 = .ok (.iload_n 2, 1) := by decide +kernel
theorem dX9_partOf_31 : decode cX9_partOf 31 = .ok (.iconst 1, 1) := by decide +kernel
theorem dX9_partOf_32 : decode cX9_partOf 32 = .ok (.isub, 1) := by decide +kernel
theorem dX9_partOf_33 : decode cX9_partOf 33 = .ok (.invokestatic 211, 3) := by decide +kernel
theorem dX9_partOf_36 : decode cX9_partOf 36 = .ok (.goto 4, 3) := by decide +kernel
theorem dX9_partOf_39 : decode cX9_partOf 39 = .ok (.iconst (-1), 1) := by decide +kernel
theorem dX9_partOf_40 : decode cX9_partOf 40 = .ok (.ireturn, 1) := by decide +kernel
theorem dX10_init_0 : decode cX10_init 0 = .ok (.aload_n 0, 1) := by decide +kernel
theorem dX10_init_1 : decode cX10_init 1 = .ok (.invokespecial 1, 3) := by decide +kernel
theorem dX10_init_4 : decode cX10_init 4 = .ok (.aload_n 0, 1) := by decide +kernel
theorem dX10_init_5 : decode cX10_init 5 = .ok (.bipush 7, 2) := by decide +kernel
theorem dX10_init_7 : decode cX10_init 7 = .ok (.newarray .int, 2) := by decide +kernel
theorem dX10_init_9 : decode cX10_init 9 = .ok (.putfield 7, 3) := by decide +kernel
theorem dX10_init_12 : decode cX10_init 12 = .ok (.aload_n 0, 1) := by decide +kernel
theorem dX10_init_13 : decode cX10_init 13 = .ok (.bipush 12, 2) := by decide +kernel
theorem dX10_init_15 : decode cX10_init 15 = .ok (.putfield 13, 3) := by decide +kernel
theorem dX10_init_18 : decode cX10_init 18 = .ok (.aload_n 0, 1) := by decide +kernel
theorem dX10_init_19 : decode cX10_init 19 = .ok (.iconst 4, 1) := by decide +kernel
theorem dX10_init_20 : decode cX10_init 20 = .ok (.newarray .int, 2) := by decide +kernel
theorem dX10_init_22 : decode cX10_init 22 = .ok (.dup, 1) := by decide +kernel
theorem dX10_init_23 : decode cX10_init 23 = .ok (.iconst 0, 1) := by decide +kernel
theorem dX10_init_24 : decode cX10_init 24 = .ok (.iconst 1, 1) := by decide +kernel
theorem dX10_init_25 : decode cX10_init 25 = .ok (.iastore, 1) := by decide +kernel
theorem dX10_init_26 : decode cX10_init 26 = .ok (.dup, 1) := by decide +kernel
theorem dX10_init_27 : decode cX10_init 27 = .ok (.iconst 1, 1) := by decide +kernel
theorem dX10_init_28 : decode cX10_init 28 = .ok (.iconst 1, 1) := by decide +kernel
theorem dX10_init_29 : decode cX10_init 29 = .ok (.iastore, 1) := by decide +kernel
theorem dX10_init_30 : decode cX10_init 30 = .ok (.dup, 1) := by decide +kernel
theorem dX10_init_31 : decode cX10_init 31 = .ok (.iconst 2, 1) := by decide +kernel
theorem dX10_init_32 : decode cX10_init 32 = .ok (.iconst 1, 1) := by decide +kernel
theorem dX10_init_33 : decode cX10_init 33 = .ok (.iastore, 1) := by decide +kernel
theorem dX10_init_34 : decode cX10_init 34 = .ok (.dup, 1) := by decide +kernel
theorem dX10_init_35 : decode cX10_init 35 = .ok (.iconst 3, 1) := by decide +kernel
theorem dX10_init_36 : decode cX10_init 36 = .ok (.iconst 1, 1) := by decide +kernel
theorem dX10_init_37 : decode cX10_init 37 = .ok (.iastore, 1) := by decide +kernel
theorem dX10_init_38 : decode cX10_init 38 = .ok (.putfield 17, 3) := by decide +kernel
theorem dX10_init_41 : decode cX10_init 41 = .ok (.aload_n 0, 1) := by decide +kernel
theorem dX10_init_42 : decode cX10_init 42 = .ok (.bipush 40, 2) := by decide +kernel
theorem dX10_init_44 : decode cX10_init 44 = .ok (.newarray .int, 2) := by decide +kernel
theorem dX10_init_46 : decode cX10_init 46 = .ok (.putfield 20, 3) := by decide +kernel
theorem dX10_init_49 : decode cX10_init 49 = .ok (.aload_n 0, 1) := by decide +kernel
theorem dX10_init_50 : decode cX10_init 50 = .ok (.sipush 160, 3) := by decide +kernel
theorem dX10_init_53 : decode cX10_init 53 = .ok (.newarray .int, 2) := by decide +kernel
theorem dX10_init_55 : decode cX10_init 55 = .ok (.putfield 23, 3) := by decide +kernel
theorem dX10_init_58 : decode cX10_init 58 = .ok (.aload_n 0, 1) := by decide +kernel
theorem dX10_init_59 : decode cX10_init 59 = .ok (.sipush 160, 3) := by decide +kernel
theorem dX10_init_62 : decode cX10_init 62 = .ok (.newarray .int, 2) := by decide +kernel
theorem dX10_init_64 : decode cX10_init 64 = .ok (.putfield 26, 3) := by decide +kernel
theorem dX10_init_67 : decode cX10_init 67 = .ok (.aload_n 0, 1) := by decide +kernel
theorem dX10_init_68 : decode cX10_init 68 = .ok (.bipush 40, 2) := by decide +kernel
theorem dX10_init_70 : decode cX10_init 70 = .ok (.newarray .int, 2) := by decide +kernel
theorem dX10_init_72 : decode cX10_init 72 = .ok (.putfield 29, 3) := by decide +kernel
theorem dX10_init_75 : decode cX10_init 75 = .ok (.aload_n 0, 1) := by decide +kernel
theorem dX10_init_76 : decode cX10_init 76 = .ok (.sipush 160, 3) := by decide +kernel
theorem dX10_init_79 : decode cX10_init 79 = .ok (.newarray .int, 2) := by decide +kernel
theorem dX10_init_81 : decode cX10_init 81 = .ok (.putfield 32, 3) := by decide +kernel
theorem dX10_init_84 : decode cX10_init 84 = .ok (.aload_n 0, 1) := by decide +kernel
theorem dX10_init_85 : decode cX10_init 85 = .ok (.bipush 40, 2) := by decide +kernel
theorem dX10_init_87 : decode cX10_init 87 = .ok (.newarray .int, 2) := by decide +kernel
theorem dX10_init_89 : decode cX10_init 89 = .ok (.putfield 35, 3) := by decide +kernel
theorem dX10_init_92 : decode cX10_init 92 = .ok (.aload_n 0, 1) := by decide +kernel
theorem dX10_init_93 : decode cX10_init 93 = .ok (.bipush 40, 2) := by decide +kernel
theorem dX10_init_95 : decode cX10_init 95 = .ok (.newarray .int, 2) := by decide +kernel
theorem dX10_init_97 : decode cX10_init 97 = .ok (.putfield 38, 3) := by decide +kernel
theorem dX10_init_100 : decode cX10_init 100 = .ok (.aload_n 0, 1) := by decide +kernel
theorem dX10_init_101 : decode cX10_init 101 = .ok (.sipush 2000, 3) := by decide +kernel
theorem dX10_init_104 : decode cX10_init 104 = .ok (.newarray .int, 2) := by decide +kernel
theorem dX10_init_106 : decode cX10_init 106 = .ok (.putfield 41, 3) := by decide +kernel
theorem dX10_init_109 : decode cX10_init 109 = .ok (.aload_n 0, 1) := by decide +kernel
theorem dX10_init_110 : decode cX10_init 110 = .ok (.iconst (-1), 1) := by decide +kernel
theorem dX10_init_111 : decode cX10_init 111 = .ok (.putfield 44, 3) := by decide +kernel
theorem dX10_init_114 : decode cX10_init 114 = .ok (.aload_n 0, 1) := by decide +kernel
theorem dX10_init_115 : decode cX10_init 115 = .ok (.sipush 3364, 3) := by decide +kernel
theorem dX10_init_118 : decode cX10_init 118 = .ok (.newarray .int, 2) := by decide +kernel
theorem dX10_init_120 : decode cX10_init 120 = .ok (.putfield 47, 3) := by decide +kernel
theorem dX10_init_123 : decode cX10_init 123 = .ok (.aload_n 0, 1) := by decide +kernel
theorem dX10_init_124 : decode cX10_init 124 = .ok (.sipush 3364, 3) := by decide +kernel
theorem dX10_init_127 : decode cX10_init 127 = .ok (.newarray .int, 2) := by decide +kernel
theorem dX10_init_129 : decode cX10_init 129 = .ok (.putfield 50, 3) := by decide +kernel
theorem dX10_init_132 : decode cX10_init 132 = .ok (.aload_n 0, 1) := by decide +kernel
theorem dX10_init_133 : decode cX10_init 133 = .ok (.sipush 1000, 3) := by decide +kernel
theorem dX10_init_136 : decode cX10_init 136 = .ok (.newarray .int, 2) := by decide +kernel
theorem dX10_init_138 : decode cX10_init 138 = .ok (.putfield 53, 3) := by decide +kernel
theorem dX10_init_141 : decode cX10_init 141 = .ok (.aload_n 0, 1) := by decide +kernel
theorem dX10_init_142 : decode cX10_init 142 = .ok (.sipush 1000, 3) := by decide +kernel
theorem dX10_init_145 : decode cX10_init 145 = .ok (.newarray .int, 2) := by decide +kernel
theorem dX10_init_147 : decode cX10_init 147 = .ok (.putfield 56, 3) := by decide +kernel
theorem dX10_init_150 : decode cX10_init 150 = .ok (.aload_n 0, 1) := by decide +kernel
theorem dX10_init_151 : decode cX10_init 151 = .ok (.sipush 1000, 3) := by decide +kernel
theorem dX10_init_154 : decode cX10_init 154 = .ok (.newarray .int, 2) := by decide +kernel
theorem dX10_init_156 : decode cX10_init 156 = .ok (.putfield 59, 3) := by decide +kernel
theorem dX10_init_159 : decode cX10_init 159 = .ok (.aload_n 0, 1) := by decide +kernel
theorem dX10_init_160 : decode cX10_init 160 = .ok (.sipush 1000, 3) := by decide +kernel
theorem dX10_init_163 : decode cX10_init 163 = .ok (.newarray .int, 2) := by decide +kernel
theorem dX10_init_165 : decode cX10_init 165 = .ok (.putfield 62, 3) := by decide +kernel
theorem dX10_init_168 : decode cX10_init 168 = .ok (.aload_n 0, 1) := by decide +kernel
theorem dX10_init_169 : decode cX10_init 169 = .ok (.sipush 1000, 3) := by decide +kernel
theorem dX10_init_172 : decode cX10_init 172 = .ok (.newarray .boolean, 2) := by decide +kernel
theorem dX10_init_174 : decode cX10_init 174 = .ok (.putfield 65, 3) := by decide +kernel
theorem dX10_init_177 : decode cX10_init 177 = .ok (.aload_n 0, 1) := by decide +kernel
theorem dX10_init_178 : decode cX10_init 178 = .ok (.bipush 41, 2) := by decide +kernel
theorem dX10_init_180 : decode cX10_init 180 = .ok (.newarray .int, 2) := by decide +kernel
theorem dX10_init_182 : decode cX10_init 182 = .ok (.putfield 69, 3) := by decide +kernel
theorem dX10_init_185 : decode cX10_init 185 = .ok (.aload_n 0, 1) := by decide +kernel
theorem dX10_init_186 : decode cX10_init 186 = .ok (.sipush 164, 3) := by decide +kernel
theorem dX10_init_189 : decode cX10_init 189 = .ok (.newarray .int, 2) := by decide +kernel
theorem dX10_init_191 : decode cX10_init 191 = .ok (.putfield 72, 3) := by decide +kernel
theorem dX10_init_194 : decode cX10_init 194 = .ok (.aload_n 0, 1) := by decide +kernel
theorem dX10_init_195 : decode cX10_init 195 = .ok (.sipush 164, 3) := by decide +kernel
theorem dX10_init_198 : decode cX10_init 198 = .ok (.newarray .int, 2) := by decide +kernel
theorem dX10_init_200 : decode cX10_init 200 = .ok (.putfield 75, 3) := by decide +kernel
theorem dX10_init_203 : decode cX10_init 203 = .ok (.aload_n 0, 1) := by decide +kernel
theorem dX10_init_204 : decode cX10_init 204 = .ok (.iconst 0, 1) := by decide +kernel
theorem dX10_init_205 : decode cX10_init 205 = .ok (.putfield 78, 3) := by decide +kernel
theorem dX10_init_208 : decode cX10_init 208 = .ok (.return_, 1) := by decide +kernel
theorem dX10_within_0 : decode cX10_within 0 = .ok (.iload_n 0, 1) := by decide +kernel
theorem dX10_within_1 : decode cX10_within 1 = .ok (.iload_n 1, 1) := by decide +kernel
theorem dX10_within_2 : decode cX10_within 2 = .ok (.if_icmp .lt 12, 3) := by decide +kernel
theorem dX10_within_5 : decode cX10_within 5 = .ok (.iload_n 0, 1) := by decide +kernel
theorem dX10_within_6 : decode cX10_within 6 = .ok (.iload_n 2, 1) := by decide +kernel
theorem dX10_within_7 : decode cX10_within 7 = .ok (.if_icmp .gt 7, 3) := by decide +kernel
theorem dX10_within_10 : decode cX10_within 10 = .ok (.iconst 1, 1) := by decide +kernel
theorem dX10_within_11 : decode cX10_within 11 = .ok (.goto 4, 3) := by decide +kernel
theorem dX10_within_14 : decode cX10_within 14 = .ok (.iconst 0, 1) := by decide +kernel
theorem dX10_within_15 : decode cX10_within 15 = .ok (.ireturn, 1) := by decide +kernel
theorem dX10_isEvent_0 : decode cX10_isEvent 0 = .ok (.iload_n 1, 1) := by decide +kernel
theorem dX10_isEvent_1 : decode cX10_isEvent 1 = .ok (.iconst 0, 1) := by decide +kernel
theorem dX10_isEvent_2 : decode cX10_isEvent 2 = .ok (.aload_n 0, 1) := by decide +kernel
theorem dX10_isEvent_3 : decode cX10_isEvent 3 = .ok (.getfield 81, 3) := by decide +kernel
theorem dX10_isEvent_6 : decode cX10_isEvent 6 = .ok (.iconst 1, 1) := by decide +kernel
theorem dX10_isEvent_7 : decode cX10_isEvent 7 = .ok (.isub, 1) := by decide +kernel
theorem dX10_isEvent_8 : decode cX10_isEvent 8 = .ok (.invokestatic 84, 3) := by decide +kernel
theorem dX10_isEvent_11 : decode cX10_isEvent 11 = .ok (.ireturn, 1) := by decide +kernel
theorem dX10_isString_0 : decode cX10_isString 0 = .ok (.iload_n 1, 1) := by decide +kernel
theorem dX10_isString_1 : decode cX10_isString 1 = .ok (.iconst 0, 1) := by decide +kernel
theorem dX10_isString_2 : decode cX10_isString 2 = .ok (.aload_n 0, 1) := by decide +kernel
theorem dX10_isString_3 : decode cX10_isString 3 = .ok (.getfield 78, 3) := by decide +kernel
theorem dX10_isString_6 : decode cX10_isString 6 = .ok (.iconst 1, 1) := by decide +kernel
theorem dX10_isString_7 : decode cX10_isString 7 = .ok (.isub, 1) := by decide +kernel
theorem dX10_isString_8 : decode cX10_isString 8 = .ok (.invokestatic 84, 3) := by decide +kernel
theorem dX10_isString_11 : decode cX10_isString 11 = .ok (.ireturn, 1) := by decide +kernel
theorem dX10_string_0 : decode cX10_string 0 = .ok (.iload_n 1, 1) := by decide +kernel
theorem dX10_string_1 : decode cX10_string 1 = .ok (.iconst 0, 1) := by decide +kernel
theorem dX10_string_2 : decode cX10_string 2 = .ok (.bipush 99, 2) := by decide +kernel
theorem dX10_string_4 : decode cX10_string 4 = .ok (.invokestatic 84, 3) := by decide +kernel
theorem dX10_string_7 : decode cX10_string 7 = .ok (.ifCond .ne 6, 3) := by decide +kernel
theorem dX10_string_10 : decode cX10_string 10 = .ok (.bipush (-2), 2) := by decide +kernel
theorem dX10_string_12 : decode cX10_string 12 = .ok (.ireturn, 1) := by decide +kernel
theorem dX10_string_13 : decode cX10_string 13 = .ok (.aload_n 0, 1) := by decide +kernel
theorem dX10_string_14 : decode cX10_string 14 = .ok (.getfield 81, 3) := by decide +kernel
theorem dX10_string_17 : decode cX10_string 17 = .ok (.ifCond .le 6, 3) := by decide +kernel
theorem dX10_string_20 : decode cX10_string 20 = .ok (.bipush (-4), 2) := by decide +kernel
theorem dX10_string_22 : decode cX10_string 22 = .ok (.ireturn, 1) := by decide +kernel
theorem dX10_string_23 : decode cX10_string 23 = .ok (.aload_n 0, 1) := by decide +kernel
theorem dX10_string_24 : decode cX10_string 24 = .ok (.getfield 78, 3) := by decide +kernel
theorem dX10_string_27 : decode cX10_string 27 = .ok (.bipush 7, 2) := by decide +kernel
theorem dX10_string_29 : decode cX10_string 29 = .ok (.if_icmp .ne 6, 3) := by decide +kernel
theorem dX10_string_32 : decode cX10_string 32 = .ok (.bipush (-5), 2) := by decide +kernel
theorem dX10_string_34 : decode cX10_string 34 = .ok (.ireturn, 1) := by decide +kernel
theorem dX10_string_35 : decode cX10_string 35 = .ok (.aload_n 0, 1) := by decide +kernel
theorem dX10_string_36 : decode cX10_string 36 = .ok (.getfield 7, 3) := by decide +kernel
theorem dX10_string_39 : decode cX10_string 39 = .ok (.aload_n 0, 1) := by decide +kernel
theorem dX10_string_40 : decode cX10_string 40 = .ok (.getfield 78, 3) := by decide +kernel
theorem dX10_string_43 : decode cX10_string 43 = .ok (.iload_n 1, 1) := by decide +kernel
theorem dX10_string_44 : decode cX10_string 44 = .ok (.iastore, 1) := by decide +kernel
theorem dX10_string_45 : decode cX10_string 45 = .ok (.aload_n 0, 1) := by decide +kernel
theorem dX10_string_46 : decode cX10_string 46 = .ok (.dup, 1) := by decide +kernel
theorem dX10_string_47 : decode cX10_string 47 = .ok (.getfield 78, 3) := by decide +kernel
theorem dX10_string_50 : decode cX10_string 50 = .ok (.iconst 1, 1) := by decide +kernel
theorem dX10_string_51 : decode cX10_string 51 = .ok (.iadd, 1) := by decide +kernel
theorem dX10_string_52 : decode cX10_string 52 = .ok (.putfield 78, 3) := by decide +kernel
theorem dX10_string_55 : decode cX10_string 55 = .ok (.aload_n 0, 1) := by decide +kernel
theorem dX10_string_56 : decode cX10_string 56 = .ok (.iconst 0, 1) := by decide +kernel
theorem dX10_string_57 : decode cX10_string 57 = .ok (.putfield 88, 3) := by decide +kernel
theorem dX10_string_60 : decode cX10_string 60 = .ok (.aload_n 0, 1) := by decide +kernel
theorem dX10_string_61 : decode cX10_string 61 = .ok (.getfield 78, 3) := by decide +kernel
theorem dX10_string_64 : decode cX10_string 64 = .ok (.ireturn, 1) := by decide +kernel
theorem dX10_clear_0 : decode cX10_clear 0 = .ok (.aload_n 0, 1) := by decide +kernel
theorem dX10_clear_1 : decode cX10_clear 1 = .ok (.getfield 81, 3) := by decide +kernel
theorem dX10_clear_4 : decode cX10_clear 4 = .ok (.istore_n 1, 1) := by decide +kernel
theorem dX10_clear_5 : decode cX10_clear 5 = .ok (.aload_n 0, 1) := by decide +kernel
theorem dX10_clear_6 : decode cX10_clear 6 = .ok (.iconst 0, 1) := by decide +kernel
theorem dX10_clear_7 : decode cX10_clear 7 = .ok (.putfield 78, 3) := by decide +kernel
theorem dX10_clear_10 : decode cX10_clear 10 = .ok (.aload_n 0, 1) := by decide +kernel
theorem dX10_clear_11 : decode cX10_clear 11 = .ok (.iconst 0, 1) := by decide +kernel
theorem dX10_clear_12 : decode cX10_clear 12 = .ok (.putfield 81, 3) := by decide +kernel
theorem dX10_clear_15 : decode cX10_clear 15 = .ok (.aload_n 0, 1) := by decide +kernel
theorem dX10_clear_16 : decode cX10_clear 16 = .ok (.iconst 0, 1) := by decide +kernel
theorem dX10_clear_17 : decode cX10_clear 17 = .ok (.putfield 88, 3) := by decide +kernel
theorem dX10_clear_20 : decode cX10_clear 20 = .ok (.iload_n 1, 1) := by decide +kernel
theorem dX10_clear_21 : decode cX10_clear 21 = .ok (.ireturn, 1) := by decide +kernel
theorem dX10_neck_0 : decode cX10_neck 0 = .ok (.iload_n 1, 1) := by decide +kernel
theorem dX10_neck_1 : decode cX10_neck 1 = .ok (.iconst 1, 1) := by decide +kernel
theorem dX10_neck_2 : decode cX10_neck 2 = .ok (.bipush 24, 2) := by decide +kernel
theorem dX10_neck_4 : decode cX10_neck 4 = .ok (.invokestatic 84, 3) := by decide +kernel
theorem dX10_neck_7 : decode cX10_neck 7 = .ok (.ifCond .eq 11, 3) := by decide +kernel
theorem dX10_neck_10 : decode cX10_neck 10 = .ok (.iload_n 1, 1) := by decide +kernel
theorem dX10_neck_11 : decode cX10_neck 11 = .ok (.aload_n 0, 1) := by decide +kernel
theorem dX10_neck_12 : decode cX10_neck 12 = .ok (.getfield 92, 3) := by decide +kernel
theorem dX10_neck_15 : decode cX10_neck 15 = .ok (.if_icmp .gt 6, 3) := by decide +kernel
theorem dX10_neck_18 : decode cX10_neck 18 = .ok (.bipush (-2), 2) := by decide +kernel
theorem dX10_neck_20 : decode cX10_neck 20 = .ok (.ireturn, 1) := by decide +kernel
theorem dX10_neck_21 : decode cX10_neck 21 = .ok (.aload_n 0, 1) := by decide +kernel
theorem dX10_neck_22 : decode cX10_neck 22 = .ok (.getfield 13, 3) := by decide +kernel
theorem dX10_neck_25 : decode cX10_neck 25 = .ok (.istore_n 2, 1) := by decide +kernel
theorem dX10_neck_26 : decode cX10_neck 26 = .ok (.aload_n 0, 1) := by decide +kernel
theorem dX10_neck_27 : decode cX10_neck 27 = .ok (.iload_n 1, 1) := by decide +kernel
theorem dX10_neck_28 : decode cX10_neck 28 = .ok (.putfield 13, 3) := by decide +kernel
theorem dX10_neck_31 : decode cX10_neck 31 = .ok (.aload_n 0, 1) := by decide +kernel
theorem dX10_neck_32 : decode cX10_neck 32 = .ok (.iconst 0, 1) := by decide +kernel
theorem dX10_neck_33 : decode cX10_neck 33 = .ok (.putfield 88, 3) := by decide +kernel
theorem dX10_neck_36 : decode cX10_neck 36 = .ok (.iload_n 2, 1) := by decide +kernel
theorem dX10_neck_37 : decode cX10_neck 37 = .ok (.ireturn, 1) := by decide +kernel
theorem dX10_capo_0 : decode cX10_capo 0 = .ok (.iload_n 1, 1) := by decide +kernel
theorem dX10_capo_1 : decode cX10_capo 1 = .ok (.iconst 0, 1) := by decide +kernel
theorem dX10_capo_2 : decode cX10_capo 2 = .ok (.aload_n 0, 1) := by decide +kernel
theorem dX10_capo_3 : decode cX10_capo 3 = .ok (.getfield 13, 3) := by decide +kernel
theorem dX10_capo_6 : decode cX10_capo 6 = .ok (.iconst 1, 1) := by decide +kernel
theorem dX10_capo_7 : decode cX10_capo 7 = .ok (.isub, 1) := by decide +kernel
theorem dX10_capo_8 : decode cX10_capo 8 = .ok (.invokestatic 84, 3) := by decide +kernel
theorem dX10_capo_11 : decode cX10_capo 11 = .ok (.ifCond .ne 6, 3) := by decide +kernel
theorem dX10_capo_14 : decode cX10_capo 14 = .ok (.bipush (-2), 2) := by decide +kernel
theorem dX10_capo_16 : decode cX10_capo 16 = .ok (.ireturn, 1) := by decide +kernel
theorem dX10_capo_17 : decode cX10_capo 17 = .ok (.aload_n 0, 1) := by decide +kernel
theorem dX10_capo_18 : decode cX10_capo 18 = .ok (.getfield 92, 3) := by decide +kernel
theorem dX10_capo_21 : decode cX10_capo 21 = .ok (.istore_n 2, 1) := by decide +kernel
theorem dX10_capo_22 : decode cX10_capo 22 = .ok (.aload_n 0, 1) := by decide +kernel
theorem dX10_capo_23 : decode cX10_capo 23 = .ok (.iload_n 1, 1) := by decide +kernel
theorem dX10_capo_24 : decode cX10_capo 24 = .ok (.putfield 92, 3) := by decide +kernel
theorem dX10_capo_27 : decode cX10_capo 27 = .ok (.aload_n 0, 1) := by decide +kernel
theorem dX10_capo_28 : decode cX10_capo 28 = .ok (.iconst 0, 1) := by decide +kernel
theorem dX10_capo_29 : decode cX10_capo 29 = .ok (.putfield 88, 3) := by decide +kernel
theorem dX10_capo_32 : decode cX10_capo 32 = .ok (.iload_n 2, 1) := by decide +kernel
theorem dX10_capo_33 : decode cX10_capo 33 = .ok (.ireturn, 1) := by decide +kernel
theorem dX10_weight_0 : decode cX10_weight 0 = .ok (.iload_n 1, 1) := by decide +kernel
theorem dX10_weight_1 : decode cX10_weight 1 = .ok (.iconst 0, 1) := by decide +kernel
theorem dX10_weight_2 : decode cX10_weight 2 = .ok (.iconst 3, 1) := by decide +kernel
theorem dX10_weight_3 : decode cX10_weight 3 = .ok (.invokestatic 84, 3) := by decide +kernel
