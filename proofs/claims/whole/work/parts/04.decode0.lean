theorem dX0_init_0 : decode cX0_init 0 = .ok (.aload_n 0, 1) := by decide +kernel
theorem dX0_init_1 : decode cX0_init 1 = .ok (.invokespecial 3, 3) := by decide +kernel
theorem dX0_init_4 : decode cX0_init 4 = .ok (.aload_n 0, 1) := by decide +kernel
theorem dX0_init_5 : decode cX0_init 5 = .ok (.bipush 25, 2) := by decide +kernel
theorem dX0_init_7 : decode cX0_init 7 = .ok (.newarray .int, 2) := by decide +kernel
theorem dX0_init_9 : decode cX0_init 9 = .ok (.putfield 9, 3) := by decide +kernel
theorem dX0_init_12 : decode cX0_init 12 = .ok (.aload_n 0, 1) := by decide +kernel
theorem dX0_init_13 : decode cX0_init 13 = .ok (.bipush 25, 2) := by decide +kernel
theorem dX0_init_15 : decode cX0_init 15 = .ok (.newarray .int, 2) := by decide +kernel
theorem dX0_init_17 : decode cX0_init 17 = .ok (.putfield 15, 3) := by decide +kernel
theorem dX0_init_20 : decode cX0_init 20 = .ok (.aload_n 0, 1) := by decide +kernel
theorem dX0_init_21 : decode cX0_init 21 = .ok (.bipush 25, 2) := by decide +kernel
theorem dX0_init_23 : decode cX0_init 23 = .ok (.newarray .int, 2) := by decide +kernel
theorem dX0_init_25 : decode cX0_init 25 = .ok (.putfield 18, 3) := by decide +kernel
theorem dX0_init_28 : decode cX0_init 28 = .ok (.aload_n 0, 1) := by decide +kernel
theorem dX0_init_29 : decode cX0_init 29 = .ok (.bipush 25, 2) := by decide +kernel
theorem dX0_init_31 : decode cX0_init 31 = .ok (.newarray .int, 2) := by decide +kernel
theorem dX0_init_33 : decode cX0_init 33 = .ok (.putfield 21, 3) := by decide +kernel
theorem dX0_init_36 : decode cX0_init 36 = .ok (.aload_n 0, 1) := by decide +kernel
theorem dX0_init_37 : decode cX0_init 37 = .ok (.bipush 25, 2) := by decide +kernel
theorem dX0_init_39 : decode cX0_init 39 = .ok (.newarray .int, 2) := by decide +kernel
theorem dX0_init_41 : decode cX0_init 41 = .ok (.putfield 24, 3) := by decide +kernel
theorem dX0_init_44 : decode cX0_init 44 = .ok (.aload_n 0, 1) := by decide +kernel
theorem dX0_init_45 : decode cX0_init 45 = .ok (.iconst 4, 1) := by decide +kernel
theorem dX0_init_46 : decode cX0_init 46 = .ok (.newarray .int, 2) := by decide +kernel
theorem dX0_init_48 : decode cX0_init 48 = .ok (.putfield 27, 3) := by decide +kernel
theorem dX0_init_51 : decode cX0_init 51 = .ok (.aload_n 0, 1) := by decide +kernel
theorem dX0_init_52 : decode cX0_init 52 = .ok (.iconst 4, 1) := by decide +kernel
theorem dX0_init_53 : decode cX0_init 53 = .ok (.newarray .int, 2) := by decide +kernel
theorem dX0_init_55 : decode cX0_init 55 = .ok (.putfield 30, 3) := by decide +kernel
theorem dX0_init_58 : decode cX0_init 58 = .ok (.aload_n 0, 1) := by decide +kernel
theorem dX0_init_59 : decode cX0_init 59 = .ok (.iconst 4, 1) := by decide +kernel
theorem dX0_init_60 : decode cX0_init 60 = .ok (.newarray .int, 2) := by decide +kernel
theorem dX0_init_62 : decode cX0_init 62 = .ok (.putfield 33, 3) := by decide +kernel
theorem dX0_init_65 : decode cX0_init 65 = .ok (.aload_n 0, 1) := by decide +kernel
theorem dX0_init_66 : decode cX0_init 66 = .ok (.iconst 0, 1) := by decide +kernel
theorem dX0_init_67 : decode cX0_init 67 = .ok (.putfield 36, 3) := by decide +kernel
theorem dX0_init_70 : decode cX0_init 70 = .ok (.aload_n 0, 1) := by decide +kernel
theorem dX0_init_71 : decode cX0_init 71 = .ok (.iconst (-1), 1) := by decide +kernel
theorem dX0_init_72 : decode cX0_init 72 = .ok (.putfield 40, 3) := by decide +kernel
theorem dX0_init_75 : decode cX0_init 75 = .ok (.aload_n 0, 1) := by decide +kernel
theorem dX0_init_76 : decode cX0_init 76 = .ok (.iconst (-1), 1) := by decide +kernel
theorem dX0_init_77 : decode cX0_init 77 = .ok (.putfield 43, 3) := by decide +kernel
theorem dX0_init_80 : decode cX0_init 80 = .ok (.aload_n 0, 1) := by decide +kernel
theorem dX0_init_81 : decode cX0_init 81 = .ok (.iconst 0, 1) := by decide +kernel
theorem dX0_init_82 : decode cX0_init 82 = .ok (.putfield 46, 3) := by decide +kernel
theorem dX0_init_85 : decode cX0_init 85 = .ok (.aload_n 0, 1) := by decide +kernel
theorem dX0_init_86 : decode cX0_init 86 = .ok (.iconst 0, 1) := by decide +kernel
theorem dX0_init_87 : decode cX0_init 87 = .ok (.putfield 49, 3) := by decide +kernel
theorem dX0_init_90 : decode cX0_init 90 = .ok (.aload_n 0, 1) := by decide +kernel
theorem dX0_init_91 : decode cX0_init 91 = .ok (.aload_n 1, 1) := by decide +kernel
theorem dX0_init_92 : decode cX0_init 92 = .ok (.putfield 52, 3) := by decide +kernel
theorem dX0_init_95 : decode cX0_init 95 = .ok (.aload_n 0, 1) := by decide +kernel
theorem dX0_init_96 : decode cX0_init 96 = .ok (.aload_n 2, 1) := by decide +kernel
theorem dX0_init_97 : decode cX0_init 97 = .ok (.putfield 56, 3) := by decide +kernel
theorem dX0_init_100 : decode cX0_init 100 = .ok (.aload_n 0, 1) := by decide +kernel
theorem dX0_init_101 : decode cX0_init 101 = .ok (.aload_n 3, 1) := by decide +kernel
theorem dX0_init_102 : decode cX0_init 102 = .ok (.putfield 59, 3) := by decide +kernel
theorem dX0_init_105 : decode cX0_init 105 = .ok (.return_, 1) := by decide +kernel
theorem dX0_survey_0 : decode cX0_survey 0 = .ok (.aload_n 0, 1) := by decide +kernel
theorem dX0_survey_1 : decode cX0_survey 1 = .ok (.iconst (-1), 1) := by decide +kernel
theorem dX0_survey_2 : decode cX0_survey 2 = .ok (.putfield 40, 3) := by decide +kernel
theorem dX0_survey_5 : decode cX0_survey 5 = .ok (.aload_n 0, 1) := by decide +kernel
theorem dX0_survey_6 : decode cX0_survey 6 = .ok (.iload_n 1, 1) := by decide +kernel
theorem dX0_survey_7 : decode cX0_survey 7 = .ok (.invokevirtual 63, 3) := by decide +kernel
theorem dX0_survey_10 : decode cX0_survey 10 = .ok (.return_, 1) := by decide +kernel
theorem dX0_countBelow_0 : decode cX0_countBelow 0 = .ok (.iconst 0, 1) := by decide +kernel
theorem dX0_countBelow_1 : decode cX0_countBelow 1 = .ok (.istore_n 2, 1) := by decide +kernel
theorem dX0_countBelow_2 : decode cX0_countBelow 2 = .ok (.iconst 0, 1) := by decide +kernel
theorem dX0_countBelow_3 : decode cX0_countBelow 3 = .ok (.istore_n 3, 1) := by decide +kernel
theorem dX0_countBelow_4 : decode cX0_countBelow 4 = .ok (.iload_n 3, 1) := by decide +kernel
theorem dX0_countBelow_5 : decode cX0_countBelow 5 = .ok (.iload_n 1, 1) := by decide +kernel
theorem dX0_countBelow_6 : decode cX0_countBelow 6 = .ok (.if_icmp .ge 24, 3) := by decide +kernel
theorem dX0_countBelow_9 : decode cX0_countBelow 9 = .ok (.iload_n 3, 1) := by decide +kernel
theorem dX0_countBelow_10 : decode cX0_countBelow 10 = .ok (.bipush 25, 2) := by decide +kernel
theorem dX0_countBelow_12 : decode cX0_countBelow 12 = .ok (.if_icmp .ge 18, 3) := by decide +kernel
theorem dX0_countBelow_15 : decode cX0_countBelow 15 = .ok (.iload_n 2, 1) := by decide +kernel
theorem dX0_countBelow_16 : decode cX0_countBelow 16 = .ok (.aload_n 0, 1) := by decide +kernel
theorem dX0_countBelow_17 : decode cX0_countBelow 17 = .ok (.getfield 9, 3) := by decide +kernel
theorem dX0_countBelow_20 : decode cX0_countBelow 20 = .ok (.iload_n 3, 1) := by decide +kernel
theorem dX0_countBelow_21 : decode cX0_countBelow 21 = .ok (.iaload, 1) := by decide +kernel
theorem dX0_countBelow_22 : decode cX0_countBelow 22 = .ok (.iadd, 1) := by decide +kernel
theorem dX0_countBelow_23 : decode cX0_countBelow 23 = .ok (.istore_n 2, 1) := by decide +kernel
theorem dX0_countBelow_24 : decode cX0_countBelow 24 = .ok (.iinc 3 1, 3) := by decide +kernel
theorem dX0_countBelow_27 : decode cX0_countBelow 27 = .ok (.goto (-23), 3) := by decide +kernel
theorem dX0_countBelow_30 : decode cX0_countBelow 30 = .ok (.iload_n 2, 1) := by decide +kernel
theorem dX0_countBelow_31 : decode cX0_countBelow 31 = .ok (.ireturn, 1) := by decide +kernel
theorem dX0_numberOfFirstLeast_0 : decode cX0_numberOfFirstLeast 0 = .ok (.iload_n 1, 1) := by decide +kernel
theorem dX0_numberOfFirstLeast_1 : decode cX0_numberOfFirstLeast 1 = .ok (.ifCond .lt 9, 3) := by decide +kernel
theorem dX0_numberOfFirstLeast_4 : decode cX0_numberOfFirstLeast 4 = .ok (.iload_n 1, 1) := by decide +kernel
theorem dX0_numberOfFirstLeast_5 : decode cX0_numberOfFirstLeast 5 = .ok (.bipush 25, 2) := by decide +kernel
theorem dX0_numberOfFirstLeast_7 : decode cX0_numberOfFirstLeast 7 = .ok (.if_icmp .lt 5, 3) := by decide +kernel
theorem dX0_numberOfFirstLeast_10 : decode cX0_numberOfFirstLeast 10 = .ok (.iconst (-1), 1) := by decide +kernel
theorem dX0_numberOfFirstLeast_11 : decode cX0_numberOfFirstLeast 11 = .ok (.ireturn, 1) := by decide +kernel
theorem dX0_numberOfFirstLeast_12 : decode cX0_numberOfFirstLeast 12 = .ok (.aload_n 0, 1) := by decide +kernel
theorem dX0_numberOfFirstLeast_13 : decode cX0_numberOfFirstLeast 13 = .ok (.iload_n 1, 1) := by decide +kernel
theorem dX0_numberOfFirstLeast_14 : decode cX0_numberOfFirstLeast 14 = .ok (.invokevirtual 67, 3) := by decide +kernel
theorem dX0_numberOfFirstLeast_17 : decode cX0_numberOfFirstLeast 17 = .ok (.aload_n 0, 1) := by decide +kernel
theorem dX0_numberOfFirstLeast_18 : decode cX0_numberOfFirstLeast 18 = .ok (.getfield 24, 3) := by decide +kernel
theorem dX0_numberOfFirstLeast_21 : decode cX0_numberOfFirstLeast 21 = .ok (.iload_n 1, 1) := by decide +kernel
theorem dX0_numberOfFirstLeast_22 : decode cX0_numberOfFirstLeast 22 = .ok (.iaload, 1) := by decide +kernel
theorem dX0_numberOfFirstLeast_23 : decode cX0_numberOfFirstLeast 23 = .ok (.iadd, 1) := by decide +kernel
theorem dX0_numberOfFirstLeast_24 : decode cX0_numberOfFirstLeast 24 = .ok (.ireturn, 1) := by decide +kernel
theorem dX0_findNumber_0 : decode cX0_findNumber 0 = .ok (.aload_n 0, 1) := by decide +kernel
theorem dX0_findNumber_1 : decode cX0_findNumber 1 = .ok (.iload_n 1, 1) := by decide +kernel
theorem dX0_findNumber_2 : decode cX0_findNumber 2 = .ok (.invokevirtual 71, 3) := by decide +kernel
theorem dX0_findNumber_5 : decode cX0_findNumber 5 = .ok (.iload_n 2, 1) := by decide +kernel
theorem dX0_findNumber_6 : decode cX0_findNumber 6 = .ok (.ifCond .ge 5, 3) := by decide +kernel
theorem dX0_findNumber_9 : decode cX0_findNumber 9 = .ok (.iconst 0, 1) := by decide +kernel
theorem dX0_findNumber_10 : decode cX0_findNumber 10 = .ok (.ireturn, 1) := by decide +kernel
theorem dX0_findNumber_11 : decode cX0_findNumber 11 = .ok (.iload_n 2, 1) := by decide +kernel
theorem dX0_findNumber_12 : decode cX0_findNumber 12 = .ok (.istore_n 3, 1) := by decide +kernel
theorem dX0_findNumber_13 : decode cX0_findNumber 13 = .ok (.iconst 0, 1) := by decide +kernel
theorem dX0_findNumber_14 : decode cX0_findNumber 14 = .ok (.istore 4, 2) := by decide +kernel
theorem dX0_findNumber_16 : decode cX0_findNumber 16 = .ok (.iload 4, 2) := by decide +kernel
theorem dX0_findNumber_18 : decode cX0_findNumber 18 = .ok (.bipush 25, 2) := by decide +kernel
theorem dX0_findNumber_20 : decode cX0_findNumber 20 = .ok (.if_icmp .ge 48, 3) := by decide +kernel
theorem dX0_findNumber_23 : decode cX0_findNumber 23 = .ok (.iload_n 3, 1) := by decide +kernel
theorem dX0_findNumber_24 : decode cX0_findNumber 24 = .ok (.aload_n 0, 1) := by decide +kernel
theorem dX0_findNumber_25 : decode cX0_findNumber 25 = .ok (.getfield 9, 3) := by decide +kernel
theorem dX0_findNumber_28 : decode cX0_findNumber 28 = .ok (.iload 4, 2) := by decide +kernel
theorem dX0_findNumber_30 : decode cX0_findNumber 30 = .ok (.iaload, 1) := by decide +kernel
theorem dX0_findNumber_31 : decode cX0_findNumber 31 = .ok (.if_icmp .ge 21, 3) := by decide +kernel
theorem dX0_findNumber_34 : decode cX0_findNumber 34 = .ok (.aload_n 0, 1) := by decide +kernel
theorem dX0_findNumber_35 : decode cX0_findNumber 35 = .ok (.iload 4, 2) := by decide +kernel
theorem dX0_findNumber_37 : decode cX0_findNumber 37 = .ok (.putfield 40, 3) := by decide +kernel
theorem dX0_findNumber_40 : decode cX0_findNumber 40 = .ok (.aload_n 0, 1) := by decide +kernel
theorem dX0_findNumber_41 : decode cX0_findNumber 41 = .ok (.iload_n 3, 1) := by decide +kernel
theorem dX0_findNumber_42 : decode cX0_findNumber 42 = .ok (.putfield 43, 3) := by decide +kernel
theorem dX0_findNumber_45 : decode cX0_findNumber 45 = .ok (.aload_n 0, 1) := by decide +kernel
theorem dX0_findNumber_46 : decode cX0_findNumber 46 = .ok (.iload_n 1, 1) := by decide +kernel
theorem dX0_findNumber_47 : decode cX0_findNumber 47 = .ok (.invokevirtual 63, 3) := by decide +kernel
theorem dX0_findNumber_50 : decode cX0_findNumber 50 = .ok (.iconst 1, 1) := by decide +kernel
theorem dX0_findNumber_51 : decode cX0_findNumber 51 = .ok (.ireturn, 1) := by decide +kernel
theorem dX0_findNumber_52 : decode cX0_findNumber 52 = .ok (.iload_n 3, 1) := by decide +kernel
theorem dX0_findNumber_53 : decode cX0_findNumber 53 = .ok (.aload_n 0, 1) := by decide +kernel
theorem dX0_findNumber_54 : decode cX0_findNumber 54 = .ok (.getfield 9, 3) := by decide +kernel
theorem dX0_findNumber_57 : decode cX0_findNumber 57 = .ok (.iload 4, 2) := by decide +kernel
theorem dX0_findNumber_59 : decode cX0_findNumber 59 = .ok (.iaload, 1) := by decide +kernel
theorem dX0_findNumber_60 : decode cX0_findNumber 60 = .ok (.isub, 1) := by decide +kernel
theorem dX0_findNumber_61 : decode cX0_findNumber 61 = .ok (.istore_n 3, 1) := by decide +kernel
theorem dX0_findNumber_62 : decode cX0_findNumber 62 = .ok (.iinc 4 1, 3) := by decide +kernel
theorem dX0_findNumber_65 : decode cX0_findNumber 65 = .ok (.goto (-49), 3) := by decide +kernel
theorem dX0_findNumber_68 : decode cX0_findNumber 68 = .ok (.iconst 0, 1) := by decide +kernel
theorem dX0_findNumber_69 : decode cX0_findNumber 69 = .ok (.ireturn, 1) := by decide +kernel
theorem dX0_goThrough_0 : decode cX0_goThrough 0 = .ok (.iconst 0, 1) := by decide +kernel
theorem dX0_goThrough_1 : decode cX0_goThrough 1 = .ok (.istore_n 2, 1) := by decide +kernel
theorem dX0_goThrough_2 : decode cX0_goThrough 2 = .ok (.iload_n 2, 1) := by decide +kernel
theorem dX0_goThrough_3 : decode cX0_goThrough 3 = .ok (.bipush 25, 2) := by decide +kernel
theorem dX0_goThrough_5 : decode cX0_goThrough 5 = .ok (.if_icmp .ge 16, 3) := by decide +kernel
theorem dX0_goThrough_8 : decode cX0_goThrough 8 = .ok (.aload_n 0, 1) := by decide +kernel
theorem dX0_goThrough_9 : decode cX0_goThrough 9 = .ok (.getfield 9, 3) := by decide +kernel
theorem dX0_goThrough_12 : decode cX0_goThrough 12 = .ok (.iload_n 2, 1) := by decide +kernel
theorem dX0_goThrough_13 : decode cX0_goThrough 13 = .ok (.iconst 0, 1) := by decide +kernel
theorem dX0_goThrough_14 : decode cX0_goThrough 14 = .ok (.iastore, 1) := by decide +kernel
theorem dX0_goThrough_15 : decode cX0_goThrough 15 = .ok (.iinc 2 1, 3) := by decide +kernel
theorem dX0_goThrough_18 : decode cX0_goThrough 18 = .ok (.goto (-16), 3) := by decide +kernel
theorem dX0_goThrough_21 : decode cX0_goThrough 21 = .ok (.aload_n 0, 1) := by decide +kernel
theorem dX0_goThrough_22 : decode cX0_goThrough 22 = .ok (.aload_n 0, 1) := by decide +kernel
theorem dX0_goThrough_23 : decode cX0_goThrough 23 = .ok (.getfield 59, 3) := by decide +kernel
theorem dX0_goThrough_26 : decode cX0_goThrough 26 = .ok (.iload_n 1, 1) := by decide +kernel
theorem dX0_goThrough_27 : decode cX0_goThrough 27 = .ok (.invokevirtual 74, 3) := by decide +kernel
theorem dX0_goThrough_30 : decode cX0_goThrough 30 = .ok (.iconst 4, 1) := by decide +kernel
theorem dX0_goThrough_31 : decode cX0_goThrough 31 = .ok (.invokestatic 79, 3) := by decide +kernel
theorem dX0_goThrough_34 : decode cX0_goThrough 34 = .ok (.putfield 36, 3) := by decide +kernel
theorem dX0_goThrough_37 : decode cX0_goThrough 37 = .ok (.iconst 0, 1) := by decide +kernel
theorem dX0_goThrough_38 : decode cX0_goThrough 38 = .ok (.istore_n 2, 1) := by decide +kernel
theorem dX0_goThrough_39 : decode cX0_goThrough 39 = .ok (.iload_n 2, 1) := by decide +kernel
theorem dX0_goThrough_40 : decode cX0_goThrough 40 = .ok (.aload_n 0, 1) := by decide +kernel
theorem dX0_goThrough_41 : decode cX0_goThrough 41 = .ok (.getfield 36, 3) := by decide +kernel
theorem dX0_goThrough_44 : decode cX0_goThrough 44 = .ok (.if_icmp .ge 39, 3) := by decide +kernel
theorem dX0_goThrough_47 : decode cX0_goThrough 47 = .ok (.aload_n 0, 1) := by decide +kernel
theorem dX0_goThrough_48 : decode cX0_goThrough 48 = .ok (.getfield 27, 3) := by decide +kernel
theorem dX0_goThrough_51 : decode cX0_goThrough 51 = .ok (.iload_n 2, 1) := by decide +kernel
theorem dX0_goThrough_52 : decode cX0_goThrough 52 = .ok (.aload_n 0, 1) := by decide +kernel
theorem dX0_goThrough_53 : decode cX0_goThrough 53 = .ok (.getfield 59, 3) := by decide +kernel
theorem dX0_goThrough_56 : decode cX0_goThrough 56 = .ok (.iload_n 1, 1) := by decide +kernel
theorem dX0_goThrough_57 : decode cX0_goThrough 57 = .ok (.iload_n 2, 1) := by decide +kernel
theorem dX0_goThrough_58 : decode cX0_goThrough 58 = .ok (.invokevirtual 85, 3) := by decide +kernel
theorem dX0_goThrough_61 : decode cX0_goThrough 61 = .ok (.iastore, 1) := by decide +kernel
theorem dX0_goThrough_62 : decode cX0_goThrough 62 = .ok (.aload_n 0, 1) := by decide +kernel
theorem dX0_goThrough_63 : decode cX0_goThrough 63 = .ok (.getfield 30, 3) := by decide +kernel
theorem dX0_goThrough_66 : decode cX0_goThrough 66 = .ok (.iload_n 2, 1) := by decide +kernel
theorem dX0_goThrough_67 : decode cX0_goThrough 67 = .ok (.aload_n 0, 1) := by decide +kernel
theorem dX0_goThrough_68 : decode cX0_goThrough 68 = .ok (.getfield 59, 3) := by decide +kernel
theorem dX0_goThrough_71 : decode cX0_goThrough 71 = .ok (.iload_n 1, 1) := by decide +kernel
theorem dX0_goThrough_72 : decode cX0_goThrough 72 = .ok (.iload_n 2, 1) := by decide +kernel
theorem dX0_goThrough_73 : decode cX0_goThrough 73 = .ok (.invokevirtual 88, 3) := by decide +kernel
theorem dX0_goThrough_76 : decode cX0_goThrough 76 = .ok (.iastore, 1) := by decide +kernel
theorem dX0_goThrough_77 : decode cX0_goThrough 77 = .ok (.iinc 2 1, 3) := by decide +kernel
theorem dX0_goThrough_80 : decode cX0_goThrough 80 = .ok (.goto (-41), 3) := by decide +kernel
theorem dX0_goThrough_83 : decode cX0_goThrough 83 = .ok (.aload_n 0, 1) := by decide +kernel
theorem dX0_goThrough_84 : decode cX0_goThrough 84 = .ok (.iconst 0, 1) := by decide +kernel
theorem dX0_goThrough_85 : decode cX0_goThrough 85 = .ok (.iconst 0, 1) := by decide +kernel
theorem dX0_goThrough_86 : decode cX0_goThrough 86 = .ok (.iconst 0, 1) := by decide +kernel
theorem dX0_goThrough_87 : decode cX0_goThrough 87 = .ok (.aload_n 0, 1) := by decide +kernel
theorem dX0_goThrough_88 : decode cX0_goThrough 88 = .ok (.getfield 52, 3) := by decide +kernel
theorem dX0_goThrough_91 : decode cX0_goThrough 91 = .ok (.getfield 91, 3) := by decide +kernel
theorem dX0_goThrough_94 : decode cX0_goThrough 94 = .ok (.aload_n 0, 1) := by decide +kernel
theorem dX0_goThrough_95 : decode cX0_goThrough 95 = .ok (.getfield 52, 3) := by decide +kernel
theorem dX0_goThrough_98 : decode cX0_goThrough 98 = .ok (.getfield 96, 3) := by decide +kernel
theorem dX0_goThrough_101 : decode cX0_goThrough 101 = .ok (.iconst 0, 1) := by decide +kernel
theorem dX0_goThrough_102 : decode cX0_goThrough 102 = .ok (.invokevirtual 99, 3) := by decide +kernel
theorem dX0_goThrough_105 : decode cX0_goThrough 105 = .ok (.return_, 1) := by decide +kernel
theorem dX0_layFrom_0 : decode cX0_layFrom 0 = .ok (.iload 5, 2) := by decide +kernel
theorem dX0_layFrom_2 : decode cX0_layFrom 2 = .ok (.iload 4, 2) := by decide +kernel
theorem dX0_layFrom_4 : decode cX0_layFrom 4 = .ok (.isub, 1) := by decide +kernel
theorem dX0_layFrom_5 : decode cX0_layFrom 5 = .ok (.iconst 3, 1) := by decide +kernel
theorem dX0_layFrom_6 : decode cX0_layFrom 6 = .ok (.if_icmp .le 4, 3) := by decide +kernel
theorem dX0_layFrom_9 : decode cX0_layFrom 9 = .ok (.return_, 1) := by decide +kernel
theorem dX0_layFrom_10 : decode cX0_layFrom 10 = .ok (.iload_n 1, 1) := by decide +kernel
theorem dX0_layFrom_11 : decode cX0_layFrom 11 = .ok (.aload_n 0, 1) := by decide +kernel
theorem dX0_layFrom_12 : decode cX0_layFrom 12 = .ok (.getfield 36, 3) := by decide +kernel
theorem dX0_layFrom_15 : decode cX0_layFrom 15 = .ok (.if_icmp .ge 8, 3) := by decide +kernel
theorem dX0_layFrom_18 : decode cX0_layFrom 18 = .ok (.iload_n 1, 1) := by decide +kernel
theorem dX0_layFrom_19 : decode cX0_layFrom 19 = .ok (.iconst 4, 1) := by decide +kernel
theorem dX0_layFrom_20 : decode cX0_layFrom 20 = .ok (.if_icmp .lt 15, 3) := by decide +kernel
theorem dX0_layFrom_23 : decode cX0_layFrom 23 = .ok (.aload_n 0, 1) := by decide +kernel
theorem dX0_layFrom_24 : decode cX0_layFrom 24 = .ok (.iload_n 3, 1) := by decide +kernel
theorem dX0_layFrom_25 : decode cX0_layFrom 25 = .ok (.iload 4, 2) := by decide +kernel
theorem dX0_layFrom_27 : decode cX0_layFrom 27 = .ok (.iload 5, 2) := by decide +kernel
theorem dX0_layFrom_29 : decode cX0_layFrom 29 = .ok (.iload 6, 2) := by decide +kernel
theorem dX0_layFrom_31 : decode cX0_layFrom 31 = .ok (.invokevirtual 103, 3) := by decide +kernel
theorem dX0_layFrom_34 : decode cX0_layFrom 34 = .ok (.return_, 1) := by decide +kernel
theorem dX0_layFrom_35 : decode cX0_layFrom 35 = .ok (.iconst 0, 1) := by decide +kernel
theorem dX0_layFrom_36 : decode cX0_layFrom 36 = .ok (.istore 7, 2) := by decide +kernel
theorem dX0_layFrom_38 : decode cX0_layFrom 38 = .ok (.iload 7, 2) := by decide +kernel
theorem dX0_layFrom_40 : decode cX0_layFrom 40 = .ok (.aload_n 0, 1) := by decide +kernel
theorem dX0_layFrom_41 : decode cX0_layFrom 41 = .ok (.getfield 52, 3) := by decide +kernel
theorem dX0_layFrom_44 : decode cX0_layFrom 44 = .ok (.getfield 107, 3) := by decide +kernel
theorem dX0_layFrom_47 : decode cX0_layFrom 47 = .ok (.if_icmp .ge 202, 3) := by decide +kernel
theorem dX0_layFrom_50 : decode cX0_layFrom 50 = .ok (.iload_n 2, 1) := by decide +kernel
theorem dX0_layFrom_51 : decode cX0_layFrom 51 = .ok (.iconst 1, 1) := by decide +kernel
theorem dX0_layFrom_52 : decode cX0_layFrom 52 = .ok (.iload 7, 2) := by decide +kernel
theorem dX0_layFrom_54 : decode cX0_layFrom 54 = .ok (.ishl, 1) := by decide +kernel
theorem dX0_layFrom_55 : decode cX0_layFrom 55 = .ok (.iand, 1) := by decide +kernel
theorem dX0_layFrom_56 : decode cX0_layFrom 56 = .ok (.ifCond .ne 28, 3) := by decide +kernel
theorem dX0_layFrom_59 : decode cX0_layFrom 59 = .ok (.aload_n 0, 1) := by decide +kernel
theorem dX0_layFrom_60 : decode cX0_layFrom 60 = .ok (.getfield 30, 3) := by decide +kernel
theorem dX0_layFrom_63 : decode cX0_layFrom 63 = .ok (.iload_n 1, 1) := by decide +kernel
theorem dX0_layFrom_64 : decode cX0_layFrom 64 = .ok (.iaload, 1) := by decide +kernel
theorem dX0_layFrom_65 : decode cX0_layFrom 65 = .ok (.iconst (-1), 1) := by decide +kernel
theorem dX0_layFrom_66 : decode cX0_layFrom 66 = .ok (.if_icmp .eq 14, 3) := by decide +kernel
theorem dX0_layFrom_69 : decode cX0_layFrom 69 = .ok (.aload_n 0, 1) := by decide +kernel
theorem dX0_layFrom_70 : decode cX0_layFrom 70 = .ok (.getfield 30, 3) := by decide +kernel
theorem dX0_layFrom_73 : decode cX0_layFrom 73 = .ok (.iload_n 1, 1) := by decide +kernel
theorem dX0_layFrom_74 : decode cX0_layFrom 74 = .ok (.iaload, 1) := by decide +kernel
theorem dX0_layFrom_75 : decode cX0_layFrom 75 = .ok (.iload 7, 2) := by decide +kernel
theorem dX0_layFrom_77 : decode cX0_layFrom 77 = .ok (.if_icmp .ne 7, 3) := by decide +kernel
theorem dX0_layFrom_80 : decode cX0_layFrom 80 = .ok (.iconst 1, 1) := by decide +kernel
theorem dX0_layFrom_81 : decode cX0_layFrom 81 = .ok (.goto 4, 3) := by decide +kernel
theorem dX0_layFrom_84 : decode cX0_layFrom 84 = .ok (.iconst 0, 1) := by decide +kernel
theorem dX0_layFrom_85 : decode cX0_layFrom 85 = .ok (.istore 8, 2) := by decide +kernel
theorem dX0_layFrom_87 : decode cX0_layFrom 87 = .ok (.iload 8, 2) := by decide +kernel
theorem dX0_layFrom_89 : decode cX0_layFrom 89 = .ok (.ifCond .eq 21, 3) := by decide +kernel
theorem dX0_layFrom_92 : decode cX0_layFrom 92 = .ok (.aload_n 0, 1) := by decide +kernel
theorem dX0_layFrom_93 : decode cX0_layFrom 93 = .ok (.getfield 52, 3) := by decide +kernel
theorem dX0_layFrom_96 : decode cX0_layFrom 96 = .ok (.iload 7, 2) := by decide +kernel
theorem dX0_layFrom_98 : decode cX0_layFrom 98 = .ok (.aload_n 0, 1) := by decide +kernel
theorem dX0_layFrom_99 : decode cX0_layFrom 99 = .ok (.getfield 27, 3) := by decide +kernel
theorem dX0_layFrom_102 : decode cX0_layFrom 102 = .ok (.iload_n 1, 1) := by decide +kernel
theorem dX0_layFrom_103 : decode cX0_layFrom 103 = .ok (.iaload, 1) := by decide +kernel
theorem dX0_layFrom_104 : decode cX0_layFrom 104 = .ok (.invokevirtual 110, 3) := by decide +kernel
theorem dX0_layFrom_107 : decode cX0_layFrom 107 = .ok (.goto 4, 3) := by decide +kernel
theorem dX0_layFrom_110 : decode cX0_layFrom 110 = .ok (.iconst (-1), 1) := by decide +kernel
theorem dX0_layFrom_111 : decode cX0_layFrom 111 = .ok (.istore 9, 2) := by decide +kernel
theorem dX0_layFrom_113 : decode cX0_layFrom 113 = .ok (.iload 9, 2) := by decide +kernel
theorem dX0_layFrom_115 : decode cX0_layFrom 115 = .ok (.iconst (-1), 1) := by decide +kernel
theorem dX0_layFrom_116 : decode cX0_layFrom 116 = .ok (.if_icmp .ne 6, 3) := by decide +kernel
theorem dX0_layFrom_119 : decode cX0_layFrom 119 = .ok (.goto 124, 3) := by decide +kernel
theorem dX0_layFrom_122 : decode cX0_layFrom 122 = .ok (.aload_n 0, 1) := by decide +kernel
theorem dX0_layFrom_123 : decode cX0_layFrom 123 = .ok (.getfield 33, 3) := by decide +kernel
theorem dX0_layFrom_126 : decode cX0_layFrom 126 = .ok (.iload_n 1, 1) := by decide +kernel
theorem dX0_layFrom_127 : decode cX0_layFrom 127 = .ok (.iload 9, 2) := by decide +kernel
theorem dX0_layFrom_129 : decode cX0_layFrom 129 = .ok (.iastore, 1) := by decide +kernel
theorem dX0_layFrom_130 : decode cX0_layFrom 130 = .ok (.iload_n 2, 1) := by decide +kernel
theorem dX0_layFrom_131 : decode cX0_layFrom 131 = .ok (.iconst 1, 1) := by decide +kernel
theorem dX0_layFrom_132 : decode cX0_layFrom 132 = .ok (.iload 7, 2) := by decide +kernel
theorem dX0_layFrom_134 : decode cX0_layFrom 134 = .ok (.ishl, 1) := by decide +kernel
theorem dX0_layFrom_135 : decode cX0_layFrom 135 = .ok (.ior, 1) := by decide +kernel
theorem dX0_layFrom_136 : decode cX0_layFrom 136 = .ok (.istore 10, 2) := by decide +kernel
theorem dX0_layFrom_138 : decode cX0_layFrom 138 = .ok (.iload_n 3, 1) := by decide +kernel
theorem dX0_layFrom_139 : decode cX0_layFrom 139 = .ok (.iload_n 1, 1) := by decide +kernel
theorem dX0_layFrom_140 : decode cX0_layFrom 140 = .ok (.iload 7, 2) := by decide +kernel
theorem dX0_layFrom_142 : decode cX0_layFrom 142 = .ok (.invokestatic 113, 3) := by decide +kernel
theorem dX0_layFrom_145 : decode cX0_layFrom 145 = .ok (.istore 11, 2) := by decide +kernel
theorem dX0_layFrom_147 : decode cX0_layFrom 147 = .ok (.iload 9, 2) := by decide +kernel
theorem dX0_layFrom_149 : decode cX0_layFrom 149 = .ok (.aload_n 0, 1) := by decide +kernel
theorem dX0_layFrom_150 : decode cX0_layFrom 150 = .ok (.getfield 52, 3) := by decide +kernel
theorem dX0_layFrom_153 : decode cX0_layFrom 153 = .ok (.getfield 96, 3) := by decide +kernel
theorem dX0_layFrom_156 : decode cX0_layFrom 156 = .ok (.if_icmp .ne 30, 3) := by decide +kernel
theorem dX0_layFrom_159 : decode cX0_layFrom 159 = .ok (.aload_n 0, 1) := by decide +kernel
theorem dX0_layFrom_160 : decode cX0_layFrom 160 = .ok (.iload_n 1, 1) := by decide +kernel
theorem dX0_layFrom_161 : decode cX0_layFrom 161 = .ok (.iconst 1, 1) := by decide +kernel
theorem dX0_layFrom_162 : decode cX0_layFrom 162 = .ok (.iadd, 1) := by decide +kernel
theorem dX0_layFrom_163 : decode cX0_layFrom 163 = .ok (.iload 10, 2) := by decide +kernel
theorem dX0_layFrom_165 : decode cX0_layFrom 165 = .ok (.iload 11, 2) := by decide +kernel
theorem dX0_layFrom_167 : decode cX0_layFrom 167 = .ok (.iload 4, 2) := by decide +kernel
theorem dX0_layFrom_169 : decode cX0_layFrom 169 = .ok (.iload 5, 2) := by decide +kernel
theorem dX0_layFrom_171 : decode cX0_layFrom 171 = .ok (.iload 6, 2) := by decide +kernel
theorem dX0_layFrom_173 : decode cX0_layFrom 173 = .ok (.aload_n 0, 1) := by decide +kernel
theorem dX0_layFrom_174 : decode cX0_layFrom 174 = .ok (.getfield 56, 3) := by decide +kernel
theorem dX0_layFrom_177 : decode cX0_layFrom 177 = .ok (.iconst 3, 1) := by decide +kernel
theorem dX0_layFrom_178 : decode cX0_layFrom 178 = .ok (.iaload, 1) := by decide +kernel
theorem dX0_layFrom_179 : decode cX0_layFrom 179 = .ok (.iadd, 1) := by decide +kernel
theorem dX0_layFrom_180 : decode cX0_layFrom 180 = .ok (.invokevirtual 99, 3) := by decide +kernel
theorem dX0_layFrom_183 : decode cX0_layFrom 183 = .ok (.goto 60, 3) := by decide +kernel
theorem dX0_layFrom_186 : decode cX0_layFrom 186 = .ok (.iload 6, 2) := by decide +kernel
theorem dX0_layFrom_188 : decode cX0_layFrom 188 = .ok (.aload_n 0, 1) := by decide +kernel
theorem dX0_layFrom_189 : decode cX0_layFrom 189 = .ok (.getfield 56, 3) := by decide +kernel
theorem dX0_layFrom_192 : decode cX0_layFrom 192 = .ok (.iconst 1, 1) := by decide +kernel
theorem dX0_layFrom_193 : decode cX0_layFrom 193 = .ok (.iaload, 1) := by decide +kernel
theorem dX0_layFrom_194 : decode cX0_layFrom 194 = .ok (.iload 9, 2) := by decide +kernel
theorem dX0_layFrom_196 : decode cX0_layFrom 196 = .ok (.aload_n 0, 1) := by decide +kernel
theorem dX0_layFrom_197 : decode cX0_layFrom 197 = .ok (.getfield 52, 3) := by decide +kernel
theorem dX0_layFrom_200 : decode cX0_layFrom 200 = .ok (.getfield 96, 3) := by decide +kernel
theorem dX0_layFrom_203 : decode cX0_layFrom 203 = .ok (.isub, 1) := by decide +kernel
theorem dX0_layFrom_204 : decode cX0_layFrom 204 = .ok (.imul, 1) := by decide +kernel
theorem dX0_layFrom_205 : decode cX0_layFrom 205 = .ok (.iadd, 1) := by decide +kernel
theorem dX0_layFrom_206 : decode cX0_layFrom 206 = .ok (.istore 12, 2) := by decide +kernel
theorem dX0_layFrom_208 : decode cX0_layFrom 208 = .ok (.iload 4, 2) := by decide +kernel
theorem dX0_layFrom_210 : decode cX0_layFrom 210 = .ok (.iload 9, 2) := by decide +kernel
theorem dX0_layFrom_212 : decode cX0_layFrom 212 = .ok (.invokestatic 79, 3) := by decide +kernel
theorem dX0_layFrom_215 : decode cX0_layFrom 215 = .ok (.istore 13, 2) := by decide +kernel
theorem dX0_layFrom_217 : decode cX0_layFrom 217 = .ok (.iload 5, 2) := by decide +kernel
theorem dX0_layFrom_219 : decode cX0_layFrom 219 = .ok (.iload 9, 2) := by decide +kernel
theorem dX0_layFrom_221 : decode cX0_layFrom 221 = .ok (.invokestatic 119, 3) := by decide +kernel
theorem dX0_layFrom_224 : decode cX0_layFrom 224 = .ok (.istore 14, 2) := by decide +kernel
theorem dX0_layFrom_226 : decode cX0_layFrom 226 = .ok (.aload_n 0, 1) := by decide +kernel
theorem dX0_layFrom_227 : decode cX0_layFrom 227 = .ok (.iload_n 1, 1) := by decide +kernel
theorem dX0_layFrom_228 : decode cX0_layFrom 228 = .ok (.iconst 1, 1) := by decide +kernel
theorem dX0_layFrom_229 : decode cX0_layFrom 229 = .ok (.iadd, 1) := by decide +kernel
theorem dX0_layFrom_230 : decode cX0_layFrom 230 = .ok (.iload 10, 2) := by decide +kernel
theorem dX0_layFrom_232 : decode cX0_layFrom 232 = .ok (.iload 11, 2) := by decide +kernel
theorem dX0_layFrom_234 : decode cX0_layFrom 234 = .ok (.iload 13, 2) := by decide +kernel
theorem dX0_layFrom_236 : decode cX0_layFrom 236 = .ok (.iload 14, 2) := by decide +kernel
theorem dX0_layFrom_238 : decode cX0_layFrom 238 = .ok (.iload 12, 2) := by decide +kernel
theorem dX0_layFrom_240 : decode cX0_layFrom 240 = .ok (.invokevirtual 99, 3) := by decide +kernel
theorem dX0_layFrom_243 : decode cX0_layFrom 243 = .ok (.iinc 7 1, 3) := by decide +kernel
theorem dX0_layFrom_246 : decode cX0_layFrom 246 = .ok (.goto (-208), 3) := by decide +kernel
theorem dX0_layFrom_249 : decode cX0_layFrom 249 = .ok (.return_, 1) := by decide +kernel
theorem dX0_tellPositions_0 : decode cX0_tellPositions 0 = .ok (.aload_n 0, 1) := by decide +kernel
theorem dX0_tellPositions_1 : decode cX0_tellPositions 1 = .ok (.getfield 52, 3) := by decide +kernel
theorem dX0_tellPositions_4 : decode cX0_tellPositions 4 = .ok (.getfield 96, 3) := by decide +kernel
theorem dX0_tellPositions_7 : decode cX0_tellPositions 7 = .ok (.iconst 1, 1) := by decide +kernel
theorem dX0_tellPositions_8 : decode cX0_tellPositions 8 = .ok (.iadd, 1) := by decide +kernel
theorem dX0_tellPositions_9 : decode cX0_tellPositions 9 = .ok (.iload_n 3, 1) := by decide +kernel
theorem dX0_tellPositions_10 : decode cX0_tellPositions 10 = .ok (.iconst 3, 1) := by decide +kernel
theorem dX0_tellPositions_11 : decode cX0_tellPositions 11 = .ok (.isub, 1) := by decide +kernel
theorem dX0_tellPositions_12 : decode cX0_tellPositions 12 = .ok (.invokestatic 119, 3) := by decide +kernel
theorem dX0_tellPositions_15 : decode cX0_tellPositions 15 = .ok (.istore 5, 2) := by decide +kernel
theorem dX0_tellPositions_17 : decode cX0_tellPositions 17 = .ok (.iload 5, 2) := by decide +kernel
theorem dX0_tellPositions_19 : decode cX0_tellPositions 19 = .ok (.istore 6, 2) := by decide +kernel
theorem dX0_tellPositions_21 : decode cX0_tellPositions 21 = .ok (.iload 6, 2) := by decide +kernel
theorem dX0_tellPositions_23 : decode cX0_tellPositions 23 = .ok (.iload_n 2, 1) := by decide +kernel
theorem dX0_tellPositions_24 : decode cX0_tellPositions 24 = .ok (.if_icmp .gt 34, 3) := by decide +kernel
theorem dX0_tellPositions_27 : decode cX0_tellPositions 27 = .ok (.aload_n 0, 1) := by decide +kernel
theorem dX0_tellPositions_28 : decode cX0_tellPositions 28 = .ok (.iload 6, 2) := by decide +kernel
theorem dX0_tellPositions_30 : decode cX0_tellPositions 30 = .ok (.iload_n 1, 1) := by decide +kernel
theorem dX0_tellPositions_31 : decode cX0_tellPositions 31 = .ok (.iload 4, 2) := by decide +kernel
theorem dX0_tellPositions_33 : decode cX0_tellPositions 33 = .ok (.aload_n 0, 1) := by decide +kernel
theorem dX0_tellPositions_34 : decode cX0_tellPositions 34 = .ok (.getfield 56, 3) := by decide +kernel
theorem dX0_tellPositions_37 : decode cX0_tellPositions 37 = .ok (.iconst 2, 1) := by decide +kernel
theorem dX0_tellPositions_38 : decode cX0_tellPositions 38 = .ok (.iaload, 1) := by decide +kernel
theorem dX0_tellPositions_39 : decode cX0_tellPositions 39 = .ok (.aload_n 0, 1) := by decide +kernel
theorem dX0_tellPositions_40 : decode cX0_tellPositions 40 = .ok (.iload 6, 2) := by decide +kernel
theorem dX0_tellPositions_42 : decode cX0_tellPositions 42 = .ok (.iconst 3, 1) := by decide +kernel
theorem dX0_tellPositions_43 : decode cX0_tellPositions 43 = .ok (.iadd, 1) := by decide +kernel
theorem dX0_tellPositions_44 : decode cX0_tellPositions 44 = .ok (.invokevirtual 122, 3) := by decide +kernel
theorem dX0_tellPositions_47 : decode cX0_tellPositions 47 = .ok (.imul, 1) := by decide +kernel
theorem dX0_tellPositions_48 : decode cX0_tellPositions 48 = .ok (.iadd, 1) := by decide +kernel
theorem dX0_tellPositions_49 : decode cX0_tellPositions 49 = .ok (.invokevirtual 125, 3) := by decide +kernel
theorem dX0_tellPositions_52 : decode cX0_tellPositions 52 = .ok (.iinc 6 1, 3) := by decide +kernel
theorem dX0_tellPositions_55 : decode cX0_tellPositions 55 = .ok (.goto (-34), 3) := by decide +kernel
theorem dX0_tellPositions_58 : decode cX0_tellPositions 58 = .ok (.return_, 1) := by decide +kernel
theorem dX0_pitchesAt_0 : decode cX0_pitchesAt 0 = .ok (.iconst 0, 1) := by decide +kernel
theorem dX0_pitchesAt_1 : decode cX0_pitchesAt 1 = .ok (.istore_n 2, 1) := by decide +kernel
theorem dX0_pitchesAt_2 : decode cX0_pitchesAt 2 = .ok (.iconst 0, 1) := by decide +kernel
theorem dX0_pitchesAt_3 : decode cX0_pitchesAt 3 = .ok (.istore_n 3, 1) := by decide +kernel
theorem dX0_pitchesAt_4 : decode cX0_pitchesAt 4 = .ok (.iload_n 3, 1) := by decide +kernel
theorem dX0_pitchesAt_5 : decode cX0_pitchesAt 5 = .ok (.aload_n 0, 1) := by decide +kernel
theorem dX0_pitchesAt_6 : decode cX0_pitchesAt 6 = .ok (.getfield 36, 3) := by decide +kernel
theorem dX0_pitchesAt_9 : decode cX0_pitchesAt 9 = .ok (.if_icmp .ge 27, 3) := by decide +kernel
theorem dX0_pitchesAt_12 : decode cX0_pitchesAt 12 = .ok (.iload_n 3, 1) := by decide +kernel
theorem dX0_pitchesAt_13 : decode cX0_pitchesAt 13 = .ok (.iconst 4, 1) := by decide +kernel
theorem dX0_pitchesAt_14 : decode cX0_pitchesAt 14 = .ok (.if_icmp .ge 22, 3) := by decide +kernel
theorem dX0_pitchesAt_17 : decode cX0_pitchesAt 17 = .ok (.aload_n 0, 1) := by decide +kernel
theorem dX0_pitchesAt_18 : decode cX0_pitchesAt 18 = .ok (.getfield 33, 3) := by decide +kernel
theorem dX0_pitchesAt_21 : decode cX0_pitchesAt 21 = .ok (.iload_n 3, 1) := by decide +kernel
theorem dX0_pitchesAt_22 : decode cX0_pitchesAt 22 = .ok (.iaload, 1) := by decide +kernel
theorem dX0_pitchesAt_23 : decode cX0_pitchesAt 23 = .ok (.iload_n 1, 1) := by decide +kernel
theorem dX0_pitchesAt_24 : decode cX0_pitchesAt 24 = .ok (.if_icmp .ne 6, 3) := by decide +kernel
theorem dX0_pitchesAt_27 : decode cX0_pitchesAt 27 = .ok (.iinc 2 1, 3) := by decide +kernel
theorem dX0_pitchesAt_30 : decode cX0_pitchesAt 30 = .ok (.iinc 3 1, 3) := by decide +kernel
theorem dX0_pitchesAt_33 : decode cX0_pitchesAt 33 = .ok (.goto (-29), 3) := by decide +kernel
theorem dX0_pitchesAt_36 : decode cX0_pitchesAt 36 = .ok (.iload_n 2, 1) := by decide +kernel
theorem dX0_pitchesAt_37 : decode cX0_pitchesAt 37 = .ok (.ireturn, 1) := by decide +kernel
theorem dX0_tell_0 : decode cX0_tell 0 = .ok (.iload_n 1, 1) := by decide +kernel
theorem dX0_tell_1 : decode cX0_tell 1 = .ok (.ifCond .lt 9, 3) := by decide +kernel
theorem dX0_tell_4 : decode cX0_tell 4 = .ok (.iload_n 1, 1) := by decide +kernel
theorem dX0_tell_5 : decode cX0_tell 5 = .ok (.bipush 25, 2) := by decide +kernel
theorem dX0_tell_7 : decode cX0_tell 7 = .ok (.if_icmp .lt 4, 3) := by decide +kernel
theorem dX0_tell_10 : decode cX0_tell 10 = .ok (.return_, 1) := by decide +kernel
theorem dX0_tell_11 : decode cX0_tell 11 = .ok (.aload_n 0, 1) := by decide +kernel
theorem dX0_tell_12 : decode cX0_tell 12 = .ok (.getfield 9, 3) := by decide +kernel
theorem dX0_tell_15 : decode cX0_tell 15 = .ok (.iload_n 1, 1) := by decide +kernel
theorem dX0_tell_16 : decode cX0_tell 16 = .ok (.iaload, 1) := by decide +kernel
theorem dX0_tell_17 : decode cX0_tell 17 = .ok (.istore 4, 2) := by decide +kernel
theorem dX0_tell_19 : decode cX0_tell 19 = .ok (.aload_n 0, 1) := by decide +kernel
theorem dX0_tell_20 : decode cX0_tell 20 = .ok (.getfield 9, 3) := by decide +kernel
theorem dX0_tell_23 : decode cX0_tell 23 = .ok (.iload_n 1, 1) := by decide +kernel
theorem dX0_tell_24 : decode cX0_tell 24 = .ok (.dup2, 1) := by decide +kernel
theorem dX0_tell_25 : decode cX0_tell 25 = .ok (.iaload, 1) := by decide +kernel
theorem dX0_tell_26 : decode cX0_tell 26 = .ok (.iconst 1, 1) := by decide +kernel
theorem dX0_tell_27 : decode cX0_tell 27 = .ok (.iadd, 1) := by decide +kernel
theorem dX0_tell_28 : decode cX0_tell 28 = .ok (.iastore, 1) := by decide +kernel
theorem dX0_tell_29 : decode cX0_tell 29 = .ok (.iload 4, 2) := by decide +kernel
theorem dX0_tell_31 : decode cX0_tell 31 = .ok (.ifCond .eq 13, 3) := by decide +kernel
theorem dX0_tell_34 : decode cX0_tell 34 = .ok (.iload_n 3, 1) := by decide +kernel
theorem dX0_tell_35 : decode cX0_tell 35 = .ok (.aload_n 0, 1) := by decide +kernel
theorem dX0_tell_36 : decode cX0_tell 36 = .ok (.getfield 15, 3) := by decide +kernel
theorem dX0_tell_39 : decode cX0_tell 39 = .ok (.iload_n 1, 1) := by decide +kernel
theorem dX0_tell_40 : decode cX0_tell 40 = .ok (.iaload, 1) := by decide +kernel
theorem dX0_tell_41 : decode cX0_tell 41 = .ok (.if_icmp .ge 35, 3) := by decide +kernel
theorem dX0_tell_44 : decode cX0_tell 44 = .ok (.aload_n 0, 1) := by decide +kernel
theorem dX0_tell_45 : decode cX0_tell 45 = .ok (.getfield 15, 3) := by decide +kernel
theorem dX0_tell_48 : decode cX0_tell 48 = .ok (.iload_n 1, 1) := by decide +kernel
theorem dX0_tell_49 : decode cX0_tell 49 = .ok (.iload_n 3, 1) := by decide +kernel
theorem dX0_tell_50 : decode cX0_tell 50 = .ok (.iastore, 1) := by decide +kernel
theorem dX0_tell_51 : decode cX0_tell 51 = .ok (.aload_n 0, 1) := by decide +kernel
theorem dX0_tell_52 : decode cX0_tell 52 = .ok (.getfield 18, 3) := by decide +kernel
theorem dX0_tell_55 : decode cX0_tell 55 = .ok (.iload_n 1, 1) := by decide +kernel
theorem dX0_tell_56 : decode cX0_tell 56 = .ok (.iconst 1, 1) := by decide +kernel
theorem dX0_tell_57 : decode cX0_tell 57 = .ok (.iastore, 1) := by decide +kernel
theorem dX0_tell_58 : decode cX0_tell 58 = .ok (.aload_n 0, 1) := by decide +kernel
theorem dX0_tell_59 : decode cX0_tell 59 = .ok (.getfield 24, 3) := by decide +kernel
theorem dX0_tell_62 : decode cX0_tell 62 = .ok (.iload_n 1, 1) := by decide +kernel
theorem dX0_tell_63 : decode cX0_tell 63 = .ok (.iload 4, 2) := by decide +kernel
theorem dX0_tell_65 : decode cX0_tell 65 = .ok (.iastore, 1) := by decide +kernel
theorem dX0_tell_66 : decode cX0_tell 66 = .ok (.aload_n 0, 1) := by decide +kernel
theorem dX0_tell_67 : decode cX0_tell 67 = .ok (.getfield 21, 3) := by decide +kernel
theorem dX0_tell_70 : decode cX0_tell 70 = .ok (.iload_n 1, 1) := by decide +kernel
theorem dX0_tell_71 : decode cX0_tell 71 = .ok (.iload_n 2, 1) := by decide +kernel
theorem dX0_tell_72 : decode cX0_tell 72 = .ok (.iastore, 1) := by decide +kernel
theorem dX0_tell_73 : decode cX0_tell 73 = .ok (.goto 23, 3) := by decide +kernel
theorem dX0_tell_76 : decode cX0_tell 76 = .ok (.iload_n 3, 1) := by decide +kernel
theorem dX0_tell_77 : decode cX0_tell 77 = .ok (.aload_n 0, 1) := by decide +kernel
theorem dX0_tell_78 : decode cX0_tell 78 = .ok (.getfield 15, 3) := by decide +kernel
theorem dX0_tell_81 : decode cX0_tell 81 = .ok (.iload_n 1, 1) := by decide +kernel
theorem dX0_tell_82 : decode cX0_tell 82 = .ok (.iaload, 1) := by decide +kernel
theorem dX0_tell_83 : decode cX0_tell 83 = .ok (.if_icmp .ne 13, 3) := by decide +kernel
theorem dX0_tell_86 : decode cX0_tell 86 = .ok (.aload_n 0, 1) := by decide +kernel
theorem dX0_tell_87 : decode cX0_tell 87 = .ok (.getfield 18, 3) := by decide +kernel
theorem dX0_tell_90 : decode cX0_tell 90 = .ok (.iload_n 1, 1) := by decide +kernel
theorem dX0_tell_91 : decode cX0_tell 91 = .ok (.dup2, 1) := by decide +kernel
theorem dX0_tell_92 : decode cX0_tell 92 = .ok (.iaload, 1) := by decide +kernel
theorem dX0_tell_93 : decode cX0_tell 93 = .ok (.iconst 1, 1) := by decide +kernel
theorem dX0_tell_94 : decode cX0_tell 94 = .ok (.iadd, 1) := by decide +kernel
theorem dX0_tell_95 : decode cX0_tell 95 = .ok (.iastore, 1) := by decide +kernel
theorem dX0_tell_96 : decode cX0_tell 96 = .ok (.iload_n 1, 1) := by decide +kernel
theorem dX0_tell_97 : decode cX0_tell 97 = .ok (.aload_n 0, 1) := by decide +kernel
theorem dX0_tell_98 : decode cX0_tell 98 = .ok (.getfield 40, 3) := by decide +kernel
theorem dX0_tell_101 : decode cX0_tell 101 = .ok (.if_icmp .ne 22, 3) := by decide +kernel
theorem dX0_tell_104 : decode cX0_tell 104 = .ok (.iload 4, 2) := by decide +kernel
theorem dX0_tell_106 : decode cX0_tell 106 = .ok (.aload_n 0, 1) := by decide +kernel
theorem dX0_tell_107 : decode cX0_tell 107 = .ok (.getfield 43, 3) := by decide +kernel
theorem dX0_tell_110 : decode cX0_tell 110 = .ok (.if_icmp .ne 13, 3) := by decide +kernel
theorem dX0_tell_113 : decode cX0_tell 113 = .ok (.aload_n 0, 1) := by decide +kernel
theorem dX0_tell_114 : decode cX0_tell 114 = .ok (.iload_n 2, 1) := by decide +kernel
theorem dX0_tell_115 : decode cX0_tell 115 = .ok (.putfield 46, 3) := by decide +kernel
theorem dX0_tell_118 : decode cX0_tell 118 = .ok (.aload_n 0, 1) := by decide +kernel
theorem dX0_tell_119 : decode cX0_tell 119 = .ok (.iload_n 3, 1) := by decide +kernel
theorem dX0_tell_120 : decode cX0_tell 120 = .ok (.putfield 49, 3) := by decide +kernel
theorem dX0_tell_123 : decode cX0_tell 123 = .ok (.return_, 1) := by decide +kernel
theorem dX1_init_0 : decode cX1_init 0 = .ok (.aload_n 0, 1) := by decide +kernel
theorem dX1_init_1 : decode cX1_init 1 = .ok (.invokespecial 3, 3) := by decide +kernel
theorem dX1_init_4 : decode cX1_init 4 = .ok (.aload_n 0, 1) := by decide +kernel
theorem dX1_init_5 : decode cX1_init 5 = .ok (.bipush 7, 2) := by decide +kernel
theorem dX1_init_7 : decode cX1_init 7 = .ok (.newarray .int, 2) := by decide +kernel
theorem dX1_init_9 : decode cX1_init 9 = .ok (.putfield 9, 3) := by decide +kernel
theorem dX1_init_12 : decode cX1_init 12 = .ok (.aload_n 0, 1) := by decide +kernel
theorem dX1_init_13 : decode cX1_init 13 = .ok (.iconst 0, 1) := by decide +kernel
theorem dX1_init_14 : decode cX1_init 14 = .ok (.putfield 15, 3) := by decide +kernel
theorem dX1_init_17 : decode cX1_init 17 = .ok (.aload_n 0, 1) := by decide +kernel
theorem dX1_init_18 : decode cX1_init 18 = .ok (.bipush 12, 2) := by decide +kernel
theorem dX1_init_20 : decode cX1_init 20 = .ok (.putfield 19, 3) := by decide +kernel
theorem dX1_init_23 : decode cX1_init 23 = .ok (.aload_n 0, 1) := by decide +kernel
theorem dX1_init_24 : decode cX1_init 24 = .ok (.iconst 0, 1) := by decide +kernel
theorem dX1_init_25 : decode cX1_init 25 = .ok (.putfield 22, 3) := by decide +kernel
theorem dX1_init_28 : decode cX1_init 28 = .ok (.return_, 1) := by decide +kernel
theorem dX1_hasString_0 : decode cX1_hasString 0 = .ok (.iload_n 1, 1) := by decide +kernel
theorem dX1_hasString_1 : decode cX1_hasString 1 = .ok (.ifCond .lt 15, 3) := by decide +kernel
theorem dX1_hasString_4 : decode cX1_hasString 4 = .ok (.iload_n 1, 1) := by decide +kernel
theorem dX1_hasString_5 : decode cX1_hasString 5 = .ok (.aload_n 0, 1) := by decide +kernel
theorem dX1_hasString_6 : decode cX1_hasString 6 = .ok (.getfield 15, 3) := by decide +kernel
theorem dX1_hasString_9 : decode cX1_hasString 9 = .ok (.if_icmp .ge 7, 3) := by decide +kernel
theorem dX1_hasString_12 : decode cX1_hasString 12 = .ok (.iconst 1, 1) := by decide +kernel
theorem dX1_hasString_13 : decode cX1_hasString 13 = .ok (.goto 4, 3) := by decide +kernel
theorem dX1_hasString_16 : decode cX1_hasString 16 = .ok (.iconst 0, 1) := by decide +kernel
theorem dX1_hasString_17 : decode cX1_hasString 17 = .ok (.ireturn, 1) := by decide +kernel
theorem dX1_addString_0 : decode cX1_addString 0 = .ok (.aload_n 0, 1) := by decide +kernel
theorem dX1_addString_1 : decode cX1_addString 1 = .ok (.getfield 15, 3) := by decide +kernel
theorem dX1_addString_4 : decode cX1_addString 4 = .ok (.bipush 7, 2) := by decide +kernel
theorem dX1_addString_6 : decode cX1_addString 6 = .ok (.if_icmp .lt 5, 3) := by decide +kernel
theorem dX1_addString_9 : decode cX1_addString 9 = .ok (.iconst 0, 1) := by decide +kernel
theorem dX1_addString_10 : decode cX1_addString 10 = .ok (.ireturn, 1) := by decide +kernel
theorem dX1_addString_11 : decode cX1_addString 11 = .ok (.aload_n 0, 1) := by decide +kernel
theorem dX1_addString_12 : decode cX1_addString 12 = .ok (.getfield 9, 3) := by decide +kernel
theorem dX1_addString_15 : decode cX1_addString 15 = .ok (.aload_n 0, 1) := by decide +kernel
theorem dX1_addString_16 : decode cX1_addString 16 = .ok (.getfield 15, 3) := by decide +kernel
theorem dX1_addString_19 : decode cX1_addString 19 = .ok (.iload_n 1, 1) := by decide +kernel
theorem dX1_addString_20 : decode cX1_addString 20 = .ok (.iastore, 1) := by decide +kernel
theorem dX1_addString_21 : decode cX1_addString 21 = .ok (.aload_n 0, 1) := by decide +kernel
theorem dX1_addString_22 : decode cX1_addString 22 = .ok (.dup, 1) := by decide +kernel
theorem dX1_addString_23 : decode cX1_addString 23 = .ok (.getfield 15, 3) := by decide +kernel
theorem dX1_addString_26 : decode cX1_addString 26 = .ok (.iconst 1, 1) := by decide +kernel
theorem dX1_addString_27 : decode cX1_addString 27 = .ok (.iadd, 1) := by decide +kernel
theorem dX1_addString_28 : decode cX1_addString 28 = .ok (.putfield 15, 3) := by decide +kernel
theorem dX1_addString_31 : decode cX1_addString 31 = .ok (.iconst 1, 1) := by decide +kernel
theorem dX1_addString_32 : decode cX1_addString 32 = .ok (.ireturn, 1) := by decide +kernel
theorem dX1_fretOf_0 : decode cX1_fretOf 0 = .ok (.aload_n 0, 1) := by decide +kernel
theorem dX1_fretOf_1 : decode cX1_fretOf 1 = .ok (.iload_n 1, 1) := by decide +kernel
theorem dX1_fretOf_2 : decode cX1_fretOf 2 = .ok (.invokevirtual 25, 3) := by decide +kernel
theorem dX1_fretOf_5 : decode cX1_fretOf 5 = .ok (.ifCond .ne 5, 3) := by decide +kernel
theorem dX1_fretOf_8 : decode cX1_fretOf 8 = .ok (.iconst (-1), 1) := by decide +kernel
theorem dX1_fretOf_9 : decode cX1_fretOf 9 = .ok (.ireturn, 1) := by decide +kernel
theorem dX1_fretOf_10 : decode cX1_fretOf 10 = .ok (.iload_n 2, 1) := by decide +kernel
theorem dX1_fretOf_11 : decode cX1_fretOf 11 = .ok (.aload_n 0, 1) := by decide +kernel
theorem dX1_fretOf_12 : decode cX1_fretOf 12 = .ok (.getfield 9, 3) := by decide +kernel
theorem dX1_fretOf_15 : decode cX1_fretOf 15 = .ok (.iload_n 1, 1) := by decide +kernel
theorem dX1_fretOf_16 : decode cX1_fretOf 16 = .ok (.iaload, 1) := by decide +kernel
theorem dX1_fretOf_17 : decode cX1_fretOf 17 = .ok (.isub, 1) := by decide +kernel
theorem dX1_fretOf_18 : decode cX1_fretOf 18 = .ok (.istore_n 3, 1) := by decide +kernel
theorem dX1_fretOf_19 : decode cX1_fretOf 19 = .ok (.iload_n 3, 1) := by decide +kernel
theorem dX1_fretOf_20 : decode cX1_fretOf 20 = .ok (.aload_n 0, 1) := by decide +kernel
theorem dX1_fretOf_21 : decode cX1_fretOf 21 = .ok (.getfield 22, 3) := by decide +kernel
theorem dX1_fretOf_24 : decode cX1_fretOf 24 = .ok (.if_icmp .lt 15, 3) := by decide +kernel
theorem dX1_fretOf_27 : decode cX1_fretOf 27 = .ok (.iload_n 3, 1) := by decide +kernel
theorem dX1_fretOf_28 : decode cX1_fretOf 28 = .ok (.aload_n 0, 1) := by decide +kernel
theorem dX1_fretOf_29 : decode cX1_fretOf 29 = .ok (.getfield 19, 3) := by decide +kernel
theorem dX1_fretOf_32 : decode cX1_fretOf 32 = .ok (.if_icmp .gt 7, 3) := by decide +kernel
theorem dX1_fretOf_35 : decode cX1_fretOf 35 = .ok (.iload_n 3, 1) := by decide +kernel
theorem dX1_fretOf_36 : decode cX1_fretOf 36 = .ok (.goto 4, 3) := by decide +kernel
theorem dX1_fretOf_39 : decode cX1_fretOf 39 = .ok (.iconst (-1), 1) := by decide +kernel
theorem dX1_fretOf_40 : decode cX1_fretOf 40 = .ok (.ireturn, 1) := by decide +kernel
theorem dX1_pitchBehindCapo_0 : decode cX1_pitchBehindCapo 0 = .ok (.aload_n 0, 1) := by decide +kernel
theorem dX1_pitchBehindCapo_1 : decode cX1_pitchBehindCapo 1 = .ok (.iload_n 1, 1) := by decide +kernel
theorem dX1_pitchBehindCapo_2 : decode cX1_pitchBehindCapo 2 = .ok (.invokevirtual 25, 3) := by decide +kernel
theorem dX1_pitchBehindCapo_5 : decode cX1_pitchBehindCapo 5 = .ok (.ifCond .eq 19, 3) := by decide +kernel
theorem dX1_pitchBehindCapo_8 : decode cX1_pitchBehindCapo 8 = .ok (.aload_n 0, 1) := by decide +kernel
theorem dX1_pitchBehindCapo_9 : decode cX1_pitchBehindCapo 9 = .ok (.getfield 9, 3) := by decide +kernel
theorem dX1_pitchBehindCapo_12 : decode cX1_pitchBehindCapo 12 = .ok (.iload_n 1, 1) := by decide +kernel
theorem dX1_pitchBehindCapo_13 : decode cX1_pitchBehindCapo 13 = .ok (.iaload, 1) := by decide +kernel
theorem dX1_pitchBehindCapo_14 : decode cX1_pitchBehindCapo 14 = .ok (.aload_n 0, 1) := by decide +kernel
theorem dX1_pitchBehindCapo_15 : decode cX1_pitchBehindCapo 15 = .ok (.getfield 22, 3) := by decide +kernel
theorem dX1_pitchBehindCapo_18 : decode cX1_pitchBehindCapo 18 = .ok (.iadd, 1) := by decide +kernel
theorem dX1_pitchBehindCapo_19 : decode cX1_pitchBehindCapo 19 = .ok (.iload_n 2, 1) := by decide +kernel
theorem dX1_pitchBehindCapo_20 : decode cX1_pitchBehindCapo 20 = .ok (.iadd, 1) := by decide +kernel
theorem dX1_pitchBehindCapo_21 : decode cX1_pitchBehindCapo 21 = .ok (.goto 4, 3) := by decide +kernel
theorem dX1_pitchBehindCapo_24 : decode cX1_pitchBehindCapo 24 = .ok (.iconst (-1), 1) := by decide +kernel
theorem dX1_pitchBehindCapo_25 : decode cX1_pitchBehindCapo 25 = .ok (.ireturn, 1) := by decide +kernel
theorem dX2_init_0 : decode cX2_init 0 = .ok (.aload_n 0, 1) := by decide +kernel
theorem dX2_init_1 : decode cX2_init 1 = .ok (.invokespecial 3, 3) := by decide +kernel
theorem dX2_init_4 : decode cX2_init 4 = .ok (.aload_n 0, 1) := by decide +kernel
theorem dX2_init_5 : decode cX2_init 5 = .ok (.bipush 40, 2) := by decide +kernel
theorem dX2_init_7 : decode cX2_init 7 = .ok (.newarray .int, 2) := by decide +kernel
theorem dX2_init_9 : decode cX2_init 9 = .ok (.putfield 9, 3) := by decide +kernel
theorem dX2_init_12 : decode cX2_init 12 = .ok (.aload_n 0, 1) := by decide +kernel
theorem dX2_init_13 : decode cX2_init 13 = .ok (.bipush 40, 2) := by decide +kernel
theorem dX2_init_15 : decode cX2_init 15 = .ok (.newarray .int, 2) := by decide +kernel
theorem dX2_init_17 : decode cX2_init 17 = .ok (.putfield 15, 3) := by decide +kernel
theorem dX2_init_20 : decode cX2_init 20 = .ok (.aload_n 0, 1) := by decide +kernel
theorem dX2_init_21 : decode cX2_init 21 = .ok (.bipush 40, 2) := by decide +kernel
theorem dX2_init_23 : decode cX2_init 23 = .ok (.newarray .int, 2) := by decide +kernel
theorem dX2_init_25 : decode cX2_init 25 = .ok (.putfield 18, 3) := by decide +kernel
theorem dX2_init_28 : decode cX2_init 28 = .ok (.aload_n 0, 1) := by decide +kernel
theorem dX2_init_29 : decode cX2_init 29 = .ok (.bipush 40, 2) := by decide +kernel
theorem dX2_init_31 : decode cX2_init 31 = .ok (.newarray .int, 2) := by decide +kernel
theorem dX2_init_33 : decode cX2_init 33 = .ok (.putfield 21, 3) := by decide +kernel
theorem dX2_init_36 : decode cX2_init 36 = .ok (.aload_n 0, 1) := by decide +kernel
theorem dX2_init_37 : decode cX2_init 37 = .ok (.iconst 0, 1) := by decide +kernel
theorem dX2_init_38 : decode cX2_init 38 = .ok (.putfield 24, 3) := by decide +kernel
theorem dX2_init_41 : decode cX2_init 41 = .ok (.return_, 1) := by decide +kernel
theorem dX2_forget_0 : decode cX2_forget 0 = .ok (.aload_n 0, 1) := by decide +kernel
theorem dX2_forget_1 : decode cX2_forget 1 = .ok (.iconst 0, 1) := by decide +kernel
theorem dX2_forget_2 : decode cX2_forget 2 = .ok (.putfield 24, 3) := by decide +kernel
theorem dX2_forget_5 : decode cX2_forget 5 = .ok (.return_, 1) := by decide +kernel
theorem dX2_isFound_0 : decode cX2_isFound 0 = .ok (.aload_n 0, 1) := by decide +kernel
theorem dX2_isFound_1 : decode cX2_isFound 1 = .ok (.getfield 24, 3) := by decide +kernel
theorem dX2_isFound_4 : decode cX2_isFound 4 = .ok (.ifCond .le 7, 3) := by decide +kernel
theorem dX2_isFound_7 : decode cX2_isFound 7 = .ok (.iconst 1, 1) := by decide +kernel
theorem dX2_isFound_8 : decode cX2_isFound 8 = .ok (.goto 4, 3) := by decide +kernel
theorem dX2_isFound_11 : decode cX2_isFound 11 = .ok (.iconst 0, 1) := by decide +kernel
theorem dX2_isFound_12 : decode cX2_isFound 12 = .ok (.ireturn, 1) := by decide +kernel
theorem dX2_hasEvent_0 : decode cX2_hasEvent 0 = .ok (.iload_n 1, 1) := by decide +kernel
theorem dX2_hasEvent_1 : decode cX2_hasEvent 1 = .ok (.ifCond .lt 15, 3) := by decide +kernel
theorem dX2_hasEvent_4 : decode cX2_hasEvent 4 = .ok (.iload_n 1, 1) := by decide +kernel
theorem dX2_hasEvent_5 : decode cX2_hasEvent 5 = .ok (.aload_n 0, 1) := by decide +kernel
theorem dX2_hasEvent_6 : decode cX2_hasEvent 6 = .ok (.getfield 24, 3) := by decide +kernel
theorem dX2_hasEvent_9 : decode cX2_hasEvent 9 = .ok (.if_icmp .ge 7, 3) := by decide +kernel
theorem dX2_hasEvent_12 : decode cX2_hasEvent 12 = .ok (.iconst 1, 1) := by decide +kernel
theorem dX2_hasEvent_13 : decode cX2_hasEvent 13 = .ok (.goto 4, 3) := by decide +kernel
theorem dX2_hasEvent_16 : decode cX2_hasEvent 16 = .ok (.iconst 0, 1) := by decide +kernel
theorem dX2_hasEvent_17 : decode cX2_hasEvent 17 = .ok (.ireturn, 1) := by decide +kernel
theorem dX2_addFirstLeast_0 : decode cX2_addFirstLeast 0 = .ok (.aload_n 0, 1) := by decide +kernel
theorem dX2_addFirstLeast_1 : decode cX2_addFirstLeast 1 = .ok (.getfield 24, 3) := by decide +kernel
theorem dX2_addFirstLeast_4 : decode cX2_addFirstLeast 4 = .ok (.bipush 40, 2) := by decide +kernel
theorem dX2_addFirstLeast_6 : decode cX2_addFirstLeast 6 = .ok (.if_icmp .ge 13, 3) := by decide +kernel
theorem dX2_addFirstLeast_9 : decode cX2_addFirstLeast 9 = .ok (.iload_n 2, 1) := by decide +kernel
theorem dX2_addFirstLeast_10 : decode cX2_addFirstLeast 10 = .ok (.ifCond .lt 9, 3) := by decide +kernel
theorem dX2_addFirstLeast_13 : decode cX2_addFirstLeast 13 = .ok (.iload_n 2, 1) := by decide +kernel
theorem dX2_addFirstLeast_14 : decode cX2_addFirstLeast 14 = .ok (.bipush 25, 2) := by decide +kernel
theorem dX2_addFirstLeast_16 : decode cX2_addFirstLeast 16 = .ok (.if_icmp .lt 4, 3) := by decide +kernel
theorem dX2_addFirstLeast_19 : decode cX2_addFirstLeast 19 = .ok (.return_, 1) := by decide +kernel
theorem dX2_addFirstLeast_20 : decode cX2_addFirstLeast 20 = .ok (.aload_n 0, 1) := by decide +kernel
theorem dX2_addFirstLeast_21 : decode cX2_addFirstLeast 21 = .ok (.getfield 9, 3) := by decide +kernel
theorem dX2_addFirstLeast_24 : decode cX2_addFirstLeast 24 = .ok (.aload_n 0, 1) := by decide +kernel
theorem dX2_addFirstLeast_25 : decode cX2_addFirstLeast 25 = .ok (.getfield 24, 3) := by decide +kernel
theorem dX2_addFirstLeast_28 : decode cX2_addFirstLeast 28 = .ok (.iload_n 2, 1) := by decide +kernel
theorem dX2_addFirstLeast_29 : decode cX2_addFirstLeast 29 = .ok (.iastore, 1) := by decide +kernel
theorem dX2_addFirstLeast_30 : decode cX2_addFirstLeast 30 = .ok (.aload_n 0, 1) := by decide +kernel
theorem dX2_addFirstLeast_31 : decode cX2_addFirstLeast 31 = .ok (.getfield 15, 3) := by decide +kernel
theorem dX2_addFirstLeast_34 : decode cX2_addFirstLeast 34 = .ok (.aload_n 0, 1) := by decide +kernel
theorem dX2_addFirstLeast_35 : decode cX2_addFirstLeast 35 = .ok (.getfield 24, 3) := by decide +kernel
theorem dX2_addFirstLeast_38 : decode cX2_addFirstLeast 38 = .ok (.aload_n 1, 1) := by decide +kernel
theorem dX2_addFirstLeast_39 : decode cX2_addFirstLeast 39 = .ok (.getfield 28, 3) := by decide +kernel
theorem dX2_addFirstLeast_42 : decode cX2_addFirstLeast 42 = .ok (.iload_n 2, 1) := by decide +kernel
theorem dX2_addFirstLeast_43 : decode cX2_addFirstLeast 43 = .ok (.iaload, 1) := by decide +kernel
theorem dX2_addFirstLeast_44 : decode cX2_addFirstLeast 44 = .ok (.iastore, 1) := by decide +kernel
theorem dX2_addFirstLeast_45 : decode cX2_addFirstLeast 45 = .ok (.aload_n 0, 1) := by decide +kernel
theorem dX2_addFirstLeast_46 : decode cX2_addFirstLeast 46 = .ok (.getfield 18, 3) := by decide +kernel
theorem dX2_addFirstLeast_49 : decode cX2_addFirstLeast 49 = .ok (.aload_n 0, 1) := by decide +kernel
theorem dX2_addFirstLeast_50 : decode cX2_addFirstLeast 50 = .ok (.getfield 24, 3) := by decide +kernel
theorem dX2_addFirstLeast_53 : decode cX2_addFirstLeast 53 = .ok (.aload_n 1, 1) := by decide +kernel
theorem dX2_addFirstLeast_54 : decode cX2_addFirstLeast 54 = .ok (.getfield 33, 3) := by decide +kernel
theorem dX2_addFirstLeast_57 : decode cX2_addFirstLeast 57 = .ok (.iload_n 2, 1) := by decide +kernel
theorem dX2_addFirstLeast_58 : decode cX2_addFirstLeast 58 = .ok (.iaload, 1) := by decide +kernel
theorem dX2_addFirstLeast_59 : decode cX2_addFirstLeast 59 = .ok (.iastore, 1) := by decide +kernel
theorem dX2_addFirstLeast_60 : decode cX2_addFirstLeast 60 = .ok (.aload_n 0, 1) := by decide +kernel
theorem dX2_addFirstLeast_61 : decode cX2_addFirstLeast 61 = .ok (.getfield 21, 3) := by decide +kernel
theorem dX2_addFirstLeast_64 : decode cX2_addFirstLeast 64 = .ok (.aload_n 0, 1) := by decide +kernel
theorem dX2_addFirstLeast_65 : decode cX2_addFirstLeast 65 = .ok (.getfield 24, 3) := by decide +kernel
theorem dX2_addFirstLeast_68 : decode cX2_addFirstLeast 68 = .ok (.aload_n 1, 1) := by decide +kernel
theorem dX2_addFirstLeast_69 : decode cX2_addFirstLeast 69 = .ok (.iload_n 2, 1) := by decide +kernel
theorem dX2_addFirstLeast_70 : decode cX2_addFirstLeast 70 = .ok (.invokevirtual 36, 3) := by decide +kernel
theorem dX2_addFirstLeast_73 : decode cX2_addFirstLeast 73 = .ok (.iastore, 1) := by decide +kernel
theorem dX2_addFirstLeast_74 : decode cX2_addFirstLeast 74 = .ok (.aload_n 0, 1) := by decide +kernel
theorem dX2_addFirstLeast_75 : decode cX2_addFirstLeast 75 = .ok (.dup, 1) := by decide +kernel
theorem dX2_addFirstLeast_76 : decode cX2_addFirstLeast 76 = .ok (.getfield 24, 3) := by decide +kernel
theorem dX2_addFirstLeast_79 : decode cX2_addFirstLeast 79 = .ok (.iconst 1, 1) := by decide +kernel
theorem dX2_addFirstLeast_80 : decode cX2_addFirstLeast 80 = .ok (.iadd, 1) := by decide +kernel
theorem dX2_addFirstLeast_81 : decode cX2_addFirstLeast 81 = .ok (.putfield 24, 3) := by decide +kernel
theorem dX2_addFirstLeast_84 : decode cX2_addFirstLeast 84 = .ok (.return_, 1) := by decide +kernel
theorem dX3_init_0 : decode cX3_init 0 = .ok (.aload_n 0, 1) := by decide +kernel
theorem dX3_init_1 : decode cX3_init 1 = .ok (.invokespecial 3, 3) := by decide +kernel
theorem dX3_init_4 : decode cX3_init 4 = .ok (.aload_n 0, 1) := by decide +kernel
theorem dX3_init_5 : decode cX3_init 5 = .ok (.sipush 1000, 3) := by decide +kernel
theorem dX3_init_8 : decode cX3_init 8 = .ok (.newarray .int, 2) := by decide +kernel
theorem dX3_init_10 : decode cX3_init 10 = .ok (.putfield 9, 3) := by decide +kernel
theorem dX3_init_13 : decode cX3_init 13 = .ok (.aload_n 0, 1) := by decide +kernel
theorem dX3_init_14 : decode cX3_init 14 = .ok (.sipush 1000, 3) := by decide +kernel
theorem dX3_init_17 : decode cX3_init 17 = .ok (.newarray .int, 2) := by decide +kernel
theorem dX3_init_19 : decode cX3_init 19 = .ok (.putfield 15, 3) := by decide +kernel
theorem dX3_init_22 : decode cX3_init 22 = .ok (.aload_n 0, 1) := by decide +kernel
theorem dX3_init_23 : decode cX3_init 23 = .ok (.iconst (-1), 1) := by decide +kernel
theorem dX3_init_24 : decode cX3_init 24 = .ok (.putfield 18, 3) := by decide +kernel
theorem dX3_init_27 : decode cX3_init 27 = .ok (.aload_n 0, 1) := by decide +kernel
theorem dX3_init_28 : decode cX3_init 28 = .ok (.iconst 0, 1) := by decide +kernel
theorem dX3_init_29 : decode cX3_init 29 = .ok (.putfield 22, 3) := by decide +kernel
theorem dX3_init_32 : decode cX3_init 32 = .ok (.aload_n 0, 1) := by decide +kernel
theorem dX3_init_33 : decode cX3_init 33 = .ok (.aload_n 1, 1) := by decide +kernel
theorem dX3_init_34 : decode cX3_init 34 = .ok (.putfield 25, 3) := by decide +kernel
theorem dX3_init_37 : decode cX3_init 37 = .ok (.aload_n 0, 1) := by decide +kernel
theorem dX3_init_38 : decode cX3_init 38 = .ok (.aload_n 2, 1) := by decide +kernel
theorem dX3_init_39 : decode cX3_init 39 = .ok (.putfield 29, 3) := by decide +kernel
theorem dX3_init_42 : decode cX3_init 42 = .ok (.aload_n 0, 1) := by decide +kernel
theorem dX3_init_43 : decode cX3_init 43 = .ok (.aload_n 3, 1) := by decide +kernel
theorem dX3_init_44 : decode cX3_init 44 = .ok (.putfield 32, 3) := by decide +kernel
theorem dX3_init_47 : decode cX3_init 47 = .ok (.aload_n 0, 1) := by decide +kernel
theorem dX3_init_48 : decode cX3_init 48 = .ok (.aload 4, 2) := by decide +kernel
theorem dX3_init_50 : decode cX3_init 50 = .ok (.putfield 36, 3) := by decide +kernel
theorem dX3_init_53 : decode cX3_init 53 = .ok (.return_, 1) := by decide +kernel
theorem dX3_search_0 : decode cX3_search 0 = .ok (.aload_n 0, 1) := by decide +kernel
theorem dX3_search_1 : decode cX3_search 1 = .ok (.getfield 32, 3) := by decide +kernel
theorem dX3_search_4 : decode cX3_search 4 = .ok (.getfield 40, 3) := by decide +kernel
theorem dX3_search_7 : decode cX3_search 7 = .ok (.iconst 1, 1) := by decide +kernel
theorem dX3_search_8 : decode cX3_search 8 = .ok (.isub, 1) := by decide +kernel
theorem dX3_search_9 : decode cX3_search 9 = .ok (.istore_n 1, 1) := by decide +kernel
theorem dX3_search_10 : decode cX3_search 10 = .ok (.iload_n 1, 1) := by decide +kernel
theorem dX3_search_11 : decode cX3_search 11 = .ok (.ifCond .lt 37, 3) := by decide +kernel
theorem dX3_search_14 : decode cX3_search 14 = .ok (.aload_n 0, 1) := by decide +kernel
theorem dX3_search_15 : decode cX3_search 15 = .ok (.getfield 36, 3) := by decide +kernel
theorem dX3_search_18 : decode cX3_search 18 = .ok (.iload_n 1, 1) := by decide +kernel
theorem dX3_search_19 : decode cX3_search 19 = .ok (.invokevirtual 45, 3) := by decide +kernel
theorem dX3_search_22 : decode cX3_search 22 = .ok (.iconst 0, 1) := by decide +kernel
theorem dX3_search_23 : decode cX3_search 23 = .ok (.istore_n 2, 1) := by decide +kernel
theorem dX3_search_24 : decode cX3_search 24 = .ok (.iload_n 2, 1) := by decide +kernel
theorem dX3_search_25 : decode cX3_search 25 = .ok (.bipush 25, 2) := by decide +kernel
theorem dX3_search_27 : decode cX3_search 27 = .ok (.if_icmp .ge 15, 3) := by decide +kernel
theorem dX3_search_30 : decode cX3_search 30 = .ok (.aload_n 0, 1) := by decide +kernel
theorem dX3_search_31 : decode cX3_search 31 = .ok (.iload_n 1, 1) := by decide +kernel
theorem dX3_search_32 : decode cX3_search 32 = .ok (.iload_n 2, 1) := by decide +kernel
theorem dX3_search_33 : decode cX3_search 33 = .ok (.invokevirtual 51, 3) := by decide +kernel
theorem dX3_search_36 : decode cX3_search 36 = .ok (.iinc 2 1, 3) := by decide +kernel
theorem dX3_search_39 : decode cX3_search 39 = .ok (.goto (-15), 3) := by decide +kernel
theorem dX3_search_42 : decode cX3_search 42 = .ok (.iinc 1 (-1), 3) := by decide +kernel
theorem dX3_search_45 : decode cX3_search 45 = .ok (.goto (-35), 3) := by decide +kernel
theorem dX3_search_48 : decode cX3_search 48 = .ok (.aload_n 0, 1) := by decide +kernel
theorem dX3_search_49 : decode cX3_search 49 = .ok (.iconst 0, 1) := by decide +kernel
theorem dX3_search_50 : decode cX3_search 50 = .ok (.iconst (-1), 1) := by decide +kernel
theorem dX3_search_51 : decode cX3_search 51 = .ok (.invokevirtual 55, 3) := by decide +kernel
theorem dX3_search_54 : decode cX3_search 54 = .ok (.return_, 1) := by decide +kernel
theorem dX3_choose_0 : decode cX3_choose 0 = .ok (.iconst (-1), 1) := by decide +kernel
theorem dX3_choose_1 : decode cX3_choose 1 = .ok (.istore_n 2, 1) := by decide +kernel
theorem dX3_choose_2 : decode cX3_choose 2 = .ok (.iconst 0, 1) := by decide +kernel
theorem dX3_choose_3 : decode cX3_choose 3 = .ok (.istore_n 3, 1) := by decide +kernel
theorem dX3_choose_4 : decode cX3_choose 4 = .ok (.iload_n 3, 1) := by decide +kernel
theorem dX3_choose_5 : decode cX3_choose 5 = .ok (.aload_n 0, 1) := by decide +kernel
theorem dX3_choose_6 : decode cX3_choose 6 = .ok (.getfield 32, 3) := by decide +kernel
theorem dX3_choose_9 : decode cX3_choose 9 = .ok (.getfield 40, 3) := by decide +kernel
theorem dX3_choose_12 : decode cX3_choose 12 = .ok (.if_icmp .ge 38, 3) := by decide +kernel
theorem dX3_choose_15 : decode cX3_choose 15 = .ok (.aload_n 0, 1) := by decide +kernel
theorem dX3_choose_16 : decode cX3_choose 16 = .ok (.iload_n 3, 1) := by decide +kernel
theorem dX3_choose_17 : decode cX3_choose 17 = .ok (.iload_n 2, 1) := by decide +kernel
theorem dX3_choose_18 : decode cX3_choose 18 = .ok (.invokevirtual 58, 3) := by decide +kernel
theorem dX3_choose_21 : decode cX3_choose 21 = .ok (.istore 4, 2) := by decide +kernel
theorem dX3_choose_23 : decode cX3_choose 23 = .ok (.aload_n 0, 1) := by decide +kernel
theorem dX3_choose_24 : decode cX3_choose 24 = .ok (.getfield 36, 3) := by decide +kernel
theorem dX3_choose_27 : decode cX3_choose 27 = .ok (.iload_n 3, 1) := by decide +kernel
theorem dX3_choose_28 : decode cX3_choose 28 = .ok (.invokevirtual 45, 3) := by decide +kernel
theorem dX3_choose_31 : decode cX3_choose 31 = .ok (.aload_n 1, 1) := by decide +kernel
theorem dX3_choose_32 : decode cX3_choose 32 = .ok (.aload_n 0, 1) := by decide +kernel
theorem dX3_choose_33 : decode cX3_choose 33 = .ok (.getfield 36, 3) := by decide +kernel
theorem dX3_choose_36 : decode cX3_choose 36 = .ok (.iload 4, 2) := by decide +kernel
theorem dX3_choose_38 : decode cX3_choose 38 = .ok (.invokevirtual 62, 3) := by decide +kernel
theorem dX3_choose_41 : decode cX3_choose 41 = .ok (.iload 4, 2) := by decide +kernel
theorem dX3_choose_43 : decode cX3_choose 43 = .ok (.istore_n 2, 1) := by decide +kernel
theorem dX3_choose_44 : decode cX3_choose 44 = .ok (.iinc 3 1, 3) := by decide +kernel
theorem dX3_choose_47 : decode cX3_choose 47 = .ok (.goto (-43), 3) := by decide +kernel
theorem dX3_choose_50 : decode cX3_choose 50 = .ok (.return_, 1) := by decide +kernel
theorem dX3_fillCell_0 : decode cX3_fillCell 0 = .ok (.iload_n 1, 1) := by decide +kernel
theorem dX3_fillCell_1 : decode cX3_fillCell 1 = .ok (.iload_n 2, 1) := by decide +kernel
theorem dX3_fillCell_2 : decode cX3_fillCell 2 = .ok (.invokestatic 68, 3) := by decide +kernel
theorem dX3_fillCell_5 : decode cX3_fillCell 5 = .ok (.ifCond .ne 4, 3) := by decide +kernel
theorem dX3_fillCell_8 : decode cX3_fillCell 8 = .ok (.return_, 1) := by decide +kernel
theorem dX3_fillCell_9 : decode cX3_fillCell 9 = .ok (.iload_n 1, 1) := by decide +kernel
theorem dX3_fillCell_10 : decode cX3_fillCell 10 = .ok (.bipush 25, 2) := by decide +kernel
theorem dX3_fillCell_12 : decode cX3_fillCell 12 = .ok (.imul, 1) := by decide +kernel
theorem dX3_fillCell_13 : decode cX3_fillCell 13 = .ok (.iload_n 2, 1) := by decide +kernel
theorem dX3_fillCell_14 : decode cX3_fillCell 14 = .ok (.iadd, 1) := by decide +kernel
theorem dX3_fillCell_15 : decode cX3_fillCell 15 = .ok (.istore_n 3, 1) := by decide +kernel
theorem dX3_fillCell_16 : decode cX3_fillCell 16 = .ok (.aload_n 0, 1) := by decide +kernel
theorem dX3_fillCell_17 : decode cX3_fillCell 17 = .ok (.getfield 9, 3) := by decide +kernel
theorem dX3_fillCell_20 : decode cX3_fillCell 20 = .ok (.iload_n 3, 1) := by decide +kernel
theorem dX3_fillCell_21 : decode cX3_fillCell 21 = .ok (.iconst (-1), 1) := by decide +kernel
theorem dX3_fillCell_22 : decode cX3_fillCell 22 = .ok (.iastore, 1) := by decide +kernel
theorem dX3_fillCell_23 : decode cX3_fillCell 23 = .ok (.aload_n 0, 1) := by decide +kernel
theorem dX3_fillCell_24 : decode cX3_fillCell 24 = .ok (.getfield 36, 3) := by decide +kernel
theorem dX3_fillCell_27 : decode cX3_fillCell 27 = .ok (.getfield 72, 3) := by decide +kernel
theorem dX3_fillCell_30 : decode cX3_fillCell 30 = .ok (.iload_n 2, 1) := by decide +kernel
theorem dX3_fillCell_31 : decode cX3_fillCell 31 = .ok (.iaload, 1) := by decide +kernel
theorem dX3_fillCell_32 : decode cX3_fillCell 32 = .ok (.ifCond .ne 4, 3) := by decide +kernel
theorem dX3_fillCell_35 : decode cX3_fillCell 35 = .ok (.return_, 1) := by decide +kernel
theorem dX3_fillCell_36 : decode cX3_fillCell 36 = .ok (.aload_n 0, 1) := by decide +kernel
theorem dX3_fillCell_37 : decode cX3_fillCell 37 = .ok (.iload_n 1, 1) := by decide +kernel
theorem dX3_fillCell_38 : decode cX3_fillCell 38 = .ok (.iconst 1, 1) := by decide +kernel
theorem dX3_fillCell_39 : decode cX3_fillCell 39 = .ok (.iadd, 1) := by decide +kernel
theorem dX3_fillCell_40 : decode cX3_fillCell 40 = .ok (.iload_n 2, 1) := by decide +kernel
theorem dX3_fillCell_41 : decode cX3_fillCell 41 = .ok (.invokevirtual 55, 3) := by decide +kernel
theorem dX3_fillCell_44 : decode cX3_fillCell 44 = .ok (.aload_n 0, 1) := by decide +kernel
theorem dX3_fillCell_45 : decode cX3_fillCell 45 = .ok (.getfield 18, 3) := by decide +kernel
theorem dX3_fillCell_48 : decode cX3_fillCell 48 = .ok (.iconst (-1), 1) := by decide +kernel
theorem dX3_fillCell_49 : decode cX3_fillCell 49 = .ok (.if_icmp .ne 4, 3) := by decide +kernel
theorem dX3_fillCell_52 : decode cX3_fillCell 52 = .ok (.return_, 1) := by decide +kernel
theorem dX3_fillCell_53 : decode cX3_fillCell 53 = .ok (.aload_n 0, 1) := by decide +kernel
theorem dX3_fillCell_54 : decode cX3_fillCell 54 = .ok (.getfield 9, 3) := by decide +kernel
theorem dX3_fillCell_57 : decode cX3_fillCell 57 = .ok (.iload_n 3, 1) := by decide +kernel
theorem dX3_fillCell_58 : decode cX3_fillCell 58 = .ok (.aload_n 0, 1) := by decide +kernel
theorem dX3_fillCell_59 : decode cX3_fillCell 59 = .ok (.getfield 36, 3) := by decide +kernel
theorem dX3_fillCell_62 : decode cX3_fillCell 62 = .ok (.getfield 75, 3) := by decide +kernel
theorem dX3_fillCell_65 : decode cX3_fillCell 65 = .ok (.iload_n 2, 1) := by decide +kernel
theorem dX3_fillCell_66 : decode cX3_fillCell 66 = .ok (.iaload, 1) := by decide +kernel
theorem dX3_fillCell_67 : decode cX3_fillCell 67 = .ok (.aload_n 0, 1) := by decide +kernel
theorem dX3_fillCell_68 : decode cX3_fillCell 68 = .ok (.getfield 18, 3) := by decide +kernel
theorem dX3_fillCell_71 : decode cX3_fillCell 71 = .ok (.iadd, 1) := by decide +kernel
theorem dX3_fillCell_72 : decode cX3_fillCell 72 = .ok (.iastore, 1) := by decide +kernel
theorem dX3_fillCell_73 : decode cX3_fillCell 73 = .ok (.aload_n 0, 1) := by decide +kernel
theorem dX3_fillCell_74 : decode cX3_fillCell 74 = .ok (.getfield 15, 3) := by decide +kernel
theorem dX3_fillCell_77 : decode cX3_fillCell 77 = .ok (.iload_n 3, 1) := by decide +kernel
theorem dX3_fillCell_78 : decode cX3_fillCell 78 = .ok (.aload_n 0, 1) := by decide +kernel
theorem dX3_fillCell_79 : decode cX3_fillCell 79 = .ok (.getfield 36, 3) := by decide +kernel
theorem dX3_fillCell_82 : decode cX3_fillCell 82 = .ok (.getfield 78, 3) := by decide +kernel
theorem dX3_fillCell_85 : decode cX3_fillCell 85 = .ok (.iload_n 2, 1) := by decide +kernel
theorem dX3_fillCell_86 : decode cX3_fillCell 86 = .ok (.iaload, 1) := by decide +kernel
theorem dX3_fillCell_87 : decode cX3_fillCell 87 = .ok (.i2l, 1) := by decide +kernel
theorem dX3_fillCell_88 : decode cX3_fillCell 88 = .ok (.aload_n 0, 1) := by decide +kernel
theorem dX3_fillCell_89 : decode cX3_fillCell 89 = .ok (.getfield 22, 3) := by decide +kernel
theorem dX3_fillCell_92 : decode cX3_fillCell 92 = .ok (.i2l, 1) := by decide +kernel
theorem dX3_fillCell_93 : decode cX3_fillCell 93 = .ok (.lmul, 1) := by decide +kernel
theorem dX3_fillCell_94 : decode cX3_fillCell 94 = .ok (.invokestatic 81, 3) := by decide +kernel
theorem dX3_fillCell_97 : decode cX3_fillCell 97 = .ok (.iastore, 1) := by decide +kernel
theorem dX3_fillCell_98 : decode cX3_fillCell 98 = .ok (.return_, 1) := by decide +kernel
theorem dX3_weighRest_0 : decode cX3_weighRest 0 = .ok (.iload_n 1, 1) := by decide +kernel
theorem dX3_weighRest_1 : decode cX3_weighRest 1 = .ok (.aload_n 0, 1) := by decide +kernel
theorem dX3_weighRest_2 : decode cX3_weighRest 2 = .ok (.getfield 32, 3) := by decide +kernel
theorem dX3_weighRest_5 : decode cX3_weighRest 5 = .ok (.getfield 40, 3) := by decide +kernel
theorem dX3_weighRest_8 : decode cX3_weighRest 8 = .ok (.if_icmp .lt 14, 3) := by decide +kernel
theorem dX3_weighRest_11 : decode cX3_weighRest 11 = .ok (.aload_n 0, 1) := by decide +kernel
theorem dX3_weighRest_12 : decode cX3_weighRest 12 = .ok (.iconst 0, 1) := by decide +kernel
theorem dX3_weighRest_13 : decode cX3_weighRest 13 = .ok (.putfield 18, 3) := by decide +kernel
theorem dX3_weighRest_16 : decode cX3_weighRest 16 = .ok (.aload_n 0, 1) := by decide +kernel
theorem dX3_weighRest_17 : decode cX3_weighRest 17 = .ok (.iconst 1, 1) := by decide +kernel
theorem dX3_weighRest_18 : decode cX3_weighRest 18 = .ok (.putfield 22, 3) := by decide +kernel
theorem dX3_weighRest_21 : decode cX3_weighRest 21 = .ok (.return_, 1) := by decide +kernel
theorem dX3_weighRest_22 : decode cX3_weighRest 22 = .ok (.aload_n 0, 1) := by decide +kernel
theorem dX3_weighRest_23 : decode cX3_weighRest 23 = .ok (.iconst (-1), 1) := by decide +kernel
theorem dX3_weighRest_24 : decode cX3_weighRest 24 = .ok (.putfield 18, 3) := by decide +kernel
theorem dX3_weighRest_27 : decode cX3_weighRest 27 = .ok (.aload_n 0, 1) := by decide +kernel
theorem dX3_weighRest_28 : decode cX3_weighRest 28 = .ok (.iconst 0, 1) := by decide +kernel
theorem dX3_weighRest_29 : decode cX3_weighRest 29 = .ok (.putfield 22, 3) := by decide +kernel
theorem dX3_weighRest_32 : decode cX3_weighRest 32 = .ok (.aload_n 0, 1) := by decide +kernel
theorem dX3_weighRest_33 : decode cX3_weighRest 33 = .ok (.getfield 25, 3) := by decide +kernel
theorem dX3_weighRest_36 : decode cX3_weighRest 36 = .ok (.getfield 85, 3) := by decide +kernel
theorem dX3_weighRest_39 : decode cX3_weighRest 39 = .ok (.iconst 1, 1) := by decide +kernel
theorem dX3_weighRest_40 : decode cX3_weighRest 40 = .ok (.iadd, 1) := by decide +kernel
theorem dX3_weighRest_41 : decode cX3_weighRest 41 = .ok (.istore_n 3, 1) := by decide +kernel
theorem dX3_weighRest_42 : decode cX3_weighRest 42 = .ok (.iload_n 3, 1) := by decide +kernel
theorem dX3_weighRest_43 : decode cX3_weighRest 43 = .ok (.aload_n 0, 1) := by decide +kernel
theorem dX3_weighRest_44 : decode cX3_weighRest 44 = .ok (.getfield 25, 3) := by decide +kernel
theorem dX3_weighRest_47 : decode cX3_weighRest 47 = .ok (.getfield 90, 3) := by decide +kernel
theorem dX3_weighRest_50 : decode cX3_weighRest 50 = .ok (.if_icmp .gt 92, 3) := by decide +kernel
theorem dX3_weighRest_53 : decode cX3_weighRest 53 = .ok (.aload_n 0, 1) := by decide +kernel
theorem dX3_weighRest_54 : decode cX3_weighRest 54 = .ok (.iload_n 1, 1) := by decide +kernel
theorem dX3_weighRest_55 : decode cX3_weighRest 55 = .ok (.iload_n 2, 1) := by decide +kernel
theorem dX3_weighRest_56 : decode cX3_weighRest 56 = .ok (.iload_n 3, 1) := by decide +kernel
theorem dX3_weighRest_57 : decode cX3_weighRest 57 = .ok (.invokevirtual 93, 3) := by decide +kernel
theorem dX3_weighRest_60 : decode cX3_weighRest 60 = .ok (.istore 4, 2) := by decide +kernel
theorem dX3_weighRest_62 : decode cX3_weighRest 62 = .ok (.iload 4, 2) := by decide +kernel
theorem dX3_weighRest_64 : decode cX3_weighRest 64 = .ok (.iconst (-1), 1) := by decide +kernel
theorem dX3_weighRest_65 : decode cX3_weighRest 65 = .ok (.if_icmp .ne 6, 3) := by decide +kernel
theorem dX3_weighRest_68 : decode cX3_weighRest 68 = .ok (.goto 68, 3) := by decide +kernel
theorem dX3_weighRest_71 : decode cX3_weighRest 71 = .ok (.aload_n 0, 1) := by decide +kernel
theorem dX3_weighRest_72 : decode cX3_weighRest 72 = .ok (.getfield 18, 3) := by decide +kernel
theorem dX3_weighRest_75 : decode cX3_weighRest 75 = .ok (.iconst (-1), 1) := by decide +kernel
theorem dX3_weighRest_76 : decode cX3_weighRest 76 = .ok (.if_icmp .eq 12, 3) := by decide +kernel
theorem dX3_weighRest_79 : decode cX3_weighRest 79 = .ok (.iload 4, 2) := by decide +kernel
theorem dX3_weighRest_81 : decode cX3_weighRest 81 = .ok (.aload_n 0, 1) := by decide +kernel
theorem dX3_weighRest_82 : decode cX3_weighRest 82 = .ok (.getfield 18, 3) := by decide +kernel
theorem dX3_weighRest_85 : decode cX3_weighRest 85 = .ok (.if_icmp .ge 22, 3) := by decide +kernel
theorem dX3_weighRest_88 : decode cX3_weighRest 88 = .ok (.aload_n 0, 1) := by decide +kernel
theorem dX3_weighRest_89 : decode cX3_weighRest 89 = .ok (.iload 4, 2) := by decide +kernel
theorem dX3_weighRest_91 : decode cX3_weighRest 91 = .ok (.putfield 18, 3) := by decide +kernel
theorem dX3_weighRest_94 : decode cX3_weighRest 94 = .ok (.aload_n 0, 1) := by decide +kernel
theorem dX3_weighRest_95 : decode cX3_weighRest 95 = .ok (.aload_n 0, 1) := by decide +kernel
theorem dX3_weighRest_96 : decode cX3_weighRest 96 = .ok (.iload_n 1, 1) := by decide +kernel
theorem dX3_weighRest_97 : decode cX3_weighRest 97 = .ok (.iload_n 3, 1) := by decide +kernel
theorem dX3_weighRest_98 : decode cX3_weighRest 98 = .ok (.invokevirtual 97, 3) := by decide +kernel
theorem dX3_weighRest_101 : decode cX3_weighRest 101 = .ok (.putfield 22, 3) := by decide +kernel
theorem dX3_weighRest_104 : decode cX3_weighRest 104 = .ok (.goto 32, 3) := by decide +kernel
theorem dX3_weighRest_107 : decode cX3_weighRest 107 = .ok (.iload 4, 2) := by decide +kernel
theorem dX3_weighRest_109 : decode cX3_weighRest 109 = .ok (.aload_n 0, 1) := by decide +kernel
theorem dX3_weighRest_110 : decode cX3_weighRest 110 = .ok (.getfield 18, 3) := by decide +kernel
theorem dX3_weighRest_113 : decode cX3_weighRest 113 = .ok (.if_icmp .ne 23, 3) := by decide +kernel
theorem dX3_weighRest_116 : decode cX3_weighRest 116 = .ok (.aload_n 0, 1) := by decide +kernel
theorem dX3_weighRest_117 : decode cX3_weighRest 117 = .ok (.aload_n 0, 1) := by decide +kernel
theorem dX3_weighRest_118 : decode cX3_weighRest 118 = .ok (.getfield 22, 3) := by decide +kernel
theorem dX3_weighRest_121 : decode cX3_weighRest 121 = .ok (.i2l, 1) := by decide +kernel
theorem dX3_weighRest_122 : decode cX3_weighRest 122 = .ok (.aload_n 0, 1) := by decide +kernel
theorem dX3_weighRest_123 : decode cX3_weighRest 123 = .ok (.iload_n 1, 1) := by decide +kernel
theorem dX3_weighRest_124 : decode cX3_weighRest 124 = .ok (.iload_n 3, 1) := by decide +kernel
theorem dX3_weighRest_125 : decode cX3_weighRest 125 = .ok (.invokevirtual 97, 3) := by decide +kernel
theorem dX3_weighRest_128 : decode cX3_weighRest 128 = .ok (.i2l, 1) := by decide +kernel
theorem dX3_weighRest_129 : decode cX3_weighRest 129 = .ok (.ladd, 1) := by decide +kernel
theorem dX3_weighRest_130 : decode cX3_weighRest 130 = .ok (.invokestatic 81, 3) := by decide +kernel
theorem dX3_weighRest_133 : decode cX3_weighRest 133 = .ok (.putfield 22, 3) := by decide +kernel
theorem dX3_weighRest_136 : decode cX3_weighRest 136 = .ok (.iinc 3 1, 3) := by decide +kernel
theorem dX3_weighRest_139 : decode cX3_weighRest 139 = .ok (.goto (-97), 3) := by decide +kernel
theorem dX3_weighRest_142 : decode cX3_weighRest 142 = .ok (.return_, 1) := by decide +kernel
theorem dX3_firstBest_0 : decode cX3_firstBest 0 = .ok (.iconst (-1), 1) := by decide +kernel
theorem dX3_firstBest_1 : decode cX3_firstBest 1 = .ok (.istore_n 3, 1) := by decide +kernel
theorem dX3_firstBest_2 : decode cX3_firstBest 2 = .ok (.iconst (-1), 1) := by decide +kernel
theorem dX3_firstBest_3 : decode cX3_firstBest 3 = .ok (.istore 4, 2) := by decide +kernel
theorem dX3_firstBest_5 : decode cX3_firstBest 5 = .ok (.aload_n 0, 1) := by decide +kernel
theorem dX3_firstBest_6 : decode cX3_firstBest 6 = .ok (.getfield 25, 3) := by decide +kernel
theorem dX3_firstBest_9 : decode cX3_firstBest 9 = .ok (.getfield 85, 3) := by decide +kernel
theorem dX3_firstBest_12 : decode cX3_firstBest 12 = .ok (.iconst 1, 1) := by decide +kernel
theorem dX3_firstBest_13 : decode cX3_firstBest 13 = .ok (.iadd, 1) := by decide +kernel
theorem dX3_firstBest_14 : decode cX3_firstBest 14 = .ok (.istore 5, 2) := by decide +kernel
theorem dX3_firstBest_16 : decode cX3_firstBest 16 = .ok (.iload 5, 2) := by decide +kernel
theorem dX3_firstBest_18 : decode cX3_firstBest 18 = .ok (.aload_n 0, 1) := by decide +kernel
theorem dX3_firstBest_19 : decode cX3_firstBest 19 = .ok (.getfield 25, 3) := by decide +kernel
theorem dX3_firstBest_22 : decode cX3_firstBest 22 = .ok (.getfield 90, 3) := by decide +kernel
theorem dX3_firstBest_25 : decode cX3_firstBest 25 = .ok (.if_icmp .gt 44, 3) := by decide +kernel
theorem dX3_firstBest_28 : decode cX3_firstBest 28 = .ok (.aload_n 0, 1) := by decide +kernel
theorem dX3_firstBest_29 : decode cX3_firstBest 29 = .ok (.iload_n 1, 1) := by decide +kernel
theorem dX3_firstBest_30 : decode cX3_firstBest 30 = .ok (.iload_n 2, 1) := by decide +kernel
theorem dX3_firstBest_31 : decode cX3_firstBest 31 = .ok (.iload 5, 2) := by decide +kernel
theorem dX3_firstBest_33 : decode cX3_firstBest 33 = .ok (.invokevirtual 93, 3) := by decide +kernel
theorem dX3_firstBest_36 : decode cX3_firstBest 36 = .ok (.istore 6, 2) := by decide +kernel
theorem dX3_firstBest_38 : decode cX3_firstBest 38 = .ok (.iload 6, 2) := by decide +kernel
theorem dX3_firstBest_40 : decode cX3_firstBest 40 = .ok (.iconst (-1), 1) := by decide +kernel
theorem dX3_firstBest_41 : decode cX3_firstBest 41 = .ok (.if_icmp .eq 22, 3) := by decide +kernel
theorem dX3_firstBest_44 : decode cX3_firstBest 44 = .ok (.iload_n 3, 1) := by decide +kernel
theorem dX3_firstBest_45 : decode cX3_firstBest 45 = .ok (.iconst (-1), 1) := by decide +kernel
theorem dX3_firstBest_46 : decode cX3_firstBest 46 = .ok (.if_icmp .eq 10, 3) := by decide +kernel
theorem dX3_firstBest_49 : decode cX3_firstBest 49 = .ok (.iload 6, 2) := by decide +kernel
theorem dX3_firstBest_51 : decode cX3_firstBest 51 = .ok (.iload 4, 2) := by decide +kernel
theorem dX3_firstBest_53 : decode cX3_firstBest 53 = .ok (.if_icmp .ge 10, 3) := by decide +kernel
theorem dX3_firstBest_56 : decode cX3_firstBest 56 = .ok (.iload 5, 2) := by decide +kernel
theorem dX3_firstBest_58 : decode cX3_firstBest 58 = .ok (.istore_n 3, 1) := by decide +kernel
theorem dX3_firstBest_59 : decode cX3_firstBest 59 = .ok (.iload 6, 2) := by decide +kernel
theorem dX3_firstBest_61 : decode cX3_firstBest 61 = .ok (.istore 4, 2) := by decide +kernel
theorem dX3_firstBest_63 : decode cX3_firstBest 63 = .ok (.iinc 5 1, 3) := by decide +kernel
theorem dX3_firstBest_66 : decode cX3_firstBest 66 = .ok (.goto (-50), 3) := by decide +kernel
theorem dX3_firstBest_69 : decode cX3_firstBest 69 = .ok (.iload_n 3, 1) := by decide +kernel
theorem dX3_firstBest_70 : decode cX3_firstBest 70 = .ok (.ireturn, 1) := by decide +kernel
theorem dX3_sumFrom_0 : decode cX3_sumFrom 0 = .ok (.iload_n 1, 1) := by decide +kernel
theorem dX3_sumFrom_1 : decode cX3_sumFrom 1 = .ok (.iload_n 3, 1) := by decide +kernel
theorem dX3_sumFrom_2 : decode cX3_sumFrom 2 = .ok (.invokestatic 68, 3) := by decide +kernel
theorem dX3_sumFrom_5 : decode cX3_sumFrom 5 = .ok (.ifCond .eq 17, 3) := by decide +kernel
theorem dX3_sumFrom_8 : decode cX3_sumFrom 8 = .ok (.aload_n 0, 1) := by decide +kernel
theorem dX3_sumFrom_9 : decode cX3_sumFrom 9 = .ok (.getfield 9, 3) := by decide +kernel
theorem dX3_sumFrom_12 : decode cX3_sumFrom 12 = .ok (.iload_n 1, 1) := by decide +kernel
theorem dX3_sumFrom_13 : decode cX3_sumFrom 13 = .ok (.bipush 25, 2) := by decide +kernel
theorem dX3_sumFrom_15 : decode cX3_sumFrom 15 = .ok (.imul, 1) := by decide +kernel
theorem dX3_sumFrom_16 : decode cX3_sumFrom 16 = .ok (.iload_n 3, 1) := by decide +kernel
theorem dX3_sumFrom_17 : decode cX3_sumFrom 17 = .ok (.iadd, 1) := by decide +kernel
theorem dX3_sumFrom_18 : decode cX3_sumFrom 18 = .ok (.iaload, 1) := by decide +kernel
theorem dX3_sumFrom_19 : decode cX3_sumFrom 19 = .ok (.goto 4, 3) := by decide +kernel
theorem dX3_sumFrom_22 : decode cX3_sumFrom 22 = .ok (.iconst (-1), 1) := by decide +kernel
theorem dX3_sumFrom_23 : decode cX3_sumFrom 23 = .ok (.istore 4, 2) := by decide +kernel
theorem dX3_sumFrom_25 : decode cX3_sumFrom 25 = .ok (.iload 4, 2) := by decide +kernel
theorem dX3_sumFrom_27 : decode cX3_sumFrom 27 = .ok (.iconst (-1), 1) := by decide +kernel
theorem dX3_sumFrom_28 : decode cX3_sumFrom 28 = .ok (.if_icmp .eq 8, 3) := by decide +kernel
theorem dX3_sumFrom_31 : decode cX3_sumFrom 31 = .ok (.iload_n 2, 1) := by decide +kernel
theorem dX3_sumFrom_32 : decode cX3_sumFrom 32 = .ok (.iconst (-1), 1) := by decide +kernel
theorem dX3_sumFrom_33 : decode cX3_sumFrom 33 = .ok (.if_icmp .ne 6, 3) := by decide +kernel
theorem dX3_sumFrom_36 : decode cX3_sumFrom 36 = .ok (.iload 4, 2) := by decide +kernel
theorem dX3_sumFrom_38 : decode cX3_sumFrom 38 = .ok (.ireturn, 1) := by decide +kernel
theorem dX3_sumFrom_39 : decode cX3_sumFrom 39 = .ok (.iload 4, 2) := by decide +kernel
theorem dX3_sumFrom_41 : decode cX3_sumFrom 41 = .ok (.aload_n 0, 1) := by decide +kernel
theorem dX3_sumFrom_42 : decode cX3_sumFrom 42 = .ok (.getfield 29, 3) := by decide +kernel
theorem dX3_sumFrom_45 : decode cX3_sumFrom 45 = .ok (.iconst 0, 1) := by decide +kernel
theorem dX3_sumFrom_46 : decode cX3_sumFrom 46 = .ok (.iaload, 1) := by decide +kernel
theorem dX3_sumFrom_47 : decode cX3_sumFrom 47 = .ok (.iload_n 3, 1) := by decide +kernel
theorem dX3_sumFrom_48 : decode cX3_sumFrom 48 = .ok (.iload_n 2, 1) := by decide +kernel
theorem dX3_sumFrom_49 : decode cX3_sumFrom 49 = .ok (.isub, 1) := by decide +kernel
theorem dX3_sumFrom_50 : decode cX3_sumFrom 50 = .ok (.invokestatic 100, 3) := by decide +kernel
theorem dX3_sumFrom_53 : decode cX3_sumFrom 53 = .ok (.imul, 1) := by decide +kernel
theorem dX3_sumFrom_54 : decode cX3_sumFrom 54 = .ok (.iadd, 1) := by decide +kernel
theorem dX3_sumFrom_55 : decode cX3_sumFrom 55 = .ok (.ireturn, 1) := by decide +kernel
theorem dX3_waysAt_0 : decode cX3_waysAt 0 = .ok (.iload_n 1, 1) := by decide +kernel
theorem dX3_waysAt_1 : decode cX3_waysAt 1 = .ok (.iload_n 2, 1) := by decide +kernel
theorem dX3_waysAt_2 : decode cX3_waysAt 2 = .ok (.invokestatic 68, 3) := by decide +kernel
theorem dX3_waysAt_5 : decode cX3_waysAt 5 = .ok (.ifCond .eq 17, 3) := by decide +kernel
theorem dX3_waysAt_8 : decode cX3_waysAt 8 = .ok (.aload_n 0, 1) := by decide +kernel
theorem dX3_waysAt_9 : decode cX3_waysAt 9 = .ok (.getfield 15, 3) := by decide +kernel
theorem dX3_waysAt_12 : decode cX3_waysAt 12 = .ok (.iload_n 1, 1) := by decide +kernel
theorem dX3_waysAt_13 : decode cX3_waysAt 13 = .ok (.bipush 25, 2) := by decide +kernel
theorem dX3_waysAt_15 : decode cX3_waysAt 15 = .ok (.imul, 1) := by decide +kernel
theorem dX3_waysAt_16 : decode cX3_waysAt 16 = .ok (.iload_n 2, 1) := by decide +kernel
theorem dX3_waysAt_17 : decode cX3_waysAt 17 = .ok (.iadd, 1) := by decide +kernel
theorem dX3_waysAt_18 : decode cX3_waysAt 18 = .ok (.iaload, 1) := by decide +kernel
theorem dX3_waysAt_19 : decode cX3_waysAt 19 = .ok (.goto 4, 3) := by decide +kernel
theorem dX3_waysAt_22 : decode cX3_waysAt 22 = .ok (.iconst 0, 1) := by decide +kernel
theorem dX3_waysAt_23 : decode cX3_waysAt 23 = .ok (.ireturn, 1) := by decide +kernel
theorem dX3_isCell_0 : decode cX3_isCell 0 = .ok (.iload_n 0, 1) := by decide +kernel
theorem dX3_isCell_1 : decode cX3_isCell 1 = .ok (.ifCond .lt 23, 3) := by decide +kernel
theorem dX3_isCell_4 : decode cX3_isCell 4 = .ok (.iload_n 0, 1) := by decide +kernel
theorem dX3_isCell_5 : decode cX3_isCell 5 = .ok (.bipush 40, 2) := by decide +kernel
theorem dX3_isCell_7 : decode cX3_isCell 7 = .ok (.if_icmp .ge 17, 3) := by decide +kernel
theorem dX3_isCell_10 : decode cX3_isCell 10 = .ok (.iload_n 1, 1) := by decide +kernel
theorem dX3_isCell_11 : decode cX3_isCell 11 = .ok (.ifCond .lt 13, 3) := by decide +kernel
theorem dX3_isCell_14 : decode cX3_isCell 14 = .ok (.iload_n 1, 1) := by decide +kernel
theorem dX3_isCell_15 : decode cX3_isCell 15 = .ok (.bipush 25, 2) := by decide +kernel
theorem dX3_isCell_17 : decode cX3_isCell 17 = .ok (.if_icmp .ge 7, 3) := by decide +kernel
theorem dX3_isCell_20 : decode cX3_isCell 20 = .ok (.iconst 1, 1) := by decide +kernel
theorem dX3_isCell_21 : decode cX3_isCell 21 = .ok (.goto 4, 3) := by decide +kernel
theorem dX3_isCell_24 : decode cX3_isCell 24 = .ok (.iconst 0, 1) := by decide +kernel
theorem dX3_isCell_25 : decode cX3_isCell 25 = .ok (.ireturn, 1) := by decide +kernel
theorem dX3_atMostTies_0 : decode cX3_atMostTies 0 = .ok (.lload_n 0, 1) := by decide +kernel
theorem dX3_atMostTies_1 : decode cX3_atMostTies 1 = .ok (.ldc2_w 106, 3) := by decide +kernel
theorem dX3_atMostTies_4 : decode cX3_atMostTies 4 = .ok (.lcmp, 1) := by decide +kernel
theorem dX3_atMostTies_5 : decode cX3_atMostTies 5 = .ok (.ifCond .le 8, 3) := by decide +kernel
theorem dX3_atMostTies_8 : decode cX3_atMostTies 8 = .ok (.ldc 108, 2) := by decide +kernel
theorem dX3_atMostTies_10 : decode cX3_atMostTies 10 = .ok (.goto 5, 3) := by decide +kernel
theorem dX3_atMostTies_13 : decode cX3_atMostTies 13 = .ok (.lload_n 0, 1) := by decide +kernel
theorem dX3_atMostTies_14 : decode cX3_atMostTies 14 = .ok (.l2i, 1) := by decide +kernel
theorem dX3_atMostTies_15 : decode cX3_atMostTies 15 = .ok (.ireturn, 1) := by decide +kernel
theorem dX4_with_0 : decode cX4_with 0 = .ok (.iload_n 0, 1) := by decide +kernel
theorem dX4_with_1 : decode cX4_with 1 = .ok (.iload_n 2, 1) := by decide +kernel
theorem dX4_with_2 : decode cX4_with 2 = .ok (.iconst 3, 1) := by decide +kernel
theorem dX4_with_3 : decode cX4_with 3 = .ok (.iload_n 1, 1) := by decide +kernel
theorem dX4_with_4 : decode cX4_with 4 = .ok (.imul, 1) := by decide +kernel
theorem dX4_with_5 : decode cX4_with 5 = .ok (.ishl, 1) := by decide +kernel
theorem dX4_with_6 : decode cX4_with 6 = .ok (.ior, 1) := by decide +kernel
theorem dX4_with_7 : decode cX4_with 7 = .ok (.ireturn, 1) := by decide +kernel
theorem dX4_stringIn_0 : decode cX4_stringIn 0 = .ok (.iload_n 0, 1) := by decide +kernel
theorem dX4_stringIn_1 : decode cX4_stringIn 1 = .ok (.iconst 3, 1) := by decide +kernel
theorem dX4_stringIn_2 : decode cX4_stringIn 2 = .ok (.iload_n 1, 1) := by decide +kernel
theorem dX4_stringIn_3 : decode cX4_stringIn 3 = .ok (.imul, 1) := by decide +kernel
theorem dX4_stringIn_4 : decode cX4_stringIn 4 = .ok (.ishr, 1) := by decide +kernel
theorem dX4_stringIn_5 : decode cX4_stringIn 5 = .ok (.bipush 7, 2) := by decide +kernel
theorem dX4_stringIn_7 : decode cX4_stringIn 7 = .ok (.iand, 1) := by decide +kernel
theorem dX4_stringIn_8 : decode cX4_stringIn 8 = .ok (.ireturn, 1) := by decide +kernel
theorem dX5_init_0 : decode cX5_init 0 = .ok (.aload_n 0, 1) := by decide +kernel
theorem dX5_init_1 : decode cX5_init 1 = .ok (.invokespecial 3, 3) := by decide +kernel
theorem dX5_init_4 : decode cX5_init 4 = .ok (.aload_n 0, 1) := by decide +kernel
theorem dX5_init_5 : decode cX5_init 5 = .ok (.iconst 0, 1) := by decide +kernel
theorem dX5_init_6 : decode cX5_init 6 = .ok (.putfield 9, 3) := by decide +kernel
theorem dX5_init_9 : decode cX5_init 9 = .ok (.aload_n 0, 1) := by decide +kernel
theorem dX5_init_10 : decode cX5_init 10 = .ok (.bipush 7, 2) := by decide +kernel
theorem dX5_init_12 : decode cX5_init 12 = .ok (.newarray .int, 2) := by decide +kernel
theorem dX5_init_14 : decode cX5_init 14 = .ok (.putfield 15, 3) := by decide +kernel
theorem dX5_init_17 : decode cX5_init 17 = .ok (.aload_n 0, 1) := by decide +kernel
theorem dX5_init_18 : decode cX5_init 18 = .ok (.iconst (-1), 1) := by decide +kernel
theorem dX5_init_19 : decode cX5_init 19 = .ok (.putfield 19, 3) := by decide +kernel
theorem dX5_init_22 : decode cX5_init 22 = .ok (.aload_n 0, 1) := by decide +kernel
theorem dX5_init_23 : decode cX5_init 23 = .ok (.aload_n 1, 1) := by decide +kernel
theorem dX5_init_24 : decode cX5_init 24 = .ok (.putfield 22, 3) := by decide +kernel
theorem dX5_init_27 : decode cX5_init 27 = .ok (.aload_n 0, 1) := by decide +kernel
theorem dX5_init_28 : decode cX5_init 28 = .ok (.aload_n 2, 1) := by decide +kernel
theorem dX5_init_29 : decode cX5_init 29 = .ok (.putfield 26, 3) := by decide +kernel
theorem dX5_init_32 : decode cX5_init 32 = .ok (.aload_n 0, 1) := by decide +kernel
theorem dX5_init_33 : decode cX5_init 33 = .ok (.aload_n 3, 1) := by decide +kernel
theorem dX5_init_34 : decode cX5_init 34 = .ok (.putfield 30, 3) := by decide +kernel
theorem dX5_init_37 : decode cX5_init 37 = .ok (.return_, 1) := by decide +kernel
theorem dX5_findFault_0 : decode cX5_findFault 0 = .ok (.aload_n 0, 1) := by decide +kernel
theorem dX5_findFault_1 : decode cX5_findFault 1 = .ok (.aload_n 0, 1) := by decide +kernel
theorem dX5_findFault_2 : decode cX5_findFault 2 = .ok (.invokevirtual 34, 3) := by decide +kernel
theorem dX5_findFault_5 : decode cX5_findFault 5 = .ok (.putfield 19, 3) := by decide +kernel
theorem dX5_findFault_8 : decode cX5_findFault 8 = .ok (.aload_n 0, 1) := by decide +kernel
theorem dX5_findFault_9 : decode cX5_findFault 9 = .ok (.getfield 19, 3) := by decide +kernel
theorem dX5_findFault_12 : decode cX5_findFault 12 = .ok (.iconst (-1), 1) := by decide +kernel
theorem dX5_findFault_13 : decode cX5_findFault 13 = .ok (.if_icmp .eq 5, 3) := by decide +kernel
theorem dX5_findFault_16 : decode cX5_findFault 16 = .ok (.iconst 1, 1) := by decide +kernel
theorem dX5_findFault_17 : decode cX5_findFault 17 = .ok (.ireturn, 1) := by decide +kernel
theorem dX5_findFault_18 : decode cX5_findFault 18 = .ok (.aload_n 0, 1) := by decide +kernel
theorem dX5_findFault_19 : decode cX5_findFault 19 = .ok (.aload_n 0, 1) := by decide +kernel
theorem dX5_findFault_20 : decode cX5_findFault 20 = .ok (.invokevirtual 38, 3) := by decide +kernel
theorem dX5_findFault_23 : decode cX5_findFault 23 = .ok (.putfield 19, 3) := by decide +kernel
theorem dX5_findFault_26 : decode cX5_findFault 26 = .ok (.aload_n 0, 1) := by decide +kernel
theorem dX5_findFault_27 : decode cX5_findFault 27 = .ok (.getfield 19, 3) := by decide +kernel
theorem dX5_findFault_30 : decode cX5_findFault 30 = .ok (.iconst (-1), 1) := by decide +kernel
theorem dX5_findFault_31 : decode cX5_findFault 31 = .ok (.if_icmp .eq 5, 3) := by decide +kernel
theorem dX5_findFault_34 : decode cX5_findFault 34 = .ok (.iconst 2, 1) := by decide +kernel
theorem dX5_findFault_35 : decode cX5_findFault 35 = .ok (.ireturn, 1) := by decide +kernel
theorem dX5_findFault_36 : decode cX5_findFault 36 = .ok (.aload_n 0, 1) := by decide +kernel
theorem dX5_findFault_37 : decode cX5_findFault 37 = .ok (.aload_n 0, 1) := by decide +kernel
theorem dX5_findFault_38 : decode cX5_findFault 38 = .ok (.invokevirtual 41, 3) := by decide +kernel
theorem dX5_findFault_41 : decode cX5_findFault 41 = .ok (.putfield 19, 3) := by decide +kernel
theorem dX5_findFault_44 : decode cX5_findFault 44 = .ok (.aload_n 0, 1) := by decide +kernel
theorem dX5_findFault_45 : decode cX5_findFault 45 = .ok (.getfield 19, 3) := by decide +kernel
theorem dX5_findFault_48 : decode cX5_findFault 48 = .ok (.iconst (-1), 1) := by decide +kernel
theorem dX5_findFault_49 : decode cX5_findFault 49 = .ok (.if_icmp .eq 5, 3) := by decide +kernel
theorem dX5_findFault_52 : decode cX5_findFault 52 = .ok (.iconst 3, 1) := by decide +kernel
theorem dX5_findFault_53 : decode cX5_findFault 53 = .ok (.ireturn, 1) := by decide +kernel
theorem dX5_findFault_54 : decode cX5_findFault 54 = .ok (.aload_n 0, 1) := by decide +kernel
theorem dX5_findFault_55 : decode cX5_findFault 55 = .ok (.aload_n 0, 1) := by decide +kernel
theorem dX5_findFault_56 : decode cX5_findFault 56 = .ok (.invokevirtual 44, 3) := by decide +kernel
theorem dX5_findFault_59 : decode cX5_findFault 59 = .ok (.putfield 19, 3) := by decide +kernel
theorem dX5_findFault_62 : decode cX5_findFault 62 = .ok (.aload_n 0, 1) := by decide +kernel
theorem dX5_findFault_63 : decode cX5_findFault 63 = .ok (.getfield 19, 3) := by decide +kernel
theorem dX5_findFault_66 : decode cX5_findFault 66 = .ok (.iconst (-1), 1) := by decide +kernel
theorem dX5_findFault_67 : decode cX5_findFault 67 = .ok (.if_icmp .eq 5, 3) := by decide +kernel
theorem dX5_findFault_70 : decode cX5_findFault 70 = .ok (.iconst 4, 1) := by decide +kernel
theorem dX5_findFault_71 : decode cX5_findFault 71 = .ok (.ireturn, 1) := by decide +kernel
theorem dX5_findFault_72 : decode cX5_findFault 72 = .ok (.aload_n 0, 1) := by decide +kernel
theorem dX5_findFault_73 : decode cX5_findFault 73 = .ok (.aload_n 0, 1) := by decide +kernel
theorem dX5_findFault_74 : decode cX5_findFault 74 = .ok (.invokevirtual 47, 3) := by decide +kernel
theorem dX5_findFault_77 : decode cX5_findFault 77 = .ok (.putfield 19, 3) := by decide +kernel
theorem dX5_findFault_80 : decode cX5_findFault 80 = .ok (.aload_n 0, 1) := by decide +kernel
theorem dX5_findFault_81 : decode cX5_findFault 81 = .ok (.getfield 19, 3) := by decide +kernel
theorem dX5_findFault_84 : decode cX5_findFault 84 = .ok (.iconst (-1), 1) := by decide +kernel
theorem dX5_findFault_85 : decode cX5_findFault 85 = .ok (.if_icmp .eq 7, 3) := by decide +kernel
theorem dX5_findFault_88 : decode cX5_findFault 88 = .ok (.iconst 5, 1) := by decide +kernel
theorem dX5_findFault_89 : decode cX5_findFault 89 = .ok (.goto 4, 3) := by decide +kernel
theorem dX5_findFault_92 : decode cX5_findFault 92 = .ok (.iconst 0, 1) := by decide +kernel
theorem dX5_findFault_93 : decode cX5_findFault 93 = .ok (.ireturn, 1) := by decide +kernel
theorem dX5_takeEvents_0 : decode cX5_takeEvents 0 = .ok (.aload_n 0, 1) := by decide +kernel
theorem dX5_takeEvents_1 : decode cX5_takeEvents 1 = .ok (.getfield 26, 3) := by decide +kernel
theorem dX5_takeEvents_4 : decode cX5_takeEvents 4 = .ok (.iconst 0, 1) := by decide +kernel
theorem dX5_takeEvents_5 : decode cX5_takeEvents 5 = .ok (.putfield 50, 3) := by decide +kernel
theorem dX5_takeEvents_8 : decode cX5_takeEvents 8 = .ok (.iconst 1, 1) := by decide +kernel
theorem dX5_takeEvents_9 : decode cX5_takeEvents 9 = .ok (.istore_n 1, 1) := by decide +kernel
theorem dX5_takeEvents_10 : decode cX5_takeEvents 10 = .ok (.iload_n 1, 1) := by decide +kernel
theorem dX5_takeEvents_11 : decode cX5_takeEvents 11 = .ok (.aload_n 0, 1) := by decide +kernel
theorem dX5_takeEvents_12 : decode cX5_takeEvents 12 = .ok (.getfield 9, 3) := by decide +kernel
theorem dX5_takeEvents_15 : decode cX5_takeEvents 15 = .ok (.if_icmp .ge 36, 3) := by decide +kernel
theorem dX5_takeEvents_18 : decode cX5_takeEvents 18 = .ok (.aload_n 0, 1) := by decide +kernel
theorem dX5_takeEvents_19 : decode cX5_takeEvents 19 = .ok (.iload_n 1, 1) := by decide +kernel
theorem dX5_takeEvents_20 : decode cX5_takeEvents 20 = .ok (.invokevirtual 55, 3) := by decide +kernel
theorem dX5_takeEvents_23 : decode cX5_takeEvents 23 = .ok (.aload_n 0, 1) := by decide +kernel
theorem dX5_takeEvents_24 : decode cX5_takeEvents 24 = .ok (.invokevirtual 59, 3) := by decide +kernel
theorem dX5_takeEvents_27 : decode cX5_takeEvents 27 = .ok (.iconst (-1), 1) := by decide +kernel
theorem dX5_takeEvents_28 : decode cX5_takeEvents 28 = .ok (.if_icmp .eq 17, 3) := by decide +kernel
theorem dX5_takeEvents_31 : decode cX5_takeEvents 31 = .ok (.aload_n 0, 1) := by decide +kernel
theorem dX5_takeEvents_32 : decode cX5_takeEvents 32 = .ok (.getfield 26, 3) := by decide +kernel
theorem dX5_takeEvents_35 : decode cX5_takeEvents 35 = .ok (.invokevirtual 62, 3) := by decide +kernel
theorem dX5_takeEvents_38 : decode cX5_takeEvents 38 = .ok (.ifCond .eq 7, 3) := by decide +kernel
theorem dX5_takeEvents_41 : decode cX5_takeEvents 41 = .ok (.aload_n 0, 1) := by decide +kernel
theorem dX5_takeEvents_42 : decode cX5_takeEvents 42 = .ok (.invokevirtual 66, 3) := by decide +kernel
theorem dX5_takeEvents_45 : decode cX5_takeEvents 45 = .ok (.iinc 1 1, 3) := by decide +kernel
theorem dX5_takeEvents_48 : decode cX5_takeEvents 48 = .ok (.goto (-38), 3) := by decide +kernel
theorem dX5_takeEvents_51 : decode cX5_takeEvents 51 = .ok (.return_, 1) := by decide +kernel
theorem dX5_takePitches_0 : decode cX5_takePitches 0 = .ok (.iconst 0, 1) := by decide +kernel
theorem dX5_takePitches_1 : decode cX5_takePitches 1 = .ok (.istore_n 1, 1) := by decide +kernel
theorem dX5_takePitches_2 : decode cX5_takePitches 2 = .ok (.iload_n 1, 1) := by decide +kernel
theorem dX5_takePitches_3 : decode cX5_takePitches 3 = .ok (.aload_n 0, 1) := by decide +kernel
theorem dX5_takePitches_4 : decode cX5_takePitches 4 = .ok (.getfield 22, 3) := by decide +kernel
theorem dX5_takePitches_7 : decode cX5_takePitches 7 = .ok (.getfield 69, 3) := by decide +kernel
theorem dX5_takePitches_10 : decode cX5_takePitches 10 = .ok (.if_icmp .ge 34, 3) := by decide +kernel
theorem dX5_takePitches_13 : decode cX5_takePitches 13 = .ok (.aload_n 0, 1) := by decide +kernel
theorem dX5_takePitches_14 : decode cX5_takePitches 14 = .ok (.getfield 15, 3) := by decide +kernel
theorem dX5_takePitches_17 : decode cX5_takePitches 17 = .ok (.iload_n 1, 1) := by decide +kernel
theorem dX5_takePitches_18 : decode cX5_takePitches 18 = .ok (.iaload, 1) := by decide +kernel
theorem dX5_takePitches_19 : decode cX5_takePitches 19 = .ok (.iconst (-1), 1) := by decide +kernel
theorem dX5_takePitches_20 : decode cX5_takePitches 20 = .ok (.if_icmp .eq 18, 3) := by decide +kernel
theorem dX5_takePitches_23 : decode cX5_takePitches 23 = .ok (.aload_n 0, 1) := by decide +kernel
theorem dX5_takePitches_24 : decode cX5_takePitches 24 = .ok (.getfield 26, 3) := by decide +kernel
theorem dX5_takePitches_27 : decode cX5_takePitches 27 = .ok (.aload_n 0, 1) := by decide +kernel
theorem dX5_takePitches_28 : decode cX5_takePitches 28 = .ok (.getfield 15, 3) := by decide +kernel
theorem dX5_takePitches_31 : decode cX5_takePitches 31 = .ok (.iload_n 1, 1) := by decide +kernel
theorem dX5_takePitches_32 : decode cX5_takePitches 32 = .ok (.iaload, 1) := by decide +kernel
theorem dX5_takePitches_33 : decode cX5_takePitches 33 = .ok (.iload_n 1, 1) := by decide +kernel
theorem dX5_takePitches_34 : decode cX5_takePitches 34 = .ok (.invokevirtual 74, 3) := by decide +kernel
theorem dX5_takePitches_37 : decode cX5_takePitches 37 = .ok (.pop, 1) := by decide +kernel
theorem dX5_takePitches_38 : decode cX5_takePitches 38 = .ok (.iinc 1 1, 3) := by decide +kernel
theorem dX5_takePitches_41 : decode cX5_takePitches 41 = .ok (.goto (-39), 3) := by decide +kernel
theorem dX5_takePitches_44 : decode cX5_takePitches 44 = .ok (.return_, 1) := by decide +kernel
theorem dX5_wrongSign_0 : decode cX5_wrongSign 0 = .ok (.aload_n 0, 1) := by decide +kernel
theorem dX5_wrongSign_1 : decode cX5_wrongSign 1 = .ok (.invokevirtual 78, 3) := by decide +kernel
theorem dX5_wrongSign_4 : decode cX5_wrongSign 4 = .ok (.istore_n 1, 1) := by decide +kernel
theorem dX5_wrongSign_5 : decode cX5_wrongSign 5 = .ok (.iload_n 1, 1) := by decide +kernel
theorem dX5_wrongSign_6 : decode cX5_wrongSign 6 = .ok (.iconst (-1), 1) := by decide +kernel
theorem dX5_wrongSign_7 : decode cX5_wrongSign 7 = .ok (.if_icmp .eq 5, 3) := by decide +kernel
theorem dX5_wrongSign_10 : decode cX5_wrongSign 10 = .ok (.iload_n 1, 1) := by decide +kernel
theorem dX5_wrongSign_11 : decode cX5_wrongSign 11 = .ok (.ireturn, 1) := by decide +kernel
theorem dX5_wrongSign_12 : decode cX5_wrongSign 12 = .ok (.aload_n 0, 1) := by decide +kernel
theorem dX5_wrongSign_13 : decode cX5_wrongSign 13 = .ok (.getfield 22, 3) := by decide +kernel
theorem dX5_wrongSign_16 : decode cX5_wrongSign 16 = .ok (.getfield 69, 3) := by decide +kernel
theorem dX5_wrongSign_19 : decode cX5_wrongSign 19 = .ok (.iconst 2, 1) := by decide +kernel
theorem dX5_wrongSign_20 : decode cX5_wrongSign 20 = .ok (.isub, 1) := by decide +kernel
theorem dX5_wrongSign_21 : decode cX5_wrongSign 21 = .ok (.istore_n 2, 1) := by decide +kernel
theorem dX5_wrongSign_22 : decode cX5_wrongSign 22 = .ok (.iload_n 2, 1) := by decide +kernel
theorem dX5_wrongSign_23 : decode cX5_wrongSign 23 = .ok (.ifCond .lt 46, 3) := by decide +kernel
theorem dX5_wrongSign_26 : decode cX5_wrongSign 26 = .ok (.iconst 0, 1) := by decide +kernel
theorem dX5_wrongSign_27 : decode cX5_wrongSign 27 = .ok (.istore_n 3, 1) := by decide +kernel
theorem dX5_wrongSign_28 : decode cX5_wrongSign 28 = .ok (.iload_n 3, 1) := by decide +kernel
theorem dX5_wrongSign_29 : decode cX5_wrongSign 29 = .ok (.aload_n 0, 1) := by decide +kernel
theorem dX5_wrongSign_30 : decode cX5_wrongSign 30 = .ok (.getfield 9, 3) := by decide +kernel
theorem dX5_wrongSign_33 : decode cX5_wrongSign 33 = .ok (.if_icmp .ge 30, 3) := by decide +kernel
theorem dX5_wrongSign_36 : decode cX5_wrongSign 36 = .ok (.aload_n 0, 1) := by decide +kernel
theorem dX5_wrongSign_37 : decode cX5_wrongSign 37 = .ok (.aload_n 0, 1) := by decide +kernel
theorem dX5_wrongSign_38 : decode cX5_wrongSign 38 = .ok (.iload_n 2, 1) := by decide +kernel
theorem dX5_wrongSign_39 : decode cX5_wrongSign 39 = .ok (.iload_n 3, 1) := by decide +kernel
theorem dX5_wrongSign_40 : decode cX5_wrongSign 40 = .ok (.invokevirtual 81, 3) := by decide +kernel
theorem dX5_wrongSign_43 : decode cX5_wrongSign 43 = .ok (.iload_n 3, 1) := by decide +kernel
theorem dX5_wrongSign_44 : decode cX5_wrongSign 44 = .ok (.invokevirtual 85, 3) := by decide +kernel
theorem dX5_wrongSign_47 : decode cX5_wrongSign 47 = .ok (.ifCond .ne 10, 3) := by decide +kernel
theorem dX5_wrongSign_50 : decode cX5_wrongSign 50 = .ok (.aload_n 0, 1) := by decide +kernel
theorem dX5_wrongSign_51 : decode cX5_wrongSign 51 = .ok (.iload_n 2, 1) := by decide +kernel
theorem dX5_wrongSign_52 : decode cX5_wrongSign 52 = .ok (.iload_n 3, 1) := by decide +kernel
theorem dX5_wrongSign_53 : decode cX5_wrongSign 53 = .ok (.invokevirtual 88, 3) := by decide +kernel
theorem dX5_wrongSign_56 : decode cX5_wrongSign 56 = .ok (.ireturn, 1) := by decide +kernel
theorem dX5_wrongSign_57 : decode cX5_wrongSign 57 = .ok (.iinc 3 1, 3) := by decide +kernel
theorem dX5_wrongSign_60 : decode cX5_wrongSign 60 = .ok (.goto (-32), 3) := by decide +kernel
theorem dX5_wrongSign_63 : decode cX5_wrongSign 63 = .ok (.iinc 2 (-1), 3) := by decide +kernel
theorem dX5_wrongSign_66 : decode cX5_wrongSign 66 = .ok (.goto (-44), 3) := by decide +kernel
theorem dX5_wrongSign_69 : decode cX5_wrongSign 69 = .ok (.aload_n 0, 1) := by decide +kernel
theorem dX5_wrongSign_70 : decode cX5_wrongSign 70 = .ok (.getfield 22, 3) := by decide +kernel
theorem dX5_wrongSign_73 : decode cX5_wrongSign 73 = .ok (.getfield 69, 3) := by decide +kernel
theorem dX5_wrongSign_76 : decode cX5_wrongSign 76 = .ok (.aload_n 0, 1) := by decide +kernel
theorem dX5_wrongSign_77 : decode cX5_wrongSign 77 = .ok (.getfield 9, 3) := by decide +kernel
theorem dX5_wrongSign_80 : decode cX5_wrongSign 80 = .ok (.imul, 1) := by decide +kernel
theorem dX5_wrongSign_81 : decode cX5_wrongSign 81 = .ok (.istore_n 2, 1) := by decide +kernel
theorem dX5_wrongSign_82 : decode cX5_wrongSign 82 = .ok (.aload_n 0, 1) := by decide +kernel
theorem dX5_wrongSign_83 : decode cX5_wrongSign 83 = .ok (.getfield 30, 3) := by decide +kernel
theorem dX5_wrongSign_86 : decode cX5_wrongSign 86 = .ok (.getfield 91, 3) := by decide +kernel
theorem dX5_wrongSign_89 : decode cX5_wrongSign 89 = .ok (.iload_n 2, 1) := by decide +kernel
theorem dX5_wrongSign_90 : decode cX5_wrongSign 90 = .ok (.if_icmp .le 7, 3) := by decide +kernel
theorem dX5_wrongSign_93 : decode cX5_wrongSign 93 = .ok (.iload_n 2, 1) := by decide +kernel
theorem dX5_wrongSign_94 : decode cX5_wrongSign 94 = .ok (.goto 4, 3) := by decide +kernel
theorem dX5_wrongSign_97 : decode cX5_wrongSign 97 = .ok (.iconst (-1), 1) := by decide +kernel
theorem dX5_wrongSign_98 : decode cX5_wrongSign 98 = .ok (.ireturn, 1) := by decide +kernel
theorem dX5_measureFirstLine_0 : decode cX5_measureFirstLine 0 = .ok (.aload_n 0, 1) := by decide +kernel
theorem dX5_measureFirstLine_1 : decode cX5_measureFirstLine 1 = .ok (.getfield 30, 3) := by decide +kernel
theorem dX5_measureFirstLine_4 : decode cX5_measureFirstLine 4 = .ok (.iconst 0, 1) := by decide +kernel
theorem dX5_measureFirstLine_5 : decode cX5_measureFirstLine 5 = .ok (.invokevirtual 96, 3) := by decide +kernel
theorem dX5_measureFirstLine_8 : decode cX5_measureFirstLine 8 = .ok (.bipush 124, 2) := by decide +kernel
theorem dX5_measureFirstLine_10 : decode cX5_measureFirstLine 10 = .ok (.if_icmp .eq 5, 3) := by decide +kernel
theorem dX5_measureFirstLine_13 : decode cX5_measureFirstLine 13 = .ok (.iconst 0, 1) := by decide +kernel
theorem dX5_measureFirstLine_14 : decode cX5_measureFirstLine 14 = .ok (.ireturn, 1) := by decide +kernel
theorem dX5_measureFirstLine_15 : decode cX5_measureFirstLine 15 = .ok (.iconst 1, 1) := by decide +kernel
theorem dX5_measureFirstLine_16 : decode cX5_measureFirstLine 16 = .ok (.istore_n 1, 1) := by decide +kernel
theorem dX5_measureFirstLine_17 : decode cX5_measureFirstLine 17 = .ok (.iload_n 1, 1) := by decide +kernel
theorem dX5_measureFirstLine_18 : decode cX5_measureFirstLine 18 = .ok (.aload_n 0, 1) := by decide +kernel
theorem dX5_measureFirstLine_19 : decode cX5_measureFirstLine 19 = .ok (.getfield 30, 3) := by decide +kernel
theorem dX5_measureFirstLine_22 : decode cX5_measureFirstLine 22 = .ok (.getfield 91, 3) := by decide +kernel
theorem dX5_measureFirstLine_25 : decode cX5_measureFirstLine 25 = .ok (.if_icmp .ge 23, 3) := by decide +kernel
theorem dX5_measureFirstLine_28 : decode cX5_measureFirstLine 28 = .ok (.aload_n 0, 1) := by decide +kernel
theorem dX5_measureFirstLine_29 : decode cX5_measureFirstLine 29 = .ok (.getfield 30, 3) := by decide +kernel
theorem dX5_measureFirstLine_32 : decode cX5_measureFirstLine 32 = .ok (.iload_n 1, 1) := by decide +kernel
theorem dX5_measureFirstLine_33 : decode cX5_measureFirstLine 33 = .ok (.invokevirtual 96, 3) := by decide +kernel
theorem dX5_measureFirstLine_36 : decode cX5_measureFirstLine 36 = .ok (.invokestatic 100, 3) := by decide +kernel
theorem dX5_measureFirstLine_39 : decode cX5_measureFirstLine 39 = .ok (.ifCond .eq 9, 3) := by decide +kernel
theorem dX5_measureFirstLine_42 : decode cX5_measureFirstLine 42 = .ok (.iinc 1 1, 3) := by decide +kernel
theorem dX5_measureFirstLine_45 : decode cX5_measureFirstLine 45 = .ok (.goto (-28), 3) := by decide +kernel
theorem dX5_measureFirstLine_48 : decode cX5_measureFirstLine 48 = .ok (.aload_n 0, 1) := by decide +kernel
theorem dX5_measureFirstLine_49 : decode cX5_measureFirstLine 49 = .ok (.getfield 30, 3) := by decide +kernel
theorem dX5_measureFirstLine_52 : decode cX5_measureFirstLine 52 = .ok (.iload_n 1, 1) := by decide +kernel
theorem dX5_measureFirstLine_53 : decode cX5_measureFirstLine 53 = .ok (.invokevirtual 96, 3) := by decide +kernel
theorem dX5_measureFirstLine_56 : decode cX5_measureFirstLine 56 = .ok (.bipush 124, 2) := by decide +kernel
theorem dX5_measureFirstLine_58 : decode cX5_measureFirstLine 58 = .ok (.if_icmp .eq 5, 3) := by decide +kernel
theorem dX5_measureFirstLine_61 : decode cX5_measureFirstLine 61 = .ok (.iload_n 1, 1) := by decide +kernel
theorem dX5_measureFirstLine_62 : decode cX5_measureFirstLine 62 = .ok (.ireturn, 1) := by decide +kernel
theorem dX5_measureFirstLine_63 : decode cX5_measureFirstLine 63 = .ok (.aload_n 0, 1) := by decide +kernel
theorem dX5_measureFirstLine_64 : decode cX5_measureFirstLine 64 = .ok (.getfield 30, 3) := by decide +kernel
theorem dX5_measureFirstLine_67 : decode cX5_measureFirstLine 67 = .ok (.iload_n 1, 1) := by decide +kernel
theorem dX5_measureFirstLine_68 : decode cX5_measureFirstLine 68 = .ok (.iconst 1, 1) := by decide +kernel
theorem dX5_measureFirstLine_69 : decode cX5_measureFirstLine 69 = .ok (.iadd, 1) := by decide +kernel
theorem dX5_measureFirstLine_70 : decode cX5_measureFirstLine 70 = .ok (.invokevirtual 96, 3) := by decide +kernel
theorem dX5_measureFirstLine_73 : decode cX5_measureFirstLine 73 = .ok (.bipush 10, 2) := by decide +kernel
theorem dX5_measureFirstLine_75 : decode cX5_measureFirstLine 75 = .ok (.if_icmp .eq 7, 3) := by decide +kernel
theorem dX5_measureFirstLine_78 : decode cX5_measureFirstLine 78 = .ok (.iload_n 1, 1) := by decide +kernel
theorem dX5_measureFirstLine_79 : decode cX5_measureFirstLine 79 = .ok (.iconst 1, 1) := by decide +kernel
theorem dX5_measureFirstLine_80 : decode cX5_measureFirstLine 80 = .ok (.iadd, 1) := by decide +kernel
theorem dX5_measureFirstLine_81 : decode cX5_measureFirstLine 81 = .ok (.ireturn, 1) := by decide +kernel
theorem dX5_measureFirstLine_82 : decode cX5_measureFirstLine 82 = .ok (.aload_n 0, 1) := by decide +kernel
theorem dX5_measureFirstLine_83 : decode cX5_measureFirstLine 83 = .ok (.iload_n 1, 1) := by decide +kernel
theorem dX5_measureFirstLine_84 : decode cX5_measureFirstLine 84 = .ok (.iconst 2, 1) := by decide +kernel
theorem dX5_measureFirstLine_85 : decode cX5_measureFirstLine 85 = .ok (.iadd, 1) := by decide +kernel
theorem dX5_measureFirstLine_86 : decode cX5_measureFirstLine 86 = .ok (.putfield 9, 3) := by decide +kernel
theorem dX5_measureFirstLine_89 : decode cX5_measureFirstLine 89 = .ok (.iconst (-1), 1) := by decide +kernel
theorem dX5_measureFirstLine_90 : decode cX5_measureFirstLine 90 = .ok (.ireturn, 1) := by decide +kernel
theorem dX5_fitsColumn_0 : decode cX5_fitsColumn 0 = .ok (.iload_n 2, 1) := by decide +kernel
theorem dX5_fitsColumn_1 : decode cX5_fitsColumn 1 = .ok (.aload_n 0, 1) := by decide +kernel
theorem dX5_fitsColumn_2 : decode cX5_fitsColumn 2 = .ok (.getfield 9, 3) := by decide +kernel
theorem dX5_fitsColumn_5 : decode cX5_fitsColumn 5 = .ok (.iconst 1, 1) := by decide +kernel
theorem dX5_fitsColumn_6 : decode cX5_fitsColumn 6 = .ok (.isub, 1) := by decide +kernel
theorem dX5_fitsColumn_7 : decode cX5_fitsColumn 7 = .ok (.if_icmp .ne 15, 3) := by decide +kernel
theorem dX5_fitsColumn_10 : decode cX5_fitsColumn 10 = .ok (.iload_n 1, 1) := by decide +kernel
theorem dX5_fitsColumn_11 : decode cX5_fitsColumn 11 = .ok (.bipush 10, 2) := by decide +kernel
theorem dX5_fitsColumn_13 : decode cX5_fitsColumn 13 = .ok (.if_icmp .ne 7, 3) := by decide +kernel
theorem dX5_fitsColumn_16 : decode cX5_fitsColumn 16 = .ok (.iconst 1, 1) := by decide +kernel
theorem dX5_fitsColumn_17 : decode cX5_fitsColumn 17 = .ok (.goto 4, 3) := by decide +kernel
theorem dX5_fitsColumn_20 : decode cX5_fitsColumn 20 = .ok (.iconst 0, 1) := by decide +kernel
theorem dX5_fitsColumn_21 : decode cX5_fitsColumn 21 = .ok (.ireturn, 1) := by decide +kernel
theorem dX5_fitsColumn_22 : decode cX5_fitsColumn 22 = .ok (.iload_n 2, 1) := by decide +kernel
theorem dX5_fitsColumn_23 : decode cX5_fitsColumn 23 = .ok (.ifCond .eq 13, 3) := by decide +kernel
theorem dX5_fitsColumn_26 : decode cX5_fitsColumn 26 = .ok (.iload_n 2, 1) := by decide +kernel
theorem dX5_fitsColumn_27 : decode cX5_fitsColumn 27 = .ok (.aload_n 0, 1) := by decide +kernel
theorem dX5_fitsColumn_28 : decode cX5_fitsColumn 28 = .ok (.getfield 9, 3) := by decide +kernel
theorem dX5_fitsColumn_31 : decode cX5_fitsColumn 31 = .ok (.iconst 2, 1) := by decide +kernel
theorem dX5_fitsColumn_32 : decode cX5_fitsColumn 32 = .ok (.isub, 1) := by decide +kernel
theorem dX5_fitsColumn_33 : decode cX5_fitsColumn 33 = .ok (.if_icmp .ne 15, 3) := by decide +kernel
theorem dX5_fitsColumn_36 : decode cX5_fitsColumn 36 = .ok (.iload_n 1, 1) := by decide +kernel
theorem dX5_fitsColumn_37 : decode cX5_fitsColumn 37 = .ok (.bipush 124, 2) := by decide +kernel
theorem dX5_fitsColumn_39 : decode cX5_fitsColumn 39 = .ok (.if_icmp .ne 7, 3) := by decide +kernel
theorem dX5_fitsColumn_42 : decode cX5_fitsColumn 42 = .ok (.iconst 1, 1) := by decide +kernel
theorem dX5_fitsColumn_43 : decode cX5_fitsColumn 43 = .ok (.goto 4, 3) := by decide +kernel
theorem dX5_fitsColumn_46 : decode cX5_fitsColumn 46 = .ok (.iconst 0, 1) := by decide +kernel
theorem dX5_fitsColumn_47 : decode cX5_fitsColumn 47 = .ok (.ireturn, 1) := by decide +kernel
theorem dX5_fitsColumn_48 : decode cX5_fitsColumn 48 = .ok (.iload_n 1, 1) := by decide +kernel
theorem dX5_fitsColumn_49 : decode cX5_fitsColumn 49 = .ok (.invokestatic 100, 3) := by decide +kernel
theorem dX5_fitsColumn_52 : decode cX5_fitsColumn 52 = .ok (.ireturn, 1) := by decide +kernel
theorem dX5_wrongNumber_0 : decode cX5_wrongNumber 0 = .ok (.aload_n 0, 1) := by decide +kernel
theorem dX5_wrongNumber_1 : decode cX5_wrongNumber 1 = .ok (.getfield 22, 3) := by decide +kernel
theorem dX5_wrongNumber_4 : decode cX5_wrongNumber 4 = .ok (.getfield 69, 3) := by decide +kernel
theorem dX5_wrongNumber_7 : decode cX5_wrongNumber 7 = .ok (.iconst 1, 1) := by decide +kernel
theorem dX5_wrongNumber_8 : decode cX5_wrongNumber 8 = .ok (.isub, 1) := by decide +kernel
theorem dX5_wrongNumber_9 : decode cX5_wrongNumber 9 = .ok (.istore_n 1, 1) := by decide +kernel
theorem dX5_wrongNumber_10 : decode cX5_wrongNumber 10 = .ok (.iload_n 1, 1) := by decide +kernel
theorem dX5_wrongNumber_11 : decode cX5_wrongNumber 11 = .ok (.ifCond .lt 50, 3) := by decide +kernel
theorem dX5_wrongNumber_14 : decode cX5_wrongNumber 14 = .ok (.iconst 1, 1) := by decide +kernel
theorem dX5_wrongNumber_15 : decode cX5_wrongNumber 15 = .ok (.istore_n 2, 1) := by decide +kernel
theorem dX5_wrongNumber_16 : decode cX5_wrongNumber 16 = .ok (.iload_n 2, 1) := by decide +kernel
theorem dX5_wrongNumber_17 : decode cX5_wrongNumber 17 = .ok (.aload_n 0, 1) := by decide +kernel
theorem dX5_wrongNumber_18 : decode cX5_wrongNumber 18 = .ok (.getfield 9, 3) := by decide +kernel
theorem dX5_wrongNumber_21 : decode cX5_wrongNumber 21 = .ok (.if_icmp .ge 34, 3) := by decide +kernel
theorem dX5_wrongNumber_24 : decode cX5_wrongNumber 24 = .ok (.aload_n 0, 1) := by decide +kernel
theorem dX5_wrongNumber_25 : decode cX5_wrongNumber 25 = .ok (.iload_n 1, 1) := by decide +kernel
theorem dX5_wrongNumber_26 : decode cX5_wrongNumber 26 = .ok (.iload_n 2, 1) := by decide +kernel
theorem dX5_wrongNumber_27 : decode cX5_wrongNumber 27 = .ok (.invokevirtual 104, 3) := by decide +kernel
theorem dX5_wrongNumber_30 : decode cX5_wrongNumber 30 = .ok (.ifCond .eq 19, 3) := by decide +kernel
theorem dX5_wrongNumber_33 : decode cX5_wrongNumber 33 = .ok (.aload_n 0, 1) := by decide +kernel
theorem dX5_wrongNumber_34 : decode cX5_wrongNumber 34 = .ok (.iload_n 1, 1) := by decide +kernel
theorem dX5_wrongNumber_35 : decode cX5_wrongNumber 35 = .ok (.iload_n 2, 1) := by decide +kernel
theorem dX5_wrongNumber_36 : decode cX5_wrongNumber 36 = .ok (.invokevirtual 107, 3) := by decide +kernel
theorem dX5_wrongNumber_39 : decode cX5_wrongNumber 39 = .ok (.ifCond .ne 10, 3) := by decide +kernel
theorem dX5_wrongNumber_42 : decode cX5_wrongNumber 42 = .ok (.aload_n 0, 1) := by decide +kernel
theorem dX5_wrongNumber_43 : decode cX5_wrongNumber 43 = .ok (.iload_n 1, 1) := by decide +kernel
theorem dX5_wrongNumber_44 : decode cX5_wrongNumber 44 = .ok (.iload_n 2, 1) := by decide +kernel
theorem dX5_wrongNumber_45 : decode cX5_wrongNumber 45 = .ok (.invokevirtual 88, 3) := by decide +kernel
theorem dX5_wrongNumber_48 : decode cX5_wrongNumber 48 = .ok (.ireturn, 1) := by decide +kernel
theorem dX5_wrongNumber_49 : decode cX5_wrongNumber 49 = .ok (.iinc 2 1, 3) := by decide +kernel
theorem dX5_wrongNumber_52 : decode cX5_wrongNumber 52 = .ok (.goto (-36), 3) := by decide +kernel
theorem dX5_wrongNumber_55 : decode cX5_wrongNumber 55 = .ok (.iinc 1 (-1), 3) := by decide +kernel
theorem dX5_wrongNumber_58 : decode cX5_wrongNumber 58 = .ok (.goto (-48), 3) := by decide +kernel
theorem dX5_wrongNumber_61 : decode cX5_wrongNumber 61 = .ok (.iconst (-1), 1) := by decide +kernel
theorem dX5_wrongNumber_62 : decode cX5_wrongNumber 62 = .ok (.ireturn, 1) := by decide +kernel
theorem dX5_isFretNumber_0 : decode cX5_isFretNumber 0 = .ok (.aload_n 0, 1) := by decide +kernel
theorem dX5_isFretNumber_1 : decode cX5_isFretNumber 1 = .ok (.iload_n 1, 1) := by decide +kernel
theorem dX5_isFretNumber_2 : decode cX5_isFretNumber 2 = .ok (.iload_n 2, 1) := by decide +kernel
theorem dX5_isFretNumber_3 : decode cX5_isFretNumber 3 = .ok (.iconst 1, 1) := by decide +kernel
theorem dX5_isFretNumber_4 : decode cX5_isFretNumber 4 = .ok (.iadd, 1) := by decide +kernel
theorem dX5_isFretNumber_5 : decode cX5_isFretNumber 5 = .ok (.invokevirtual 81, 3) := by decide +kernel
theorem dX5_isFretNumber_8 : decode cX5_isFretNumber 8 = .ok (.invokestatic 110, 3) := by decide +kernel
theorem dX5_isFretNumber_11 : decode cX5_isFretNumber 11 = .ok (.ifCond .ne 33, 3) := by decide +kernel
theorem dX5_isFretNumber_14 : decode cX5_isFretNumber 14 = .ok (.aload_n 0, 1) := by decide +kernel
theorem dX5_isFretNumber_15 : decode cX5_isFretNumber 15 = .ok (.getfield 22, 3) := by decide +kernel
theorem dX5_isFretNumber_18 : decode cX5_isFretNumber 18 = .ok (.getfield 113, 3) := by decide +kernel
theorem dX5_isFretNumber_21 : decode cX5_isFretNumber 21 = .ok (.aload_n 0, 1) := by decide +kernel
theorem dX5_isFretNumber_22 : decode cX5_isFretNumber 22 = .ok (.iload_n 1, 1) := by decide +kernel
theorem dX5_isFretNumber_23 : decode cX5_isFretNumber 23 = .ok (.iload_n 2, 1) := by decide +kernel
theorem dX5_isFretNumber_24 : decode cX5_isFretNumber 24 = .ok (.invokevirtual 116, 3) := by decide +kernel
theorem dX5_isFretNumber_27 : decode cX5_isFretNumber 27 = .ok (.iadd, 1) := by decide +kernel
theorem dX5_isFretNumber_28 : decode cX5_isFretNumber 28 = .ok (.aload_n 0, 1) := by decide +kernel
theorem dX5_isFretNumber_29 : decode cX5_isFretNumber 29 = .ok (.getfield 22, 3) := by decide +kernel
theorem dX5_isFretNumber_32 : decode cX5_isFretNumber 32 = .ok (.getfield 119, 3) := by decide +kernel
theorem dX5_isFretNumber_35 : decode cX5_isFretNumber 35 = .ok (.if_icmp .gt 7, 3) := by decide +kernel
theorem dX5_isFretNumber_38 : decode cX5_isFretNumber 38 = .ok (.iconst 1, 1) := by decide +kernel
theorem dX5_isFretNumber_39 : decode cX5_isFretNumber 39 = .ok (.goto 4, 3) := by decide +kernel
theorem dX5_isFretNumber_42 : decode cX5_isFretNumber 42 = .ok (.iconst 0, 1) := by decide +kernel
theorem dX5_isFretNumber_43 : decode cX5_isFretNumber 43 = .ok (.ireturn, 1) := by decide +kernel
theorem dX5_isFretNumber_44 : decode cX5_isFretNumber 44 = .ok (.aload_n 0, 1) := by decide +kernel
theorem dX5_isFretNumber_45 : decode cX5_isFretNumber 45 = .ok (.iload_n 1, 1) := by decide +kernel
theorem dX5_isFretNumber_46 : decode cX5_isFretNumber 46 = .ok (.iload_n 2, 1) := by decide +kernel
theorem dX5_isFretNumber_47 : decode cX5_isFretNumber 47 = .ok (.invokevirtual 81, 3) := by decide +kernel
theorem dX5_isFretNumber_50 : decode cX5_isFretNumber 50 = .ok (.bipush 48, 2) := by decide +kernel
theorem dX5_isFretNumber_52 : decode cX5_isFretNumber 52 = .ok (.if_icmp .eq 45, 3) := by decide +kernel
theorem dX5_isFretNumber_55 : decode cX5_isFretNumber 55 = .ok (.aload_n 0, 1) := by decide +kernel
theorem dX5_isFretNumber_56 : decode cX5_isFretNumber 56 = .ok (.iload_n 1, 1) := by decide +kernel
theorem dX5_isFretNumber_57 : decode cX5_isFretNumber 57 = .ok (.iload_n 2, 1) := by decide +kernel
theorem dX5_isFretNumber_58 : decode cX5_isFretNumber 58 = .ok (.iconst 2, 1) := by decide +kernel
theorem dX5_isFretNumber_59 : decode cX5_isFretNumber 59 = .ok (.iadd, 1) := by decide +kernel
theorem dX5_isFretNumber_60 : decode cX5_isFretNumber 60 = .ok (.invokevirtual 81, 3) := by decide +kernel
theorem dX5_isFretNumber_63 : decode cX5_isFretNumber 63 = .ok (.invokestatic 110, 3) := by decide +kernel
theorem dX5_isFretNumber_66 : decode cX5_isFretNumber 66 = .ok (.ifCond .ne 31, 3) := by decide +kernel
theorem dX5_isFretNumber_69 : decode cX5_isFretNumber 69 = .ok (.aload_n 0, 1) := by decide +kernel
theorem dX5_isFretNumber_70 : decode cX5_isFretNumber 70 = .ok (.getfield 22, 3) := by decide +kernel
theorem dX5_isFretNumber_73 : decode cX5_isFretNumber 73 = .ok (.getfield 113, 3) := by decide +kernel
theorem dX5_isFretNumber_76 : decode cX5_isFretNumber 76 = .ok (.aload_n 0, 1) := by decide +kernel
theorem dX5_isFretNumber_77 : decode cX5_isFretNumber 77 = .ok (.iload_n 1, 1) := by decide +kernel
theorem dX5_isFretNumber_78 : decode cX5_isFretNumber 78 = .ok (.iload_n 2, 1) := by decide +kernel
theorem dX5_isFretNumber_79 : decode cX5_isFretNumber 79 = .ok (.invokevirtual 116, 3) := by decide +kernel
theorem dX5_isFretNumber_82 : decode cX5_isFretNumber 82 = .ok (.iadd, 1) := by decide +kernel
theorem dX5_isFretNumber_83 : decode cX5_isFretNumber 83 = .ok (.aload_n 0, 1) := by decide +kernel
theorem dX5_isFretNumber_84 : decode cX5_isFretNumber 84 = .ok (.getfield 22, 3) := by decide +kernel
theorem dX5_isFretNumber_87 : decode cX5_isFretNumber 87 = .ok (.getfield 119, 3) := by decide +kernel
theorem dX5_isFretNumber_90 : decode cX5_isFretNumber 90 = .ok (.if_icmp .gt 7, 3) := by decide +kernel
theorem dX5_isFretNumber_93 : decode cX5_isFretNumber 93 = .ok (.iconst 1, 1) := by decide +kernel
theorem dX5_isFretNumber_94 : decode cX5_isFretNumber 94 = .ok (.goto 4, 3) := by decide +kernel
theorem dX5_isFretNumber_97 : decode cX5_isFretNumber 97 = .ok (.iconst 0, 1) := by decide +kernel
theorem dX5_isFretNumber_98 : decode cX5_isFretNumber 98 = .ok (.ireturn, 1) := by decide +kernel
theorem dX5_shiftedNumber_0 : decode cX5_shiftedNumber 0 = .ok (.aload_n 0, 1) := by decide +kernel
theorem dX5_shiftedNumber_1 : decode cX5_shiftedNumber 1 = .ok (.getfield 22, 3) := by decide +kernel
theorem dX5_shiftedNumber_4 : decode cX5_shiftedNumber 4 = .ok (.getfield 69, 3) := by decide +kernel
theorem dX5_shiftedNumber_7 : decode cX5_shiftedNumber 7 = .ok (.iconst 1, 1) := by decide +kernel
theorem dX5_shiftedNumber_8 : decode cX5_shiftedNumber 8 = .ok (.isub, 1) := by decide +kernel
theorem dX5_shiftedNumber_9 : decode cX5_shiftedNumber 9 = .ok (.istore_n 1, 1) := by decide +kernel
theorem dX5_shiftedNumber_10 : decode cX5_shiftedNumber 10 = .ok (.iload_n 1, 1) := by decide +kernel
theorem dX5_shiftedNumber_11 : decode cX5_shiftedNumber 11 = .ok (.ifCond .lt 49, 3) := by decide +kernel
theorem dX5_shiftedNumber_14 : decode cX5_shiftedNumber 14 = .ok (.iconst 1, 1) := by decide +kernel
theorem dX5_shiftedNumber_15 : decode cX5_shiftedNumber 15 = .ok (.istore_n 2, 1) := by decide +kernel
theorem dX5_shiftedNumber_16 : decode cX5_shiftedNumber 16 = .ok (.iload_n 2, 1) := by decide +kernel
theorem dX5_shiftedNumber_17 : decode cX5_shiftedNumber 17 = .ok (.aload_n 0, 1) := by decide +kernel
theorem dX5_shiftedNumber_18 : decode cX5_shiftedNumber 18 = .ok (.getfield 9, 3) := by decide +kernel
theorem dX5_shiftedNumber_21 : decode cX5_shiftedNumber 21 = .ok (.if_icmp .ge 33, 3) := by decide +kernel
theorem dX5_shiftedNumber_24 : decode cX5_shiftedNumber 24 = .ok (.aload_n 0, 1) := by decide +kernel
theorem dX5_shiftedNumber_25 : decode cX5_shiftedNumber 25 = .ok (.iload_n 1, 1) := by decide +kernel
theorem dX5_shiftedNumber_26 : decode cX5_shiftedNumber 26 = .ok (.iload_n 2, 1) := by decide +kernel
theorem dX5_shiftedNumber_27 : decode cX5_shiftedNumber 27 = .ok (.invokevirtual 104, 3) := by decide +kernel
theorem dX5_shiftedNumber_30 : decode cX5_shiftedNumber 30 = .ok (.ifCond .eq 18, 3) := by decide +kernel
theorem dX5_shiftedNumber_33 : decode cX5_shiftedNumber 33 = .ok (.aload_n 0, 1) := by decide +kernel
theorem dX5_shiftedNumber_34 : decode cX5_shiftedNumber 34 = .ok (.iload_n 2, 1) := by decide +kernel
theorem dX5_shiftedNumber_35 : decode cX5_shiftedNumber 35 = .ok (.invokevirtual 122, 3) := by decide +kernel
theorem dX5_shiftedNumber_38 : decode cX5_shiftedNumber 38 = .ok (.ifCond .eq 10, 3) := by decide +kernel
theorem dX5_shiftedNumber_41 : decode cX5_shiftedNumber 41 = .ok (.aload_n 0, 1) := by decide +kernel
theorem dX5_shiftedNumber_42 : decode cX5_shiftedNumber 42 = .ok (.iload_n 1, 1) := by decide +kernel
theorem dX5_shiftedNumber_43 : decode cX5_shiftedNumber 43 = .ok (.iload_n 2, 1) := by decide +kernel
theorem dX5_shiftedNumber_44 : decode cX5_shiftedNumber 44 = .ok (.invokevirtual 88, 3) := by decide +kernel
theorem dX5_shiftedNumber_47 : decode cX5_shiftedNumber 47 = .ok (.ireturn, 1) := by decide +kernel
theorem dX5_shiftedNumber_48 : decode cX5_shiftedNumber 48 = .ok (.iinc 2 1, 3) := by decide +kernel
theorem dX5_shiftedNumber_51 : decode cX5_shiftedNumber 51 = .ok (.goto (-35), 3) := by decide +kernel
theorem dX5_shiftedNumber_54 : decode cX5_shiftedNumber 54 = .ok (.iinc 1 (-1), 3) := by decide +kernel
theorem dX5_shiftedNumber_57 : decode cX5_shiftedNumber 57 = .ok (.goto (-47), 3) := by decide +kernel
theorem dX5_shiftedNumber_60 : decode cX5_shiftedNumber 60 = .ok (.iconst (-1), 1) := by decide +kernel
theorem dX5_shiftedNumber_61 : decode cX5_shiftedNumber 61 = .ok (.ireturn, 1) := by decide +kernel
theorem dX5_hasSecondDigit_0 : decode cX5_hasSecondDigit 0 = .ok (.iconst 0, 1) := by decide +kernel
theorem dX5_hasSecondDigit_1 : decode cX5_hasSecondDigit 1 = .ok (.istore_n 2, 1) := by decide +kernel
theorem dX5_hasSecondDigit_2 : decode cX5_hasSecondDigit 2 = .ok (.iload_n 2, 1) := by decide +kernel
theorem dX5_hasSecondDigit_3 : decode cX5_hasSecondDigit 3 = .ok (.aload_n 0, 1) := by decide +kernel
theorem dX5_hasSecondDigit_4 : decode cX5_hasSecondDigit 4 = .ok (.getfield 22, 3) := by decide +kernel
theorem dX5_hasSecondDigit_7 : decode cX5_hasSecondDigit 7 = .ok (.getfield 69, 3) := by decide +kernel
theorem dX5_hasSecondDigit_10 : decode cX5_hasSecondDigit 10 = .ok (.if_icmp .ge 32, 3) := by decide +kernel
theorem dX5_hasSecondDigit_13 : decode cX5_hasSecondDigit 13 = .ok (.aload_n 0, 1) := by decide +kernel
theorem dX5_hasSecondDigit_14 : decode cX5_hasSecondDigit 14 = .ok (.iload_n 2, 1) := by decide +kernel
theorem dX5_hasSecondDigit_15 : decode cX5_hasSecondDigit 15 = .ok (.iload_n 1, 1) := by decide +kernel
theorem dX5_hasSecondDigit_16 : decode cX5_hasSecondDigit 16 = .ok (.invokevirtual 81, 3) := by decide +kernel
theorem dX5_hasSecondDigit_19 : decode cX5_hasSecondDigit 19 = .ok (.invokestatic 110, 3) := by decide +kernel
theorem dX5_hasSecondDigit_22 : decode cX5_hasSecondDigit 22 = .ok (.ifCond .eq 14, 3) := by decide +kernel
theorem dX5_hasSecondDigit_25 : decode cX5_hasSecondDigit 25 = .ok (.aload_n 0, 1) := by decide +kernel
theorem dX5_hasSecondDigit_26 : decode cX5_hasSecondDigit 26 = .ok (.iload_n 2, 1) := by decide +kernel
theorem dX5_hasSecondDigit_27 : decode cX5_hasSecondDigit 27 = .ok (.iload_n 1, 1) := by decide +kernel
theorem dX5_hasSecondDigit_28 : decode cX5_hasSecondDigit 28 = .ok (.invokevirtual 104, 3) := by decide +kernel
theorem dX5_hasSecondDigit_31 : decode cX5_hasSecondDigit 31 = .ok (.ifCond .ne 5, 3) := by decide +kernel
theorem dX5_hasSecondDigit_34 : decode cX5_hasSecondDigit 34 = .ok (.iconst 1, 1) := by decide +kernel
theorem dX5_hasSecondDigit_35 : decode cX5_hasSecondDigit 35 = .ok (.ireturn, 1) := by decide +kernel
theorem dX5_hasSecondDigit_36 : decode cX5_hasSecondDigit 36 = .ok (.iinc 2 1, 3) := by decide +kernel
theorem dX5_hasSecondDigit_39 : decode cX5_hasSecondDigit 39 = .ok (.goto (-37), 3) := by decide +kernel
theorem dX5_hasSecondDigit_42 : decode cX5_hasSecondDigit 42 = .ok (.iconst 0, 1) := by decide +kernel
theorem dX5_hasSecondDigit_43 : decode cX5_hasSecondDigit 43 = .ok (.ireturn, 1) := by decide +kernel
theorem dX5_wrongEvent_0 : decode cX5_wrongEvent 0 = .ok (.iconst (-1), 1) := by decide +kernel
theorem dX5_wrongEvent_1 : decode cX5_wrongEvent 1 = .ok (.istore_n 1, 1) := by decide +kernel
theorem dX5_wrongEvent_2 : decode cX5_wrongEvent 2 = .ok (.iconst 1, 1) := by decide +kernel
theorem dX5_wrongEvent_3 : decode cX5_wrongEvent 3 = .ok (.istore_n 2, 1) := by decide +kernel
theorem dX5_wrongEvent_4 : decode cX5_wrongEvent 4 = .ok (.iload_n 2, 1) := by decide +kernel
theorem dX5_wrongEvent_5 : decode cX5_wrongEvent 5 = .ok (.aload_n 0, 1) := by decide +kernel
theorem dX5_wrongEvent_6 : decode cX5_wrongEvent 6 = .ok (.getfield 9, 3) := by decide +kernel
theorem dX5_wrongEvent_9 : decode cX5_wrongEvent 9 = .ok (.if_icmp .ge 51, 3) := by decide +kernel
theorem dX5_wrongEvent_12 : decode cX5_wrongEvent 12 = .ok (.aload_n 0, 1) := by decide +kernel
theorem dX5_wrongEvent_13 : decode cX5_wrongEvent 13 = .ok (.iload_n 2, 1) := by decide +kernel
theorem dX5_wrongEvent_14 : decode cX5_wrongEvent 14 = .ok (.invokevirtual 55, 3) := by decide +kernel
theorem dX5_wrongEvent_17 : decode cX5_wrongEvent 17 = .ok (.aload_n 0, 1) := by decide +kernel
theorem dX5_wrongEvent_18 : decode cX5_wrongEvent 18 = .ok (.invokevirtual 125, 3) := by decide +kernel
theorem dX5_wrongEvent_21 : decode cX5_wrongEvent 21 = .ok (.iconst 4, 1) := by decide +kernel
theorem dX5_wrongEvent_22 : decode cX5_wrongEvent 22 = .ok (.if_icmp .gt 10, 3) := by decide +kernel
theorem dX5_wrongEvent_25 : decode cX5_wrongEvent 25 = .ok (.aload_n 0, 1) := by decide +kernel
theorem dX5_wrongEvent_26 : decode cX5_wrongEvent 26 = .ok (.invokevirtual 128, 3) := by decide +kernel
theorem dX5_wrongEvent_29 : decode cX5_wrongEvent 29 = .ok (.ifCond .eq 25, 3) := by decide +kernel
theorem dX5_wrongEvent_32 : decode cX5_wrongEvent 32 = .ok (.aload_n 0, 1) := by decide +kernel
theorem dX5_wrongEvent_33 : decode cX5_wrongEvent 33 = .ok (.aload_n 0, 1) := by decide +kernel
theorem dX5_wrongEvent_34 : decode cX5_wrongEvent 34 = .ok (.invokevirtual 59, 3) := by decide +kernel
theorem dX5_wrongEvent_37 : decode cX5_wrongEvent 37 = .ok (.iload_n 2, 1) := by decide +kernel
theorem dX5_wrongEvent_38 : decode cX5_wrongEvent 38 = .ok (.invokevirtual 88, 3) := by decide +kernel
theorem dX5_wrongEvent_41 : decode cX5_wrongEvent 41 = .ok (.istore_n 3, 1) := by decide +kernel
theorem dX5_wrongEvent_42 : decode cX5_wrongEvent 42 = .ok (.iload_n 1, 1) := by decide +kernel
theorem dX5_wrongEvent_43 : decode cX5_wrongEvent 43 = .ok (.iconst (-1), 1) := by decide +kernel
theorem dX5_wrongEvent_44 : decode cX5_wrongEvent 44 = .ok (.if_icmp .eq 8, 3) := by decide +kernel
theorem dX5_wrongEvent_47 : decode cX5_wrongEvent 47 = .ok (.iload_n 3, 1) := by decide +kernel
theorem dX5_wrongEvent_48 : decode cX5_wrongEvent 48 = .ok (.iload_n 1, 1) := by decide +kernel
theorem dX5_wrongEvent_49 : decode cX5_wrongEvent 49 = .ok (.if_icmp .ge 5, 3) := by decide +kernel
theorem dX5_wrongEvent_52 : decode cX5_wrongEvent 52 = .ok (.iload_n 3, 1) := by decide +kernel
theorem dX5_wrongEvent_53 : decode cX5_wrongEvent 53 = .ok (.istore_n 1, 1) := by decide +kernel
theorem dX5_wrongEvent_54 : decode cX5_wrongEvent 54 = .ok (.iinc 2 1, 3) := by decide +kernel
theorem dX5_wrongEvent_57 : decode cX5_wrongEvent 57 = .ok (.goto (-53), 3) := by decide +kernel
theorem dX5_wrongEvent_60 : decode cX5_wrongEvent 60 = .ok (.iload_n 1, 1) := by decide +kernel
theorem dX5_wrongEvent_61 : decode cX5_wrongEvent 61 = .ok (.ireturn, 1) := by decide +kernel
theorem dX5_surplusEvent_0 : decode cX5_surplusEvent 0 = .ok (.iconst 0, 1) := by decide +kernel
theorem dX5_surplusEvent_1 : decode cX5_surplusEvent 1 = .ok (.istore_n 1, 1) := by decide +kernel
theorem dX5_surplusEvent_2 : decode cX5_surplusEvent 2 = .ok (.iconst 1, 1) := by decide +kernel
theorem dX5_surplusEvent_3 : decode cX5_surplusEvent 3 = .ok (.istore_n 2, 1) := by decide +kernel
theorem dX5_surplusEvent_4 : decode cX5_surplusEvent 4 = .ok (.iload_n 2, 1) := by decide +kernel
theorem dX5_surplusEvent_5 : decode cX5_surplusEvent 5 = .ok (.aload_n 0, 1) := by decide +kernel
theorem dX5_surplusEvent_6 : decode cX5_surplusEvent 6 = .ok (.getfield 9, 3) := by decide +kernel
theorem dX5_surplusEvent_9 : decode cX5_surplusEvent 9 = .ok (.if_icmp .ge 41, 3) := by decide +kernel
theorem dX5_surplusEvent_12 : decode cX5_surplusEvent 12 = .ok (.aload_n 0, 1) := by decide +kernel
theorem dX5_surplusEvent_13 : decode cX5_surplusEvent 13 = .ok (.iload_n 2, 1) := by decide +kernel
theorem dX5_surplusEvent_14 : decode cX5_surplusEvent 14 = .ok (.invokevirtual 55, 3) := by decide +kernel
theorem dX5_surplusEvent_17 : decode cX5_surplusEvent 17 = .ok (.aload_n 0, 1) := by decide +kernel
theorem dX5_surplusEvent_18 : decode cX5_surplusEvent 18 = .ok (.invokevirtual 59, 3) := by decide +kernel
theorem dX5_surplusEvent_21 : decode cX5_surplusEvent 21 = .ok (.iconst (-1), 1) := by decide +kernel
theorem dX5_surplusEvent_22 : decode cX5_surplusEvent 22 = .ok (.if_icmp .eq 6, 3) := by decide +kernel
theorem dX5_surplusEvent_25 : decode cX5_surplusEvent 25 = .ok (.iinc 1 1, 3) := by decide +kernel
theorem dX5_surplusEvent_28 : decode cX5_surplusEvent 28 = .ok (.iload_n 1, 1) := by decide +kernel
theorem dX5_surplusEvent_29 : decode cX5_surplusEvent 29 = .ok (.bipush 40, 2) := by decide +kernel
theorem dX5_surplusEvent_31 : decode cX5_surplusEvent 31 = .ok (.if_icmp .le 13, 3) := by decide +kernel
theorem dX5_surplusEvent_34 : decode cX5_surplusEvent 34 = .ok (.aload_n 0, 1) := by decide +kernel
theorem dX5_surplusEvent_35 : decode cX5_surplusEvent 35 = .ok (.aload_n 0, 1) := by decide +kernel
theorem dX5_surplusEvent_36 : decode cX5_surplusEvent 36 = .ok (.invokevirtual 59, 3) := by decide +kernel
theorem dX5_surplusEvent_39 : decode cX5_surplusEvent 39 = .ok (.iload_n 2, 1) := by decide +kernel
theorem dX5_surplusEvent_40 : decode cX5_surplusEvent 40 = .ok (.invokevirtual 88, 3) := by decide +kernel
theorem dX5_surplusEvent_43 : decode cX5_surplusEvent 43 = .ok (.ireturn, 1) := by decide +kernel
theorem dX5_surplusEvent_44 : decode cX5_surplusEvent 44 = .ok (.iinc 2 1, 3) := by decide +kernel
theorem dX5_surplusEvent_47 : decode cX5_surplusEvent 47 = .ok (.goto (-43), 3) := by decide +kernel
theorem dX5_surplusEvent_50 : decode cX5_surplusEvent 50 = .ok (.iconst (-1), 1) := by decide +kernel
theorem dX5_surplusEvent_51 : decode cX5_surplusEvent 51 = .ok (.ireturn, 1) := by decide +kernel
theorem dX5_loadColumn_0 : decode cX5_loadColumn 0 = .ok (.iconst 0, 1) := by decide +kernel
theorem dX5_loadColumn_1 : decode cX5_loadColumn 1 = .ok (.istore_n 2, 1) := by decide +kernel
theorem dX5_loadColumn_2 : decode cX5_loadColumn 2 = .ok (.iload_n 2, 1) := by decide +kernel
theorem dX5_loadColumn_3 : decode cX5_loadColumn 3 = .ok (.aload_n 0, 1) := by decide +kernel
theorem dX5_loadColumn_4 : decode cX5_loadColumn 4 = .ok (.getfield 22, 3) := by decide +kernel
theorem dX5_loadColumn_7 : decode cX5_loadColumn 7 = .ok (.getfield 69, 3) := by decide +kernel
theorem dX5_loadColumn_10 : decode cX5_loadColumn 10 = .ok (.if_icmp .ge 45, 3) := by decide +kernel
theorem dX5_loadColumn_13 : decode cX5_loadColumn 13 = .ok (.aload_n 0, 1) := by decide +kernel
theorem dX5_loadColumn_14 : decode cX5_loadColumn 14 = .ok (.getfield 15, 3) := by decide +kernel
theorem dX5_loadColumn_17 : decode cX5_loadColumn 17 = .ok (.iload_n 2, 1) := by decide +kernel
theorem dX5_loadColumn_18 : decode cX5_loadColumn 18 = .ok (.iconst (-1), 1) := by decide +kernel
theorem dX5_loadColumn_19 : decode cX5_loadColumn 19 = .ok (.iastore, 1) := by decide +kernel
theorem dX5_loadColumn_20 : decode cX5_loadColumn 20 = .ok (.aload_n 0, 1) := by decide +kernel
theorem dX5_loadColumn_21 : decode cX5_loadColumn 21 = .ok (.iload_n 2, 1) := by decide +kernel
theorem dX5_loadColumn_22 : decode cX5_loadColumn 22 = .ok (.iload_n 1, 1) := by decide +kernel
theorem dX5_loadColumn_23 : decode cX5_loadColumn 23 = .ok (.invokevirtual 104, 3) := by decide +kernel
theorem dX5_loadColumn_26 : decode cX5_loadColumn 26 = .ok (.ifCond .eq 23, 3) := by decide +kernel
theorem dX5_loadColumn_29 : decode cX5_loadColumn 29 = .ok (.aload_n 0, 1) := by decide +kernel
theorem dX5_loadColumn_30 : decode cX5_loadColumn 30 = .ok (.getfield 15, 3) := by decide +kernel
theorem dX5_loadColumn_33 : decode cX5_loadColumn 33 = .ok (.iload_n 2, 1) := by decide +kernel
theorem dX5_loadColumn_34 : decode cX5_loadColumn 34 = .ok (.aload_n 0, 1) := by decide +kernel
theorem dX5_loadColumn_35 : decode cX5_loadColumn 35 = .ok (.getfield 22, 3) := by decide +kernel
