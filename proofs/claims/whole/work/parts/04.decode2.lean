theorem dX10_weight_6 : decode cX10_weight 6 = .ok (.ifCond .eq 13, 3) := by decide +kernel
theorem dX10_weight_9 : decode cX10_weight 9 = .ok (.iload_n 2, 1) := by decide +kernel
theorem dX10_weight_10 : decode cX10_weight 10 = .ok (.iconst 0, 1) := by decide +kernel
theorem dX10_weight_11 : decode cX10_weight 11 = .ok (.bipush 20, 2) := by decide +kernel
theorem dX10_weight_13 : decode cX10_weight 13 = .ok (.invokestatic 84, 3) := by decide +kernel
theorem dX10_weight_16 : decode cX10_weight 16 = .ok (.ifCond .ne 6, 3) := by decide +kernel
theorem dX10_weight_19 : decode cX10_weight 19 = .ok (.bipush (-2), 2) := by decide +kernel
theorem dX10_weight_21 : decode cX10_weight 21 = .ok (.ireturn, 1) := by decide +kernel
theorem dX10_weight_22 : decode cX10_weight 22 = .ok (.aload_n 0, 1) := by decide +kernel
theorem dX10_weight_23 : decode cX10_weight 23 = .ok (.getfield 17, 3) := by decide +kernel
theorem dX10_weight_26 : decode cX10_weight 26 = .ok (.iload_n 1, 1) := by decide +kernel
theorem dX10_weight_27 : decode cX10_weight 27 = .ok (.iaload, 1) := by decide +kernel
theorem dX10_weight_28 : decode cX10_weight 28 = .ok (.istore_n 3, 1) := by decide +kernel
theorem dX10_weight_29 : decode cX10_weight 29 = .ok (.aload_n 0, 1) := by decide +kernel
theorem dX10_weight_30 : decode cX10_weight 30 = .ok (.getfield 17, 3) := by decide +kernel
theorem dX10_weight_33 : decode cX10_weight 33 = .ok (.iload_n 1, 1) := by decide +kernel
theorem dX10_weight_34 : decode cX10_weight 34 = .ok (.iload_n 2, 1) := by decide +kernel
theorem dX10_weight_35 : decode cX10_weight 35 = .ok (.iastore, 1) := by decide +kernel
theorem dX10_weight_36 : decode cX10_weight 36 = .ok (.aload_n 0, 1) := by decide +kernel
theorem dX10_weight_37 : decode cX10_weight 37 = .ok (.iconst 0, 1) := by decide +kernel
theorem dX10_weight_38 : decode cX10_weight 38 = .ok (.putfield 88, 3) := by decide +kernel
theorem dX10_weight_41 : decode cX10_weight 41 = .ok (.iload_n 3, 1) := by decide +kernel
theorem dX10_weight_42 : decode cX10_weight 42 = .ok (.ireturn, 1) := by decide +kernel
theorem dX10_event_0 : decode cX10_event 0 = .ok (.iload_n 1, 1) := by decide +kernel
theorem dX10_event_1 : decode cX10_event 1 = .ok (.iconst 0, 1) := by decide +kernel
theorem dX10_event_2 : decode cX10_event 2 = .ok (.bipush 123, 2) := by decide +kernel
theorem dX10_event_4 : decode cX10_event 4 = .ok (.invokestatic 84, 3) := by decide +kernel
theorem dX10_event_7 : decode cX10_event 7 = .ok (.ifCond .ne 6, 3) := by decide +kernel
theorem dX10_event_10 : decode cX10_event 10 = .ok (.bipush (-2), 2) := by decide +kernel
theorem dX10_event_12 : decode cX10_event 12 = .ok (.ireturn, 1) := by decide +kernel
theorem dX10_event_13 : decode cX10_event 13 = .ok (.aload_n 0, 1) := by decide +kernel
theorem dX10_event_14 : decode cX10_event 14 = .ok (.getfield 81, 3) := by decide +kernel
theorem dX10_event_17 : decode cX10_event 17 = .ok (.bipush 40, 2) := by decide +kernel
theorem dX10_event_19 : decode cX10_event 19 = .ok (.if_icmp .ne 6, 3) := by decide +kernel
theorem dX10_event_22 : decode cX10_event 22 = .ok (.bipush (-5), 2) := by decide +kernel
theorem dX10_event_24 : decode cX10_event 24 = .ok (.ireturn, 1) := by decide +kernel
theorem dX10_event_25 : decode cX10_event 25 = .ok (.aload_n 0, 1) := by decide +kernel
theorem dX10_event_26 : decode cX10_event 26 = .ok (.getfield 20, 3) := by decide +kernel
theorem dX10_event_29 : decode cX10_event 29 = .ok (.aload_n 0, 1) := by decide +kernel
theorem dX10_event_30 : decode cX10_event 30 = .ok (.getfield 81, 3) := by decide +kernel
theorem dX10_event_33 : decode cX10_event 33 = .ok (.iconst 1, 1) := by decide +kernel
theorem dX10_event_34 : decode cX10_event 34 = .ok (.iastore, 1) := by decide +kernel
theorem dX10_event_35 : decode cX10_event 35 = .ok (.aload_n 0, 1) := by decide +kernel
theorem dX10_event_36 : decode cX10_event 36 = .ok (.getfield 23, 3) := by decide +kernel
theorem dX10_event_39 : decode cX10_event 39 = .ok (.iconst 4, 1) := by decide +kernel
theorem dX10_event_40 : decode cX10_event 40 = .ok (.aload_n 0, 1) := by decide +kernel
theorem dX10_event_41 : decode cX10_event 41 = .ok (.getfield 81, 3) := by decide +kernel
theorem dX10_event_44 : decode cX10_event 44 = .ok (.imul, 1) := by decide +kernel
theorem dX10_event_45 : decode cX10_event 45 = .ok (.iload_n 1, 1) := by decide +kernel
theorem dX10_event_46 : decode cX10_event 46 = .ok (.iastore, 1) := by decide +kernel
theorem dX10_event_47 : decode cX10_event 47 = .ok (.aload_n 0, 1) := by decide +kernel
theorem dX10_event_48 : decode cX10_event 48 = .ok (.getfield 26, 3) := by decide +kernel
theorem dX10_event_51 : decode cX10_event 51 = .ok (.iconst 4, 1) := by decide +kernel
theorem dX10_event_52 : decode cX10_event 52 = .ok (.aload_n 0, 1) := by decide +kernel
theorem dX10_event_53 : decode cX10_event 53 = .ok (.getfield 81, 3) := by decide +kernel
theorem dX10_event_56 : decode cX10_event 56 = .ok (.imul, 1) := by decide +kernel
theorem dX10_event_57 : decode cX10_event 57 = .ok (.iconst (-1), 1) := by decide +kernel
theorem dX10_event_58 : decode cX10_event 58 = .ok (.iastore, 1) := by decide +kernel
theorem dX10_event_59 : decode cX10_event 59 = .ok (.aload_n 0, 1) := by decide +kernel
theorem dX10_event_60 : decode cX10_event 60 = .ok (.dup, 1) := by decide +kernel
theorem dX10_event_61 : decode cX10_event 61 = .ok (.getfield 81, 3) := by decide +kernel
theorem dX10_event_64 : decode cX10_event 64 = .ok (.iconst 1, 1) := by decide +kernel
theorem dX10_event_65 : decode cX10_event 65 = .ok (.iadd, 1) := by decide +kernel
theorem dX10_event_66 : decode cX10_event 66 = .ok (.putfield 81, 3) := by decide +kernel
theorem dX10_event_69 : decode cX10_event 69 = .ok (.aload_n 0, 1) := by decide +kernel
theorem dX10_event_70 : decode cX10_event 70 = .ok (.iconst 0, 1) := by decide +kernel
theorem dX10_event_71 : decode cX10_event 71 = .ok (.putfield 88, 3) := by decide +kernel
theorem dX10_event_74 : decode cX10_event 74 = .ok (.aload_n 0, 1) := by decide +kernel
theorem dX10_event_75 : decode cX10_event 75 = .ok (.getfield 81, 3) := by decide +kernel
theorem dX10_event_78 : decode cX10_event 78 = .ok (.iconst 1, 1) := by decide +kernel
theorem dX10_event_79 : decode cX10_event 79 = .ok (.isub, 1) := by decide +kernel
theorem dX10_event_80 : decode cX10_event 80 = .ok (.ireturn, 1) := by decide +kernel
theorem dX10_hasPitch_0 : decode cX10_hasPitch 0 = .ok (.iconst 0, 1) := by decide +kernel
theorem dX10_hasPitch_1 : decode cX10_hasPitch 1 = .ok (.istore_n 3, 1) := by decide +kernel
theorem dX10_hasPitch_2 : decode cX10_hasPitch 2 = .ok (.iconst 0, 1) := by decide +kernel
theorem dX10_hasPitch_3 : decode cX10_hasPitch 3 = .ok (.istore 4, 2) := by decide +kernel
theorem dX10_hasPitch_5 : decode cX10_hasPitch 5 = .ok (.iload 4, 2) := by decide +kernel
theorem dX10_hasPitch_7 : decode cX10_hasPitch 7 = .ok (.aload_n 0, 1) := by decide +kernel
theorem dX10_hasPitch_8 : decode cX10_hasPitch 8 = .ok (.getfield 20, 3) := by decide +kernel
theorem dX10_hasPitch_11 : decode cX10_hasPitch 11 = .ok (.iload_n 1, 1) := by decide +kernel
theorem dX10_hasPitch_12 : decode cX10_hasPitch 12 = .ok (.iaload, 1) := by decide +kernel
theorem dX10_hasPitch_13 : decode cX10_hasPitch 13 = .ok (.if_icmp .ge 34, 3) := by decide +kernel
theorem dX10_hasPitch_16 : decode cX10_hasPitch 16 = .ok (.iload_n 3, 1) := by decide +kernel
theorem dX10_hasPitch_17 : decode cX10_hasPitch 17 = .ok (.ifCond .ne 18, 3) := by decide +kernel
theorem dX10_hasPitch_20 : decode cX10_hasPitch 20 = .ok (.aload_n 0, 1) := by decide +kernel
theorem dX10_hasPitch_21 : decode cX10_hasPitch 21 = .ok (.getfield 23, 3) := by decide +kernel
theorem dX10_hasPitch_24 : decode cX10_hasPitch 24 = .ok (.iconst 4, 1) := by decide +kernel
theorem dX10_hasPitch_25 : decode cX10_hasPitch 25 = .ok (.iload_n 1, 1) := by decide +kernel
theorem dX10_hasPitch_26 : decode cX10_hasPitch 26 = .ok (.imul, 1) := by decide +kernel
theorem dX10_hasPitch_27 : decode cX10_hasPitch 27 = .ok (.iload 4, 2) := by decide +kernel
theorem dX10_hasPitch_29 : decode cX10_hasPitch 29 = .ok (.iadd, 1) := by decide +kernel
theorem dX10_hasPitch_30 : decode cX10_hasPitch 30 = .ok (.iaload, 1) := by decide +kernel
theorem dX10_hasPitch_31 : decode cX10_hasPitch 31 = .ok (.iload_n 2, 1) := by decide +kernel
theorem dX10_hasPitch_32 : decode cX10_hasPitch 32 = .ok (.if_icmp .ne 7, 3) := by decide +kernel
theorem dX10_hasPitch_35 : decode cX10_hasPitch 35 = .ok (.iconst 1, 1) := by decide +kernel
theorem dX10_hasPitch_36 : decode cX10_hasPitch 36 = .ok (.goto 4, 3) := by decide +kernel
theorem dX10_hasPitch_39 : decode cX10_hasPitch 39 = .ok (.iconst 0, 1) := by decide +kernel
theorem dX10_hasPitch_40 : decode cX10_hasPitch 40 = .ok (.istore_n 3, 1) := by decide +kernel
theorem dX10_hasPitch_41 : decode cX10_hasPitch 41 = .ok (.iinc 4 1, 3) := by decide +kernel
theorem dX10_hasPitch_44 : decode cX10_hasPitch 44 = .ok (.goto (-39), 3) := by decide +kernel
theorem dX10_hasPitch_47 : decode cX10_hasPitch 47 = .ok (.iload_n 3, 1) := by decide +kernel
theorem dX10_hasPitch_48 : decode cX10_hasPitch 48 = .ok (.ireturn, 1) := by decide +kernel
theorem dX10_pitch_0 : decode cX10_pitch 0 = .ok (.aload_n 0, 1) := by decide +kernel
theorem dX10_pitch_1 : decode cX10_pitch 1 = .ok (.getfield 81, 3) := by decide +kernel
theorem dX10_pitch_4 : decode cX10_pitch 4 = .ok (.iconst 1, 1) := by decide +kernel
theorem dX10_pitch_5 : decode cX10_pitch 5 = .ok (.isub, 1) := by decide +kernel
theorem dX10_pitch_6 : decode cX10_pitch 6 = .ok (.istore_n 2, 1) := by decide +kernel
theorem dX10_pitch_7 : decode cX10_pitch 7 = .ok (.iload_n 1, 1) := by decide +kernel
theorem dX10_pitch_8 : decode cX10_pitch 8 = .ok (.iconst 0, 1) := by decide +kernel
theorem dX10_pitch_9 : decode cX10_pitch 9 = .ok (.bipush 123, 2) := by decide +kernel
theorem dX10_pitch_11 : decode cX10_pitch 11 = .ok (.invokestatic 84, 3) := by decide +kernel
theorem dX10_pitch_14 : decode cX10_pitch 14 = .ok (.ifCond .eq 16, 3) := by decide +kernel
theorem dX10_pitch_17 : decode cX10_pitch 17 = .ok (.iload_n 2, 1) := by decide +kernel
theorem dX10_pitch_18 : decode cX10_pitch 18 = .ok (.ifCond .lt 15, 3) := by decide +kernel
theorem dX10_pitch_21 : decode cX10_pitch 21 = .ok (.aload_n 0, 1) := by decide +kernel
theorem dX10_pitch_22 : decode cX10_pitch 22 = .ok (.iload_n 2, 1) := by decide +kernel
theorem dX10_pitch_23 : decode cX10_pitch 23 = .ok (.iload_n 1, 1) := by decide +kernel
theorem dX10_pitch_24 : decode cX10_pitch 24 = .ok (.invokevirtual 95, 3) := by decide +kernel
theorem dX10_pitch_27 : decode cX10_pitch 27 = .ok (.ifCond .eq 6, 3) := by decide +kernel
theorem dX10_pitch_30 : decode cX10_pitch 30 = .ok (.bipush (-2), 2) := by decide +kernel
theorem dX10_pitch_32 : decode cX10_pitch 32 = .ok (.ireturn, 1) := by decide +kernel
theorem dX10_pitch_33 : decode cX10_pitch 33 = .ok (.iload_n 2, 1) := by decide +kernel
theorem dX10_pitch_34 : decode cX10_pitch 34 = .ok (.ifCond .ge 6, 3) := by decide +kernel
theorem dX10_pitch_37 : decode cX10_pitch 37 = .ok (.bipush (-4), 2) := by decide +kernel
theorem dX10_pitch_39 : decode cX10_pitch 39 = .ok (.ireturn, 1) := by decide +kernel
theorem dX10_pitch_40 : decode cX10_pitch 40 = .ok (.aload_n 0, 1) := by decide +kernel
theorem dX10_pitch_41 : decode cX10_pitch 41 = .ok (.getfield 20, 3) := by decide +kernel
theorem dX10_pitch_44 : decode cX10_pitch 44 = .ok (.iload_n 2, 1) := by decide +kernel
theorem dX10_pitch_45 : decode cX10_pitch 45 = .ok (.iaload, 1) := by decide +kernel
theorem dX10_pitch_46 : decode cX10_pitch 46 = .ok (.iconst 4, 1) := by decide +kernel
theorem dX10_pitch_47 : decode cX10_pitch 47 = .ok (.if_icmp .ne 6, 3) := by decide +kernel
theorem dX10_pitch_50 : decode cX10_pitch 50 = .ok (.bipush (-5), 2) := by decide +kernel
theorem dX10_pitch_52 : decode cX10_pitch 52 = .ok (.ireturn, 1) := by decide +kernel
theorem dX10_pitch_53 : decode cX10_pitch 53 = .ok (.aload_n 0, 1) := by decide +kernel
theorem dX10_pitch_54 : decode cX10_pitch 54 = .ok (.getfield 23, 3) := by decide +kernel
theorem dX10_pitch_57 : decode cX10_pitch 57 = .ok (.iconst 4, 1) := by decide +kernel
theorem dX10_pitch_58 : decode cX10_pitch 58 = .ok (.iload_n 2, 1) := by decide +kernel
theorem dX10_pitch_59 : decode cX10_pitch 59 = .ok (.imul, 1) := by decide +kernel
theorem dX10_pitch_60 : decode cX10_pitch 60 = .ok (.aload_n 0, 1) := by decide +kernel
theorem dX10_pitch_61 : decode cX10_pitch 61 = .ok (.getfield 20, 3) := by decide +kernel
theorem dX10_pitch_64 : decode cX10_pitch 64 = .ok (.iload_n 2, 1) := by decide +kernel
theorem dX10_pitch_65 : decode cX10_pitch 65 = .ok (.iaload, 1) := by decide +kernel
theorem dX10_pitch_66 : decode cX10_pitch 66 = .ok (.iadd, 1) := by decide +kernel
theorem dX10_pitch_67 : decode cX10_pitch 67 = .ok (.iload_n 1, 1) := by decide +kernel
theorem dX10_pitch_68 : decode cX10_pitch 68 = .ok (.iastore, 1) := by decide +kernel
theorem dX10_pitch_69 : decode cX10_pitch 69 = .ok (.aload_n 0, 1) := by decide +kernel
theorem dX10_pitch_70 : decode cX10_pitch 70 = .ok (.getfield 26, 3) := by decide +kernel
theorem dX10_pitch_73 : decode cX10_pitch 73 = .ok (.iconst 4, 1) := by decide +kernel
theorem dX10_pitch_74 : decode cX10_pitch 74 = .ok (.iload_n 2, 1) := by decide +kernel
theorem dX10_pitch_75 : decode cX10_pitch 75 = .ok (.imul, 1) := by decide +kernel
theorem dX10_pitch_76 : decode cX10_pitch 76 = .ok (.aload_n 0, 1) := by decide +kernel
theorem dX10_pitch_77 : decode cX10_pitch 77 = .ok (.getfield 20, 3) := by decide +kernel
theorem dX10_pitch_80 : decode cX10_pitch 80 = .ok (.iload_n 2, 1) := by decide +kernel
theorem dX10_pitch_81 : decode cX10_pitch 81 = .ok (.iaload, 1) := by decide +kernel
theorem dX10_pitch_82 : decode cX10_pitch 82 = .ok (.iadd, 1) := by decide +kernel
theorem dX10_pitch_83 : decode cX10_pitch 83 = .ok (.iconst (-1), 1) := by decide +kernel
theorem dX10_pitch_84 : decode cX10_pitch 84 = .ok (.iastore, 1) := by decide +kernel
theorem dX10_pitch_85 : decode cX10_pitch 85 = .ok (.aload_n 0, 1) := by decide +kernel
theorem dX10_pitch_86 : decode cX10_pitch 86 = .ok (.getfield 20, 3) := by decide +kernel
theorem dX10_pitch_89 : decode cX10_pitch 89 = .ok (.iload_n 2, 1) := by decide +kernel
theorem dX10_pitch_90 : decode cX10_pitch 90 = .ok (.dup2, 1) := by decide +kernel
theorem dX10_pitch_91 : decode cX10_pitch 91 = .ok (.iaload, 1) := by decide +kernel
theorem dX10_pitch_92 : decode cX10_pitch 92 = .ok (.iconst 1, 1) := by decide +kernel
theorem dX10_pitch_93 : decode cX10_pitch 93 = .ok (.iadd, 1) := by decide +kernel
theorem dX10_pitch_94 : decode cX10_pitch 94 = .ok (.iastore, 1) := by decide +kernel
theorem dX10_pitch_95 : decode cX10_pitch 95 = .ok (.aload_n 0, 1) := by decide +kernel
theorem dX10_pitch_96 : decode cX10_pitch 96 = .ok (.iconst 0, 1) := by decide +kernel
theorem dX10_pitch_97 : decode cX10_pitch 97 = .ok (.putfield 88, 3) := by decide +kernel
theorem dX10_pitch_100 : decode cX10_pitch 100 = .ok (.aload_n 0, 1) := by decide +kernel
theorem dX10_pitch_101 : decode cX10_pitch 101 = .ok (.getfield 20, 3) := by decide +kernel
theorem dX10_pitch_104 : decode cX10_pitch 104 = .ok (.iload_n 2, 1) := by decide +kernel
theorem dX10_pitch_105 : decode cX10_pitch 105 = .ok (.iaload, 1) := by decide +kernel
theorem dX10_pitch_106 : decode cX10_pitch 106 = .ok (.ireturn, 1) := by decide +kernel
theorem dX10_bind_0 : decode cX10_bind 0 = .ok (.aload_n 0, 1) := by decide +kernel
theorem dX10_bind_1 : decode cX10_bind 1 = .ok (.iload_n 1, 1) := by decide +kernel
theorem dX10_bind_2 : decode cX10_bind 2 = .ok (.invokevirtual 99, 3) := by decide +kernel
theorem dX10_bind_5 : decode cX10_bind 5 = .ok (.ifCond .ne 6, 3) := by decide +kernel
theorem dX10_bind_8 : decode cX10_bind 8 = .ok (.bipush (-3), 2) := by decide +kernel
theorem dX10_bind_10 : decode cX10_bind 10 = .ok (.ireturn, 1) := by decide +kernel
theorem dX10_bind_11 : decode cX10_bind 11 = .ok (.iload_n 2, 1) := by decide +kernel
theorem dX10_bind_12 : decode cX10_bind 12 = .ok (.iconst 0, 1) := by decide +kernel
theorem dX10_bind_13 : decode cX10_bind 13 = .ok (.aload_n 0, 1) := by decide +kernel
theorem dX10_bind_14 : decode cX10_bind 14 = .ok (.getfield 20, 3) := by decide +kernel
theorem dX10_bind_17 : decode cX10_bind 17 = .ok (.iload_n 1, 1) := by decide +kernel
theorem dX10_bind_18 : decode cX10_bind 18 = .ok (.iaload, 1) := by decide +kernel
theorem dX10_bind_19 : decode cX10_bind 19 = .ok (.iconst 1, 1) := by decide +kernel
theorem dX10_bind_20 : decode cX10_bind 20 = .ok (.isub, 1) := by decide +kernel
theorem dX10_bind_21 : decode cX10_bind 21 = .ok (.invokestatic 84, 3) := by decide +kernel
theorem dX10_bind_24 : decode cX10_bind 24 = .ok (.ifCond .eq 16, 3) := by decide +kernel
theorem dX10_bind_27 : decode cX10_bind 27 = .ok (.iload_n 3, 1) := by decide +kernel
theorem dX10_bind_28 : decode cX10_bind 28 = .ok (.iconst (-1), 1) := by decide +kernel
theorem dX10_bind_29 : decode cX10_bind 29 = .ok (.if_icmp .eq 14, 3) := by decide +kernel
theorem dX10_bind_32 : decode cX10_bind 32 = .ok (.aload_n 0, 1) := by decide +kernel
theorem dX10_bind_33 : decode cX10_bind 33 = .ok (.iload_n 3, 1) := by decide +kernel
theorem dX10_bind_34 : decode cX10_bind 34 = .ok (.invokevirtual 103, 3) := by decide +kernel
theorem dX10_bind_37 : decode cX10_bind 37 = .ok (.ifCond .ne 6, 3) := by decide +kernel
theorem dX10_bind_40 : decode cX10_bind 40 = .ok (.bipush (-2), 2) := by decide +kernel
theorem dX10_bind_42 : decode cX10_bind 42 = .ok (.ireturn, 1) := by decide +kernel
theorem dX10_bind_43 : decode cX10_bind 43 = .ok (.aload_n 0, 1) := by decide +kernel
theorem dX10_bind_44 : decode cX10_bind 44 = .ok (.getfield 26, 3) := by decide +kernel
theorem dX10_bind_47 : decode cX10_bind 47 = .ok (.iconst 4, 1) := by decide +kernel
theorem dX10_bind_48 : decode cX10_bind 48 = .ok (.iload_n 1, 1) := by decide +kernel
theorem dX10_bind_49 : decode cX10_bind 49 = .ok (.imul, 1) := by decide +kernel
theorem dX10_bind_50 : decode cX10_bind 50 = .ok (.iload_n 2, 1) := by decide +kernel
theorem dX10_bind_51 : decode cX10_bind 51 = .ok (.iadd, 1) := by decide +kernel
theorem dX10_bind_52 : decode cX10_bind 52 = .ok (.iaload, 1) := by decide +kernel
theorem dX10_bind_53 : decode cX10_bind 53 = .ok (.istore 4, 2) := by decide +kernel
theorem dX10_bind_55 : decode cX10_bind 55 = .ok (.aload_n 0, 1) := by decide +kernel
theorem dX10_bind_56 : decode cX10_bind 56 = .ok (.getfield 26, 3) := by decide +kernel
theorem dX10_bind_59 : decode cX10_bind 59 = .ok (.iconst 4, 1) := by decide +kernel
theorem dX10_bind_60 : decode cX10_bind 60 = .ok (.iload_n 1, 1) := by decide +kernel
theorem dX10_bind_61 : decode cX10_bind 61 = .ok (.imul, 1) := by decide +kernel
theorem dX10_bind_62 : decode cX10_bind 62 = .ok (.iload_n 2, 1) := by decide +kernel
theorem dX10_bind_63 : decode cX10_bind 63 = .ok (.iadd, 1) := by decide +kernel
theorem dX10_bind_64 : decode cX10_bind 64 = .ok (.iload_n 3, 1) := by decide +kernel
theorem dX10_bind_65 : decode cX10_bind 65 = .ok (.iastore, 1) := by decide +kernel
theorem dX10_bind_66 : decode cX10_bind 66 = .ok (.aload_n 0, 1) := by decide +kernel
theorem dX10_bind_67 : decode cX10_bind 67 = .ok (.iconst 0, 1) := by decide +kernel
theorem dX10_bind_68 : decode cX10_bind 68 = .ok (.putfield 88, 3) := by decide +kernel
theorem dX10_bind_71 : decode cX10_bind 71 = .ok (.iload 4, 2) := by decide +kernel
theorem dX10_bind_73 : decode cX10_bind 73 = .ok (.ireturn, 1) := by decide +kernel
theorem dX10_drop_0 : decode cX10_drop 0 = .ok (.aload_n 0, 1) := by decide +kernel
theorem dX10_drop_1 : decode cX10_drop 1 = .ok (.getfield 81, 3) := by decide +kernel
theorem dX10_drop_4 : decode cX10_drop 4 = .ok (.ifCond .ne 6, 3) := by decide +kernel
theorem dX10_drop_7 : decode cX10_drop 7 = .ok (.bipush (-4), 2) := by decide +kernel
theorem dX10_drop_9 : decode cX10_drop 9 = .ok (.ireturn, 1) := by decide +kernel
theorem dX10_drop_10 : decode cX10_drop 10 = .ok (.aload_n 0, 1) := by decide +kernel
theorem dX10_drop_11 : decode cX10_drop 11 = .ok (.dup, 1) := by decide +kernel
theorem dX10_drop_12 : decode cX10_drop 12 = .ok (.getfield 81, 3) := by decide +kernel
theorem dX10_drop_15 : decode cX10_drop 15 = .ok (.iconst 1, 1) := by decide +kernel
theorem dX10_drop_16 : decode cX10_drop 16 = .ok (.isub, 1) := by decide +kernel
theorem dX10_drop_17 : decode cX10_drop 17 = .ok (.putfield 81, 3) := by decide +kernel
theorem dX10_drop_20 : decode cX10_drop 20 = .ok (.aload_n 0, 1) := by decide +kernel
theorem dX10_drop_21 : decode cX10_drop 21 = .ok (.iconst 0, 1) := by decide +kernel
theorem dX10_drop_22 : decode cX10_drop 22 = .ok (.putfield 88, 3) := by decide +kernel
theorem dX10_drop_25 : decode cX10_drop 25 = .ok (.aload_n 0, 1) := by decide +kernel
theorem dX10_drop_26 : decode cX10_drop 26 = .ok (.getfield 81, 3) := by decide +kernel
theorem dX10_drop_29 : decode cX10_drop 29 = .ok (.ireturn, 1) := by decide +kernel
theorem dX10_told_0 : decode cX10_told 0 = .ok (.iload_n 1, 1) := by decide +kernel
theorem dX10_told_1 : decode cX10_told 1 = .ok (.ifCond .ne 10, 3) := by decide +kernel
theorem dX10_told_4 : decode cX10_told 4 = .ok (.aload_n 0, 1) := by decide +kernel
theorem dX10_told_5 : decode cX10_told 5 = .ok (.getfield 78, 3) := by decide +kernel
theorem dX10_told_8 : decode cX10_told 8 = .ok (.goto 53, 3) := by decide +kernel
theorem dX10_told_11 : decode cX10_told 11 = .ok (.iload_n 1, 1) := by decide +kernel
theorem dX10_told_12 : decode cX10_told 12 = .ok (.iconst 1, 1) := by decide +kernel
theorem dX10_told_13 : decode cX10_told 13 = .ok (.if_icmp .ne 10, 3) := by decide +kernel
theorem dX10_told_16 : decode cX10_told 16 = .ok (.aload_n 0, 1) := by decide +kernel
theorem dX10_told_17 : decode cX10_told 17 = .ok (.getfield 13, 3) := by decide +kernel
theorem dX10_told_20 : decode cX10_told 20 = .ok (.goto 41, 3) := by decide +kernel
theorem dX10_told_23 : decode cX10_told 23 = .ok (.iload_n 1, 1) := by decide +kernel
theorem dX10_told_24 : decode cX10_told 24 = .ok (.iconst 2, 1) := by decide +kernel
theorem dX10_told_25 : decode cX10_told 25 = .ok (.if_icmp .ne 10, 3) := by decide +kernel
theorem dX10_told_28 : decode cX10_told 28 = .ok (.aload_n 0, 1) := by decide +kernel
theorem dX10_told_29 : decode cX10_told 29 = .ok (.getfield 92, 3) := by decide +kernel
theorem dX10_told_32 : decode cX10_told 32 = .ok (.goto 29, 3) := by decide +kernel
theorem dX10_told_35 : decode cX10_told 35 = .ok (.iload_n 1, 1) := by decide +kernel
theorem dX10_told_36 : decode cX10_told 36 = .ok (.iconst 3, 1) := by decide +kernel
theorem dX10_told_37 : decode cX10_told 37 = .ok (.if_icmp .ne 10, 3) := by decide +kernel
theorem dX10_told_40 : decode cX10_told 40 = .ok (.aload_n 0, 1) := by decide +kernel
theorem dX10_told_41 : decode cX10_told 41 = .ok (.getfield 81, 3) := by decide +kernel
theorem dX10_told_44 : decode cX10_told 44 = .ok (.goto 17, 3) := by decide +kernel
theorem dX10_told_47 : decode cX10_told 47 = .ok (.iload_n 1, 1) := by decide +kernel
theorem dX10_told_48 : decode cX10_told 48 = .ok (.iconst 4, 1) := by decide +kernel
theorem dX10_told_49 : decode cX10_told 49 = .ok (.if_icmp .ne 10, 3) := by decide +kernel
theorem dX10_told_52 : decode cX10_told 52 = .ok (.aload_n 0, 1) := by decide +kernel
theorem dX10_told_53 : decode cX10_told 53 = .ok (.getfield 106, 3) := by decide +kernel
theorem dX10_told_56 : decode cX10_told 56 = .ok (.goto 5, 3) := by decide +kernel
theorem dX10_told_59 : decode cX10_told 59 = .ok (.bipush (-2), 2) := by decide +kernel
theorem dX10_told_61 : decode cX10_told 61 = .ok (.ireturn, 1) := by decide +kernel
theorem dX10_at_0 : decode cX10_at 0 = .ok (.aload_n 0, 1) := by decide +kernel
theorem dX10_at_1 : decode cX10_at 1 = .ok (.iload_n 1, 1) := by decide +kernel
theorem dX10_at_2 : decode cX10_at 2 = .ok (.invokevirtual 99, 3) := by decide +kernel
theorem dX10_at_5 : decode cX10_at 5 = .ok (.ifCond .ne 6, 3) := by decide +kernel
theorem dX10_at_8 : decode cX10_at 8 = .ok (.bipush (-3), 2) := by decide +kernel
theorem dX10_at_10 : decode cX10_at 10 = .ok (.ireturn, 1) := by decide +kernel
theorem dX10_at_11 : decode cX10_at 11 = .ok (.iload_n 2, 1) := by decide +kernel
theorem dX10_at_12 : decode cX10_at 12 = .ok (.iconst 0, 1) := by decide +kernel
theorem dX10_at_13 : decode cX10_at 13 = .ok (.aload_n 0, 1) := by decide +kernel
theorem dX10_at_14 : decode cX10_at 14 = .ok (.getfield 20, 3) := by decide +kernel
theorem dX10_at_17 : decode cX10_at 17 = .ok (.iload_n 1, 1) := by decide +kernel
theorem dX10_at_18 : decode cX10_at 18 = .ok (.iaload, 1) := by decide +kernel
theorem dX10_at_19 : decode cX10_at 19 = .ok (.iconst 1, 1) := by decide +kernel
theorem dX10_at_20 : decode cX10_at 20 = .ok (.isub, 1) := by decide +kernel
theorem dX10_at_21 : decode cX10_at 21 = .ok (.invokestatic 84, 3) := by decide +kernel
theorem dX10_at_24 : decode cX10_at 24 = .ok (.ifCond .eq 16, 3) := by decide +kernel
theorem dX10_at_27 : decode cX10_at 27 = .ok (.aload_n 0, 1) := by decide +kernel
theorem dX10_at_28 : decode cX10_at 28 = .ok (.getfield 23, 3) := by decide +kernel
theorem dX10_at_31 : decode cX10_at 31 = .ok (.iconst 4, 1) := by decide +kernel
theorem dX10_at_32 : decode cX10_at 32 = .ok (.iload_n 1, 1) := by decide +kernel
theorem dX10_at_33 : decode cX10_at 33 = .ok (.imul, 1) := by decide +kernel
theorem dX10_at_34 : decode cX10_at 34 = .ok (.iload_n 2, 1) := by decide +kernel
theorem dX10_at_35 : decode cX10_at 35 = .ok (.iadd, 1) := by decide +kernel
theorem dX10_at_36 : decode cX10_at 36 = .ok (.iaload, 1) := by decide +kernel
theorem dX10_at_37 : decode cX10_at 37 = .ok (.goto 4, 3) := by decide +kernel
theorem dX10_at_40 : decode cX10_at 40 = .ok (.iconst (-1), 1) := by decide +kernel
theorem dX10_at_41 : decode cX10_at 41 = .ok (.ireturn, 1) := by decide +kernel
theorem dX10_bound_0 : decode cX10_bound 0 = .ok (.aload_n 0, 1) := by decide +kernel
theorem dX10_bound_1 : decode cX10_bound 1 = .ok (.iload_n 1, 1) := by decide +kernel
theorem dX10_bound_2 : decode cX10_bound 2 = .ok (.invokevirtual 99, 3) := by decide +kernel
theorem dX10_bound_5 : decode cX10_bound 5 = .ok (.ifCond .ne 6, 3) := by decide +kernel
theorem dX10_bound_8 : decode cX10_bound 8 = .ok (.bipush (-3), 2) := by decide +kernel
theorem dX10_bound_10 : decode cX10_bound 10 = .ok (.ireturn, 1) := by decide +kernel
theorem dX10_bound_11 : decode cX10_bound 11 = .ok (.iload_n 2, 1) := by decide +kernel
theorem dX10_bound_12 : decode cX10_bound 12 = .ok (.iconst 0, 1) := by decide +kernel
theorem dX10_bound_13 : decode cX10_bound 13 = .ok (.aload_n 0, 1) := by decide +kernel
theorem dX10_bound_14 : decode cX10_bound 14 = .ok (.getfield 20, 3) := by decide +kernel
theorem dX10_bound_17 : decode cX10_bound 17 = .ok (.iload_n 1, 1) := by decide +kernel
theorem dX10_bound_18 : decode cX10_bound 18 = .ok (.iaload, 1) := by decide +kernel
theorem dX10_bound_19 : decode cX10_bound 19 = .ok (.iconst 1, 1) := by decide +kernel
theorem dX10_bound_20 : decode cX10_bound 20 = .ok (.isub, 1) := by decide +kernel
theorem dX10_bound_21 : decode cX10_bound 21 = .ok (.invokestatic 84, 3) := by decide +kernel
theorem dX10_bound_24 : decode cX10_bound 24 = .ok (.ifCond .eq 16, 3) := by decide +kernel
theorem dX10_bound_27 : decode cX10_bound 27 = .ok (.aload_n 0, 1) := by decide +kernel
theorem dX10_bound_28 : decode cX10_bound 28 = .ok (.getfield 26, 3) := by decide +kernel
theorem dX10_bound_31 : decode cX10_bound 31 = .ok (.iconst 4, 1) := by decide +kernel
theorem dX10_bound_32 : decode cX10_bound 32 = .ok (.iload_n 1, 1) := by decide +kernel
theorem dX10_bound_33 : decode cX10_bound 33 = .ok (.imul, 1) := by decide +kernel
theorem dX10_bound_34 : decode cX10_bound 34 = .ok (.iload_n 2, 1) := by decide +kernel
theorem dX10_bound_35 : decode cX10_bound 35 = .ok (.iadd, 1) := by decide +kernel
theorem dX10_bound_36 : decode cX10_bound 36 = .ok (.iaload, 1) := by decide +kernel
theorem dX10_bound_37 : decode cX10_bound 37 = .ok (.goto 4, 3) := by decide +kernel
theorem dX10_bound_40 : decode cX10_bound 40 = .ok (.iconst (-1), 1) := by decide +kernel
theorem dX10_bound_41 : decode cX10_bound 41 = .ok (.ireturn, 1) := by decide +kernel
theorem dX10_fretOf_0 : decode cX10_fretOf 0 = .ok (.iload_n 2, 1) := by decide +kernel
theorem dX10_fretOf_1 : decode cX10_fretOf 1 = .ok (.i2l, 1) := by decide +kernel
theorem dX10_fretOf_2 : decode cX10_fretOf 2 = .ok (.aload_n 0, 1) := by decide +kernel
theorem dX10_fretOf_3 : decode cX10_fretOf 3 = .ok (.getfield 7, 3) := by decide +kernel
theorem dX10_fretOf_6 : decode cX10_fretOf 6 = .ok (.iload_n 1, 1) := by decide +kernel
theorem dX10_fretOf_7 : decode cX10_fretOf 7 = .ok (.iaload, 1) := by decide +kernel
theorem dX10_fretOf_8 : decode cX10_fretOf 8 = .ok (.i2l, 1) := by decide +kernel
theorem dX10_fretOf_9 : decode cX10_fretOf 9 = .ok (.lsub, 1) := by decide +kernel
theorem dX10_fretOf_10 : decode cX10_fretOf 10 = .ok (.lstore_n 3, 1) := by decide +kernel
theorem dX10_fretOf_11 : decode cX10_fretOf 11 = .ok (.lload_n 3, 1) := by decide +kernel
theorem dX10_fretOf_12 : decode cX10_fretOf 12 = .ok (.aload_n 0, 1) := by decide +kernel
theorem dX10_fretOf_13 : decode cX10_fretOf 13 = .ok (.getfield 92, 3) := by decide +kernel
theorem dX10_fretOf_16 : decode cX10_fretOf 16 = .ok (.i2l, 1) := by decide +kernel
theorem dX10_fretOf_17 : decode cX10_fretOf 17 = .ok (.lcmp, 1) := by decide +kernel
theorem dX10_fretOf_18 : decode cX10_fretOf 18 = .ok (.ifCond .lt 18, 3) := by decide +kernel
theorem dX10_fretOf_21 : decode cX10_fretOf 21 = .ok (.lload_n 3, 1) := by decide +kernel
theorem dX10_fretOf_22 : decode cX10_fretOf 22 = .ok (.aload_n 0, 1) := by decide +kernel
theorem dX10_fretOf_23 : decode cX10_fretOf 23 = .ok (.getfield 13, 3) := by decide +kernel
theorem dX10_fretOf_26 : decode cX10_fretOf 26 = .ok (.i2l, 1) := by decide +kernel
theorem dX10_fretOf_27 : decode cX10_fretOf 27 = .ok (.lcmp, 1) := by decide +kernel
theorem dX10_fretOf_28 : decode cX10_fretOf 28 = .ok (.ifCond .gt 8, 3) := by decide +kernel
theorem dX10_fretOf_31 : decode cX10_fretOf 31 = .ok (.lload_n 3, 1) := by decide +kernel
theorem dX10_fretOf_32 : decode cX10_fretOf 32 = .ok (.l2i, 1) := by decide +kernel
theorem dX10_fretOf_33 : decode cX10_fretOf 33 = .ok (.goto 4, 3) := by decide +kernel
theorem dX10_fretOf_36 : decode cX10_fretOf 36 = .ok (.iconst (-1), 1) := by decide +kernel
theorem dX10_fretOf_37 : decode cX10_fretOf 37 = .ok (.ireturn, 1) := by decide +kernel
theorem dX10_fret_0 : decode cX10_fret 0 = .ok (.aload_n 0, 1) := by decide +kernel
theorem dX10_fret_1 : decode cX10_fret 1 = .ok (.iload_n 1, 1) := by decide +kernel
theorem dX10_fret_2 : decode cX10_fret 2 = .ok (.invokevirtual 103, 3) := by decide +kernel
theorem dX10_fret_5 : decode cX10_fret 5 = .ok (.ifCond .eq 12, 3) := by decide +kernel
theorem dX10_fret_8 : decode cX10_fret 8 = .ok (.aload_n 0, 1) := by decide +kernel
theorem dX10_fret_9 : decode cX10_fret 9 = .ok (.iload_n 1, 1) := by decide +kernel
theorem dX10_fret_10 : decode cX10_fret 10 = .ok (.iload_n 2, 1) := by decide +kernel
theorem dX10_fret_11 : decode cX10_fret 11 = .ok (.invokevirtual 109, 3) := by decide +kernel
theorem dX10_fret_14 : decode cX10_fret 14 = .ok (.goto 5, 3) := by decide +kernel
theorem dX10_fret_17 : decode cX10_fret 17 = .ok (.bipush (-2), 2) := by decide +kernel
theorem dX10_fret_19 : decode cX10_fret 19 = .ok (.ireturn, 1) := by decide +kernel
theorem dX10_findWays_0 : decode cX10_findWays 0 = .ok (.aload_n 0, 1) := by decide +kernel
theorem dX10_findWays_1 : decode cX10_findWays 1 = .ok (.getfield 20, 3) := by decide +kernel
theorem dX10_findWays_4 : decode cX10_findWays 4 = .ok (.iload_n 1, 1) := by decide +kernel
theorem dX10_findWays_5 : decode cX10_findWays 5 = .ok (.iaload, 1) := by decide +kernel
theorem dX10_findWays_6 : decode cX10_findWays 6 = .ok (.istore_n 2, 1) := by decide +kernel
theorem dX10_findWays_7 : decode cX10_findWays 7 = .ok (.aload_n 0, 1) := by decide +kernel
theorem dX10_findWays_8 : decode cX10_findWays 8 = .ok (.getfield 78, 3) := by decide +kernel
theorem dX10_findWays_11 : decode cX10_findWays 11 = .ok (.ifCond .ne 7, 3) := by decide +kernel
theorem dX10_findWays_14 : decode cX10_findWays 14 = .ok (.iconst 0, 1) := by decide +kernel
theorem dX10_findWays_15 : decode cX10_findWays 15 = .ok (.goto 4, 3) := by decide +kernel
theorem dX10_findWays_18 : decode cX10_findWays 18 = .ok (.iconst 1, 1) := by decide +kernel
theorem dX10_findWays_19 : decode cX10_findWays 19 = .ok (.istore_n 3, 1) := by decide +kernel
theorem dX10_findWays_20 : decode cX10_findWays 20 = .ok (.iconst 0, 1) := by decide +kernel
theorem dX10_findWays_21 : decode cX10_findWays 21 = .ok (.istore 4, 2) := by decide +kernel
theorem dX10_findWays_23 : decode cX10_findWays 23 = .ok (.iload 4, 2) := by decide +kernel
theorem dX10_findWays_25 : decode cX10_findWays 25 = .ok (.iload_n 2, 1) := by decide +kernel
theorem dX10_findWays_26 : decode cX10_findWays 26 = .ok (.if_icmp .ge 16, 3) := by decide +kernel
theorem dX10_findWays_29 : decode cX10_findWays 29 = .ok (.iload_n 3, 1) := by decide +kernel
theorem dX10_findWays_30 : decode cX10_findWays 30 = .ok (.aload_n 0, 1) := by decide +kernel
theorem dX10_findWays_31 : decode cX10_findWays 31 = .ok (.getfield 78, 3) := by decide +kernel
theorem dX10_findWays_34 : decode cX10_findWays 34 = .ok (.imul, 1) := by decide +kernel
theorem dX10_findWays_35 : decode cX10_findWays 35 = .ok (.istore_n 3, 1) := by decide +kernel
theorem dX10_findWays_36 : decode cX10_findWays 36 = .ok (.iinc 4 1, 3) := by decide +kernel
theorem dX10_findWays_39 : decode cX10_findWays 39 = .ok (.goto (-16), 3) := by decide +kernel
theorem dX10_findWays_42 : decode cX10_findWays 42 = .ok (.aload_n 0, 1) := by decide +kernel
theorem dX10_findWays_43 : decode cX10_findWays 43 = .ok (.iconst 0, 1) := by decide +kernel
theorem dX10_findWays_44 : decode cX10_findWays 44 = .ok (.putfield 113, 3) := by decide +kernel
theorem dX10_findWays_47 : decode cX10_findWays 47 = .ok (.iconst 0, 1) := by decide +kernel
theorem dX10_findWays_48 : decode cX10_findWays 48 = .ok (.istore 4, 2) := by decide +kernel
theorem dX10_findWays_50 : decode cX10_findWays 50 = .ok (.iload 4, 2) := by decide +kernel
theorem dX10_findWays_52 : decode cX10_findWays 52 = .ok (.iload_n 3, 1) := by decide +kernel
theorem dX10_findWays_53 : decode cX10_findWays 53 = .ok (.if_icmp .ge 208, 3) := by decide +kernel
theorem dX10_findWays_56 : decode cX10_findWays 56 = .ok (.iload 4, 2) := by decide +kernel
theorem dX10_findWays_58 : decode cX10_findWays 58 = .ok (.istore 5, 2) := by decide +kernel
theorem dX10_findWays_60 : decode cX10_findWays 60 = .ok (.iconst 0, 1) := by decide +kernel
theorem dX10_findWays_61 : decode cX10_findWays 61 = .ok (.istore 6, 2) := by decide +kernel
theorem dX10_findWays_63 : decode cX10_findWays 63 = .ok (.iconst 1, 1) := by decide +kernel
theorem dX10_findWays_64 : decode cX10_findWays 64 = .ok (.istore 7, 2) := by decide +kernel
theorem dX10_findWays_66 : decode cX10_findWays 66 = .ok (.iload_n 2, 1) := by decide +kernel
theorem dX10_findWays_67 : decode cX10_findWays 67 = .ok (.iconst 1, 1) := by decide +kernel
theorem dX10_findWays_68 : decode cX10_findWays 68 = .ok (.isub, 1) := by decide +kernel
theorem dX10_findWays_69 : decode cX10_findWays 69 = .ok (.istore 8, 2) := by decide +kernel
theorem dX10_findWays_71 : decode cX10_findWays 71 = .ok (.iload 8, 2) := by decide +kernel
theorem dX10_findWays_73 : decode cX10_findWays 73 = .ok (.ifCond .lt 163, 3) := by decide +kernel
theorem dX10_findWays_76 : decode cX10_findWays 76 = .ok (.iload 5, 2) := by decide +kernel
theorem dX10_findWays_78 : decode cX10_findWays 78 = .ok (.aload_n 0, 1) := by decide +kernel
theorem dX10_findWays_79 : decode cX10_findWays 79 = .ok (.getfield 78, 3) := by decide +kernel
theorem dX10_findWays_82 : decode cX10_findWays 82 = .ok (.irem, 1) := by decide +kernel
theorem dX10_findWays_83 : decode cX10_findWays 83 = .ok (.istore 9, 2) := by decide +kernel
theorem dX10_findWays_85 : decode cX10_findWays 85 = .ok (.iload 5, 2) := by decide +kernel
theorem dX10_findWays_87 : decode cX10_findWays 87 = .ok (.aload_n 0, 1) := by decide +kernel
theorem dX10_findWays_88 : decode cX10_findWays 88 = .ok (.getfield 78, 3) := by decide +kernel
theorem dX10_findWays_91 : decode cX10_findWays 91 = .ok (.idiv, 1) := by decide +kernel
theorem dX10_findWays_92 : decode cX10_findWays 92 = .ok (.istore 5, 2) := by decide +kernel
theorem dX10_findWays_94 : decode cX10_findWays 94 = .ok (.aload_n 0, 1) := by decide +kernel
theorem dX10_findWays_95 : decode cX10_findWays 95 = .ok (.iload 9, 2) := by decide +kernel
theorem dX10_findWays_97 : decode cX10_findWays 97 = .ok (.aload_n 0, 1) := by decide +kernel
theorem dX10_findWays_98 : decode cX10_findWays 98 = .ok (.getfield 23, 3) := by decide +kernel
theorem dX10_findWays_101 : decode cX10_findWays 101 = .ok (.iconst 4, 1) := by decide +kernel
theorem dX10_findWays_102 : decode cX10_findWays 102 = .ok (.iload_n 1, 1) := by decide +kernel
theorem dX10_findWays_103 : decode cX10_findWays 103 = .ok (.imul, 1) := by decide +kernel
theorem dX10_findWays_104 : decode cX10_findWays 104 = .ok (.iload 8, 2) := by decide +kernel
theorem dX10_findWays_106 : decode cX10_findWays 106 = .ok (.iadd, 1) := by decide +kernel
theorem dX10_findWays_107 : decode cX10_findWays 107 = .ok (.iaload, 1) := by decide +kernel
theorem dX10_findWays_108 : decode cX10_findWays 108 = .ok (.invokevirtual 109, 3) := by decide +kernel
theorem dX10_findWays_111 : decode cX10_findWays 111 = .ok (.istore 10, 2) := by decide +kernel
theorem dX10_findWays_113 : decode cX10_findWays 113 = .ok (.aload_n 0, 1) := by decide +kernel
theorem dX10_findWays_114 : decode cX10_findWays 114 = .ok (.getfield 26, 3) := by decide +kernel
theorem dX10_findWays_117 : decode cX10_findWays 117 = .ok (.iconst 4, 1) := by decide +kernel
theorem dX10_findWays_118 : decode cX10_findWays 118 = .ok (.iload_n 1, 1) := by decide +kernel
theorem dX10_findWays_119 : decode cX10_findWays 119 = .ok (.imul, 1) := by decide +kernel
theorem dX10_findWays_120 : decode cX10_findWays 120 = .ok (.iload 8, 2) := by decide +kernel
theorem dX10_findWays_122 : decode cX10_findWays 122 = .ok (.iadd, 1) := by decide +kernel
theorem dX10_findWays_123 : decode cX10_findWays 123 = .ok (.iaload, 1) := by decide +kernel
theorem dX10_findWays_124 : decode cX10_findWays 124 = .ok (.iconst (-1), 1) := by decide +kernel
theorem dX10_findWays_125 : decode cX10_findWays 125 = .ok (.if_icmp .eq 19, 3) := by decide +kernel
theorem dX10_findWays_128 : decode cX10_findWays 128 = .ok (.aload_n 0, 1) := by decide +kernel
theorem dX10_findWays_129 : decode cX10_findWays 129 = .ok (.getfield 26, 3) := by decide +kernel
theorem dX10_findWays_132 : decode cX10_findWays 132 = .ok (.iconst 4, 1) := by decide +kernel
theorem dX10_findWays_133 : decode cX10_findWays 133 = .ok (.iload_n 1, 1) := by decide +kernel
theorem dX10_findWays_134 : decode cX10_findWays 134 = .ok (.imul, 1) := by decide +kernel
theorem dX10_findWays_135 : decode cX10_findWays 135 = .ok (.iload 8, 2) := by decide +kernel
theorem dX10_findWays_137 : decode cX10_findWays 137 = .ok (.iadd, 1) := by decide +kernel
theorem dX10_findWays_138 : decode cX10_findWays 138 = .ok (.iaload, 1) := by decide +kernel
theorem dX10_findWays_139 : decode cX10_findWays 139 = .ok (.iload 9, 2) := by decide +kernel
theorem dX10_findWays_141 : decode cX10_findWays 141 = .ok (.if_icmp .ne 7, 3) := by decide +kernel
theorem dX10_findWays_144 : decode cX10_findWays 144 = .ok (.iconst 1, 1) := by decide +kernel
theorem dX10_findWays_145 : decode cX10_findWays 145 = .ok (.goto 4, 3) := by decide +kernel
theorem dX10_findWays_148 : decode cX10_findWays 148 = .ok (.iconst 0, 1) := by decide +kernel
theorem dX10_findWays_149 : decode cX10_findWays 149 = .ok (.istore 11, 2) := by decide +kernel
theorem dX10_findWays_151 : decode cX10_findWays 151 = .ok (.iload 7, 2) := by decide +kernel
theorem dX10_findWays_153 : decode cX10_findWays 153 = .ok (.ifCond .eq 28, 3) := by decide +kernel
theorem dX10_findWays_156 : decode cX10_findWays 156 = .ok (.iload 11, 2) := by decide +kernel
theorem dX10_findWays_158 : decode cX10_findWays 158 = .ok (.ifCond .eq 23, 3) := by decide +kernel
theorem dX10_findWays_161 : decode cX10_findWays 161 = .ok (.iload 10, 2) := by decide +kernel
theorem dX10_findWays_163 : decode cX10_findWays 163 = .ok (.iconst (-1), 1) := by decide +kernel
theorem dX10_findWays_164 : decode cX10_findWays 164 = .ok (.if_icmp .eq 17, 3) := by decide +kernel
theorem dX10_findWays_167 : decode cX10_findWays 167 = .ok (.iload 6, 2) := by decide +kernel
theorem dX10_findWays_169 : decode cX10_findWays 169 = .ok (.iload 9, 2) := by decide +kernel
theorem dX10_findWays_171 : decode cX10_findWays 171 = .ok (.ishr, 1) := by decide +kernel
theorem dX10_findWays_172 : decode cX10_findWays 172 = .ok (.iconst 1, 1) := by decide +kernel
theorem dX10_findWays_173 : decode cX10_findWays 173 = .ok (.iand, 1) := by decide +kernel
theorem dX10_findWays_174 : decode cX10_findWays 174 = .ok (.ifCond .ne 7, 3) := by decide +kernel
theorem dX10_findWays_177 : decode cX10_findWays 177 = .ok (.iconst 1, 1) := by decide +kernel
theorem dX10_findWays_178 : decode cX10_findWays 178 = .ok (.goto 4, 3) := by decide +kernel
theorem dX10_findWays_181 : decode cX10_findWays 181 = .ok (.iconst 0, 1) := by decide +kernel
theorem dX10_findWays_182 : decode cX10_findWays 182 = .ok (.istore 7, 2) := by decide +kernel
theorem dX10_findWays_184 : decode cX10_findWays 184 = .ok (.iload 6, 2) := by decide +kernel
theorem dX10_findWays_186 : decode cX10_findWays 186 = .ok (.iconst 1, 1) := by decide +kernel
theorem dX10_findWays_187 : decode cX10_findWays 187 = .ok (.iload 9, 2) := by decide +kernel
theorem dX10_findWays_189 : decode cX10_findWays 189 = .ok (.ishl, 1) := by decide +kernel
theorem dX10_findWays_190 : decode cX10_findWays 190 = .ok (.ior, 1) := by decide +kernel
theorem dX10_findWays_191 : decode cX10_findWays 191 = .ok (.istore 6, 2) := by decide +kernel
theorem dX10_findWays_193 : decode cX10_findWays 193 = .ok (.iload 7, 2) := by decide +kernel
theorem dX10_findWays_195 : decode cX10_findWays 195 = .ok (.ifCond .eq 35, 3) := by decide +kernel
theorem dX10_findWays_198 : decode cX10_findWays 198 = .ok (.aload_n 0, 1) := by decide +kernel
theorem dX10_findWays_199 : decode cX10_findWays 199 = .ok (.getfield 47, 3) := by decide +kernel
theorem dX10_findWays_202 : decode cX10_findWays 202 = .ok (.iconst 4, 1) := by decide +kernel
theorem dX10_findWays_203 : decode cX10_findWays 203 = .ok (.aload_n 0, 1) := by decide +kernel
theorem dX10_findWays_204 : decode cX10_findWays 204 = .ok (.getfield 113, 3) := by decide +kernel
theorem dX10_findWays_207 : decode cX10_findWays 207 = .ok (.imul, 1) := by decide +kernel
theorem dX10_findWays_208 : decode cX10_findWays 208 = .ok (.iload 8, 2) := by decide +kernel
theorem dX10_findWays_210 : decode cX10_findWays 210 = .ok (.iadd, 1) := by decide +kernel
theorem dX10_findWays_211 : decode cX10_findWays 211 = .ok (.iload 9, 2) := by decide +kernel
theorem dX10_findWays_213 : decode cX10_findWays 213 = .ok (.iastore, 1) := by decide +kernel
theorem dX10_findWays_214 : decode cX10_findWays 214 = .ok (.aload_n 0, 1) := by decide +kernel
theorem dX10_findWays_215 : decode cX10_findWays 215 = .ok (.getfield 50, 3) := by decide +kernel
theorem dX10_findWays_218 : decode cX10_findWays 218 = .ok (.iconst 4, 1) := by decide +kernel
theorem dX10_findWays_219 : decode cX10_findWays 219 = .ok (.aload_n 0, 1) := by decide +kernel
theorem dX10_findWays_220 : decode cX10_findWays 220 = .ok (.getfield 113, 3) := by decide +kernel
theorem dX10_findWays_223 : decode cX10_findWays 223 = .ok (.imul, 1) := by decide +kernel
theorem dX10_findWays_224 : decode cX10_findWays 224 = .ok (.iload 8, 2) := by decide +kernel
theorem dX10_findWays_226 : decode cX10_findWays 226 = .ok (.iadd, 1) := by decide +kernel
theorem dX10_findWays_227 : decode cX10_findWays 227 = .ok (.iload 10, 2) := by decide +kernel
theorem dX10_findWays_229 : decode cX10_findWays 229 = .ok (.iastore, 1) := by decide +kernel
theorem dX10_findWays_230 : decode cX10_findWays 230 = .ok (.iinc 8 (-1), 3) := by decide +kernel
theorem dX10_findWays_233 : decode cX10_findWays 233 = .ok (.goto (-162), 3) := by decide +kernel
theorem dX10_findWays_236 : decode cX10_findWays 236 = .ok (.aload_n 0, 1) := by decide +kernel
theorem dX10_findWays_237 : decode cX10_findWays 237 = .ok (.dup, 1) := by decide +kernel
theorem dX10_findWays_238 : decode cX10_findWays 238 = .ok (.getfield 113, 3) := by decide +kernel
theorem dX10_findWays_241 : decode cX10_findWays 241 = .ok (.iload 7, 2) := by decide +kernel
theorem dX10_findWays_243 : decode cX10_findWays 243 = .ok (.ifCond .eq 7, 3) := by decide +kernel
theorem dX10_findWays_246 : decode cX10_findWays 246 = .ok (.iconst 1, 1) := by decide +kernel
theorem dX10_findWays_247 : decode cX10_findWays 247 = .ok (.goto 4, 3) := by decide +kernel
theorem dX10_findWays_250 : decode cX10_findWays 250 = .ok (.iconst 0, 1) := by decide +kernel
theorem dX10_findWays_251 : decode cX10_findWays 251 = .ok (.iadd, 1) := by decide +kernel
theorem dX10_findWays_252 : decode cX10_findWays 252 = .ok (.putfield 113, 3) := by decide +kernel
theorem dX10_findWays_255 : decode cX10_findWays 255 = .ok (.iinc 4 1, 3) := by decide +kernel
theorem dX10_findWays_258 : decode cX10_findWays 258 = .ok (.goto (-208), 3) := by decide +kernel
theorem dX10_findWays_261 : decode cX10_findWays 261 = .ok (.return_, 1) := by decide +kernel
theorem dX10_isGrip_0 : decode cX10_isGrip 0 = .ok (.iconst 1, 1) := by decide +kernel
theorem dX10_isGrip_1 : decode cX10_isGrip 1 = .ok (.istore 4, 2) := by decide +kernel
theorem dX10_isGrip_3 : decode cX10_isGrip 3 = .ok (.iconst 0, 1) := by decide +kernel
theorem dX10_isGrip_4 : decode cX10_isGrip 4 = .ok (.istore 5, 2) := by decide +kernel
theorem dX10_isGrip_6 : decode cX10_isGrip 6 = .ok (.iload 5, 2) := by decide +kernel
theorem dX10_isGrip_8 : decode cX10_isGrip 8 = .ok (.aload_n 0, 1) := by decide +kernel
theorem dX10_isGrip_9 : decode cX10_isGrip 9 = .ok (.getfield 20, 3) := by decide +kernel
theorem dX10_isGrip_12 : decode cX10_isGrip 12 = .ok (.iload_n 1, 1) := by decide +kernel
theorem dX10_isGrip_13 : decode cX10_isGrip 13 = .ok (.iaload, 1) := by decide +kernel
theorem dX10_isGrip_14 : decode cX10_isGrip 14 = .ok (.if_icmp .ge 55, 3) := by decide +kernel
theorem dX10_isGrip_17 : decode cX10_isGrip 17 = .ok (.aload_n 0, 1) := by decide +kernel
theorem dX10_isGrip_18 : decode cX10_isGrip 18 = .ok (.getfield 50, 3) := by decide +kernel
theorem dX10_isGrip_21 : decode cX10_isGrip 21 = .ok (.iconst 4, 1) := by decide +kernel
theorem dX10_isGrip_22 : decode cX10_isGrip 22 = .ok (.iload_n 2, 1) := by decide +kernel
theorem dX10_isGrip_23 : decode cX10_isGrip 23 = .ok (.imul, 1) := by decide +kernel
theorem dX10_isGrip_24 : decode cX10_isGrip 24 = .ok (.iload 5, 2) := by decide +kernel
theorem dX10_isGrip_26 : decode cX10_isGrip 26 = .ok (.iadd, 1) := by decide +kernel
theorem dX10_isGrip_27 : decode cX10_isGrip 27 = .ok (.iaload, 1) := by decide +kernel
theorem dX10_isGrip_28 : decode cX10_isGrip 28 = .ok (.istore 6, 2) := by decide +kernel
theorem dX10_isGrip_30 : decode cX10_isGrip 30 = .ok (.iload 4, 2) := by decide +kernel
theorem dX10_isGrip_32 : decode cX10_isGrip 32 = .ok (.ifCond .eq 28, 3) := by decide +kernel
theorem dX10_isGrip_35 : decode cX10_isGrip 35 = .ok (.iload 6, 2) := by decide +kernel
theorem dX10_isGrip_37 : decode cX10_isGrip 37 = .ok (.aload_n 0, 1) := by decide +kernel
theorem dX10_isGrip_38 : decode cX10_isGrip 38 = .ok (.getfield 92, 3) := by decide +kernel
theorem dX10_isGrip_41 : decode cX10_isGrip 41 = .ok (.if_icmp .eq 15, 3) := by decide +kernel
theorem dX10_isGrip_44 : decode cX10_isGrip 44 = .ok (.iload 6, 2) := by decide +kernel
theorem dX10_isGrip_46 : decode cX10_isGrip 46 = .ok (.iload_n 3, 1) := by decide +kernel
theorem dX10_isGrip_47 : decode cX10_isGrip 47 = .ok (.iload_n 3, 1) := by decide +kernel
theorem dX10_isGrip_48 : decode cX10_isGrip 48 = .ok (.iconst 3, 1) := by decide +kernel
theorem dX10_isGrip_49 : decode cX10_isGrip 49 = .ok (.iadd, 1) := by decide +kernel
theorem dX10_isGrip_50 : decode cX10_isGrip 50 = .ok (.invokestatic 84, 3) := by decide +kernel
theorem dX10_isGrip_53 : decode cX10_isGrip 53 = .ok (.ifCond .eq 7, 3) := by decide +kernel
theorem dX10_isGrip_56 : decode cX10_isGrip 56 = .ok (.iconst 1, 1) := by decide +kernel
theorem dX10_isGrip_57 : decode cX10_isGrip 57 = .ok (.goto 4, 3) := by decide +kernel
theorem dX10_isGrip_60 : decode cX10_isGrip 60 = .ok (.iconst 0, 1) := by decide +kernel
theorem dX10_isGrip_61 : decode cX10_isGrip 61 = .ok (.istore 4, 2) := by decide +kernel
theorem dX10_isGrip_63 : decode cX10_isGrip 63 = .ok (.iinc 5 1, 3) := by decide +kernel
theorem dX10_isGrip_66 : decode cX10_isGrip 66 = .ok (.goto (-60), 3) := by decide +kernel
theorem dX10_isGrip_69 : decode cX10_isGrip 69 = .ok (.iload 4, 2) := by decide +kernel
theorem dX10_isGrip_71 : decode cX10_isGrip 71 = .ok (.ireturn, 1) := by decide +kernel
theorem dX10_costOf_0 : decode cX10_costOf 0 = .ok (.iconst 0, 1) := by decide +kernel
theorem dX10_costOf_1 : decode cX10_costOf 1 = .ok (.istore 4, 2) := by decide +kernel
theorem dX10_costOf_3 : decode cX10_costOf 3 = .ok (.iconst 0, 1) := by decide +kernel
theorem dX10_costOf_4 : decode cX10_costOf 4 = .ok (.istore 5, 2) := by decide +kernel
theorem dX10_costOf_6 : decode cX10_costOf 6 = .ok (.iload 5, 2) := by decide +kernel
theorem dX10_costOf_8 : decode cX10_costOf 8 = .ok (.aload_n 0, 1) := by decide +kernel
theorem dX10_costOf_9 : decode cX10_costOf 9 = .ok (.getfield 20, 3) := by decide +kernel
theorem dX10_costOf_12 : decode cX10_costOf 12 = .ok (.iload_n 1, 1) := by decide +kernel
theorem dX10_costOf_13 : decode cX10_costOf 13 = .ok (.iaload, 1) := by decide +kernel
theorem dX10_costOf_14 : decode cX10_costOf 14 = .ok (.if_icmp .ge 78, 3) := by decide +kernel
theorem dX10_costOf_17 : decode cX10_costOf 17 = .ok (.aload_n 0, 1) := by decide +kernel
theorem dX10_costOf_18 : decode cX10_costOf 18 = .ok (.getfield 50, 3) := by decide +kernel
theorem dX10_costOf_21 : decode cX10_costOf 21 = .ok (.iconst 4, 1) := by decide +kernel
theorem dX10_costOf_22 : decode cX10_costOf 22 = .ok (.iload_n 2, 1) := by decide +kernel
theorem dX10_costOf_23 : decode cX10_costOf 23 = .ok (.imul, 1) := by decide +kernel
theorem dX10_costOf_24 : decode cX10_costOf 24 = .ok (.iload 5, 2) := by decide +kernel
theorem dX10_costOf_26 : decode cX10_costOf 26 = .ok (.iadd, 1) := by decide +kernel
theorem dX10_costOf_27 : decode cX10_costOf 27 = .ok (.iaload, 1) := by decide +kernel
theorem dX10_costOf_28 : decode cX10_costOf 28 = .ok (.istore 6, 2) := by decide +kernel
theorem dX10_costOf_30 : decode cX10_costOf 30 = .ok (.iload 4, 2) := by decide +kernel
theorem dX10_costOf_32 : decode cX10_costOf 32 = .ok (.iload 6, 2) := by decide +kernel
theorem dX10_costOf_34 : decode cX10_costOf 34 = .ok (.aload_n 0, 1) := by decide +kernel
theorem dX10_costOf_35 : decode cX10_costOf 35 = .ok (.getfield 92, 3) := by decide +kernel
theorem dX10_costOf_38 : decode cX10_costOf 38 = .ok (.if_icmp .ne 12, 3) := by decide +kernel
theorem dX10_costOf_41 : decode cX10_costOf 41 = .ok (.aload_n 0, 1) := by decide +kernel
theorem dX10_costOf_42 : decode cX10_costOf 42 = .ok (.getfield 17, 3) := by decide +kernel
theorem dX10_costOf_45 : decode cX10_costOf 45 = .ok (.iconst 3, 1) := by decide +kernel
theorem dX10_costOf_46 : decode cX10_costOf 46 = .ok (.iaload, 1) := by decide +kernel
theorem dX10_costOf_47 : decode cX10_costOf 47 = .ok (.goto 36, 3) := by decide +kernel
theorem dX10_costOf_50 : decode cX10_costOf 50 = .ok (.aload_n 0, 1) := by decide +kernel
theorem dX10_costOf_51 : decode cX10_costOf 51 = .ok (.getfield 17, 3) := by decide +kernel
theorem dX10_costOf_54 : decode cX10_costOf 54 = .ok (.iconst 1, 1) := by decide +kernel
theorem dX10_costOf_55 : decode cX10_costOf 55 = .ok (.iaload, 1) := by decide +kernel
theorem dX10_costOf_56 : decode cX10_costOf 56 = .ok (.iload 6, 2) := by decide +kernel
theorem dX10_costOf_58 : decode cX10_costOf 58 = .ok (.aload_n 0, 1) := by decide +kernel
theorem dX10_costOf_59 : decode cX10_costOf 59 = .ok (.getfield 92, 3) := by decide +kernel
theorem dX10_costOf_62 : decode cX10_costOf 62 = .ok (.isub, 1) := by decide +kernel
theorem dX10_costOf_63 : decode cX10_costOf 63 = .ok (.imul, 1) := by decide +kernel
theorem dX10_costOf_64 : decode cX10_costOf 64 = .ok (.iload 6, 2) := by decide +kernel
theorem dX10_costOf_66 : decode cX10_costOf 66 = .ok (.iload_n 3, 1) := by decide +kernel
theorem dX10_costOf_67 : decode cX10_costOf 67 = .ok (.iconst 3, 1) := by decide +kernel
theorem dX10_costOf_68 : decode cX10_costOf 68 = .ok (.iadd, 1) := by decide +kernel
theorem dX10_costOf_69 : decode cX10_costOf 69 = .ok (.if_icmp .ne 12, 3) := by decide +kernel
theorem dX10_costOf_72 : decode cX10_costOf 72 = .ok (.aload_n 0, 1) := by decide +kernel
theorem dX10_costOf_73 : decode cX10_costOf 73 = .ok (.getfield 17, 3) := by decide +kernel
theorem dX10_costOf_76 : decode cX10_costOf 76 = .ok (.iconst 2, 1) := by decide +kernel
theorem dX10_costOf_77 : decode cX10_costOf 77 = .ok (.iaload, 1) := by decide +kernel
theorem dX10_costOf_78 : decode cX10_costOf 78 = .ok (.goto 4, 3) := by decide +kernel
theorem dX10_costOf_81 : decode cX10_costOf 81 = .ok (.iconst 0, 1) := by decide +kernel
theorem dX10_costOf_82 : decode cX10_costOf 82 = .ok (.iadd, 1) := by decide +kernel
theorem dX10_costOf_83 : decode cX10_costOf 83 = .ok (.iadd, 1) := by decide +kernel
theorem dX10_costOf_84 : decode cX10_costOf 84 = .ok (.istore 4, 2) := by decide +kernel
theorem dX10_costOf_86 : decode cX10_costOf 86 = .ok (.iinc 5 1, 3) := by decide +kernel
theorem dX10_costOf_89 : decode cX10_costOf 89 = .ok (.goto (-83), 3) := by decide +kernel
theorem dX10_costOf_92 : decode cX10_costOf 92 = .ok (.iload 4, 2) := by decide +kernel
theorem dX10_costOf_94 : decode cX10_costOf 94 = .ok (.ireturn, 1) := by decide +kernel
theorem dX10_grips_0 : decode cX10_grips 0 = .ok (.aload_n 0, 1) := by decide +kernel
theorem dX10_grips_1 : decode cX10_grips 1 = .ok (.iload_n 1, 1) := by decide +kernel
theorem dX10_grips_2 : decode cX10_grips 2 = .ok (.invokevirtual 99, 3) := by decide +kernel
theorem dX10_grips_5 : decode cX10_grips 5 = .ok (.ifCond .ne 6, 3) := by decide +kernel
theorem dX10_grips_8 : decode cX10_grips 8 = .ok (.bipush (-3), 2) := by decide +kernel
theorem dX10_grips_10 : decode cX10_grips 10 = .ok (.ireturn, 1) := by decide +kernel
theorem dX10_grips_11 : decode cX10_grips 11 = .ok (.aload_n 0, 1) := by decide +kernel
theorem dX10_grips_12 : decode cX10_grips 12 = .ok (.iload_n 1, 1) := by decide +kernel
theorem dX10_grips_13 : decode cX10_grips 13 = .ok (.invokevirtual 116, 3) := by decide +kernel
theorem dX10_grips_16 : decode cX10_grips 16 = .ok (.iconst 0, 1) := by decide +kernel
theorem dX10_grips_17 : decode cX10_grips 17 = .ok (.istore_n 2, 1) := by decide +kernel
theorem dX10_grips_18 : decode cX10_grips 18 = .ok (.aload_n 0, 1) := by decide +kernel
theorem dX10_grips_19 : decode cX10_grips 19 = .ok (.getfield 92, 3) := by decide +kernel
theorem dX10_grips_22 : decode cX10_grips 22 = .ok (.iconst 1, 1) := by decide +kernel
theorem dX10_grips_23 : decode cX10_grips 23 = .ok (.iadd, 1) := by decide +kernel
theorem dX10_grips_24 : decode cX10_grips 24 = .ok (.istore_n 3, 1) := by decide +kernel
theorem dX10_grips_25 : decode cX10_grips 25 = .ok (.iload_n 3, 1) := by decide +kernel
theorem dX10_grips_26 : decode cX10_grips 26 = .ok (.aload_n 0, 1) := by decide +kernel
theorem dX10_grips_27 : decode cX10_grips 27 = .ok (.getfield 13, 3) := by decide +kernel
theorem dX10_grips_30 : decode cX10_grips 30 = .ok (.if_icmp .gt 46, 3) := by decide +kernel
theorem dX10_grips_33 : decode cX10_grips 33 = .ok (.iconst 0, 1) := by decide +kernel
theorem dX10_grips_34 : decode cX10_grips 34 = .ok (.istore 4, 2) := by decide +kernel
theorem dX10_grips_36 : decode cX10_grips 36 = .ok (.iload 4, 2) := by decide +kernel
theorem dX10_grips_38 : decode cX10_grips 38 = .ok (.aload_n 0, 1) := by decide +kernel
theorem dX10_grips_39 : decode cX10_grips 39 = .ok (.getfield 113, 3) := by decide +kernel
theorem dX10_grips_42 : decode cX10_grips 42 = .ok (.if_icmp .ge 28, 3) := by decide +kernel
theorem dX10_grips_45 : decode cX10_grips 45 = .ok (.iload_n 2, 1) := by decide +kernel
theorem dX10_grips_46 : decode cX10_grips 46 = .ok (.aload_n 0, 1) := by decide +kernel
theorem dX10_grips_47 : decode cX10_grips 47 = .ok (.iload_n 1, 1) := by decide +kernel
theorem dX10_grips_48 : decode cX10_grips 48 = .ok (.iload 4, 2) := by decide +kernel
theorem dX10_grips_50 : decode cX10_grips 50 = .ok (.iload_n 3, 1) := by decide +kernel
theorem dX10_grips_51 : decode cX10_grips 51 = .ok (.invokevirtual 120, 3) := by decide +kernel
theorem dX10_grips_54 : decode cX10_grips 54 = .ok (.ifCond .eq 7, 3) := by decide +kernel
theorem dX10_grips_57 : decode cX10_grips 57 = .ok (.iconst 1, 1) := by decide +kernel
theorem dX10_grips_58 : decode cX10_grips 58 = .ok (.goto 4, 3) := by decide +kernel
theorem dX10_grips_61 : decode cX10_grips 61 = .ok (.iconst 0, 1) := by decide +kernel
theorem dX10_grips_62 : decode cX10_grips 62 = .ok (.iadd, 1) := by decide +kernel
theorem dX10_grips_63 : decode cX10_grips 63 = .ok (.istore_n 2, 1) := by decide +kernel
theorem dX10_grips_64 : decode cX10_grips 64 = .ok (.iinc 4 1, 3) := by decide +kernel
theorem dX10_grips_67 : decode cX10_grips 67 = .ok (.goto (-31), 3) := by decide +kernel
theorem dX10_grips_70 : decode cX10_grips 70 = .ok (.iinc 3 1, 3) := by decide +kernel
theorem dX10_grips_73 : decode cX10_grips 73 = .ok (.goto (-48), 3) := by decide +kernel
theorem dX10_grips_76 : decode cX10_grips 76 = .ok (.iload_n 2, 1) := by decide +kernel
theorem dX10_grips_77 : decode cX10_grips 77 = .ok (.ireturn, 1) := by decide +kernel
theorem dX10_grip_0 : decode cX10_grip 0 = .ok (.aload_n 0, 1) := by decide +kernel
theorem dX10_grip_1 : decode cX10_grip 1 = .ok (.iload_n 1, 1) := by decide +kernel
theorem dX10_grip_2 : decode cX10_grip 2 = .ok (.invokevirtual 99, 3) := by decide +kernel
theorem dX10_grip_5 : decode cX10_grip 5 = .ok (.ifCond .ne 6, 3) := by decide +kernel
theorem dX10_grip_8 : decode cX10_grip 8 = .ok (.bipush (-3), 2) := by decide +kernel
theorem dX10_grip_10 : decode cX10_grip 10 = .ok (.ireturn, 1) := by decide +kernel
theorem dX10_grip_11 : decode cX10_grip 11 = .ok (.iload_n 3, 1) := by decide +kernel
theorem dX10_grip_12 : decode cX10_grip 12 = .ok (.iconst 0, 1) := by decide +kernel
theorem dX10_grip_13 : decode cX10_grip 13 = .ok (.iconst 5, 1) := by decide +kernel
theorem dX10_grip_14 : decode cX10_grip 14 = .ok (.invokestatic 84, 3) := by decide +kernel
theorem dX10_grip_17 : decode cX10_grip 17 = .ok (.ifCond .ne 6, 3) := by decide +kernel
theorem dX10_grip_20 : decode cX10_grip 20 = .ok (.bipush (-2), 2) := by decide +kernel
theorem dX10_grip_22 : decode cX10_grip 22 = .ok (.ireturn, 1) := by decide +kernel
theorem dX10_grip_23 : decode cX10_grip 23 = .ok (.aload_n 0, 1) := by decide +kernel
theorem dX10_grip_24 : decode cX10_grip 24 = .ok (.iload_n 1, 1) := by decide +kernel
theorem dX10_grip_25 : decode cX10_grip 25 = .ok (.invokevirtual 116, 3) := by decide +kernel
theorem dX10_grip_28 : decode cX10_grip 28 = .ok (.iload_n 2, 1) := by decide +kernel
theorem dX10_grip_29 : decode cX10_grip 29 = .ok (.istore 4, 2) := by decide +kernel
theorem dX10_grip_31 : decode cX10_grip 31 = .ok (.aload_n 0, 1) := by decide +kernel
theorem dX10_grip_32 : decode cX10_grip 32 = .ok (.getfield 92, 3) := by decide +kernel
theorem dX10_grip_35 : decode cX10_grip 35 = .ok (.iconst 1, 1) := by decide +kernel
theorem dX10_grip_36 : decode cX10_grip 36 = .ok (.iadd, 1) := by decide +kernel
theorem dX10_grip_37 : decode cX10_grip 37 = .ok (.istore 5, 2) := by decide +kernel
theorem dX10_grip_39 : decode cX10_grip 39 = .ok (.iload 5, 2) := by decide +kernel
theorem dX10_grip_41 : decode cX10_grip 41 = .ok (.aload_n 0, 1) := by decide +kernel
theorem dX10_grip_42 : decode cX10_grip 42 = .ok (.getfield 13, 3) := by decide +kernel
theorem dX10_grip_45 : decode cX10_grip 45 = .ok (.if_icmp .gt 62, 3) := by decide +kernel
theorem dX10_grip_48 : decode cX10_grip 48 = .ok (.iload_n 2, 1) := by decide +kernel
theorem dX10_grip_49 : decode cX10_grip 49 = .ok (.ifCond .lt 58, 3) := by decide +kernel
theorem dX10_grip_52 : decode cX10_grip 52 = .ok (.iconst 0, 1) := by decide +kernel
theorem dX10_grip_53 : decode cX10_grip 53 = .ok (.istore 6, 2) := by decide +kernel
theorem dX10_grip_55 : decode cX10_grip 55 = .ok (.iload 6, 2) := by decide +kernel
theorem dX10_grip_57 : decode cX10_grip 57 = .ok (.aload_n 0, 1) := by decide +kernel
theorem dX10_grip_58 : decode cX10_grip 58 = .ok (.getfield 113, 3) := by decide +kernel
theorem dX10_grip_61 : decode cX10_grip 61 = .ok (.if_icmp .ge 40, 3) := by decide +kernel
theorem dX10_grip_64 : decode cX10_grip 64 = .ok (.aload_n 0, 1) := by decide +kernel
theorem dX10_grip_65 : decode cX10_grip 65 = .ok (.iload_n 1, 1) := by decide +kernel
theorem dX10_grip_66 : decode cX10_grip 66 = .ok (.iload 6, 2) := by decide +kernel
theorem dX10_grip_68 : decode cX10_grip 68 = .ok (.iload 5, 2) := by decide +kernel
theorem dX10_grip_70 : decode cX10_grip 70 = .ok (.invokevirtual 120, 3) := by decide +kernel
theorem dX10_grip_73 : decode cX10_grip 73 = .ok (.ifCond .eq 22, 3) := by decide +kernel
theorem dX10_grip_76 : decode cX10_grip 76 = .ok (.iload 4, 2) := by decide +kernel
theorem dX10_grip_78 : decode cX10_grip 78 = .ok (.ifCond .ne 14, 3) := by decide +kernel
theorem dX10_grip_81 : decode cX10_grip 81 = .ok (.aload_n 0, 1) := by decide +kernel
theorem dX10_grip_82 : decode cX10_grip 82 = .ok (.iload_n 1, 1) := by decide +kernel
theorem dX10_grip_83 : decode cX10_grip 83 = .ok (.iload 6, 2) := by decide +kernel
theorem dX10_grip_85 : decode cX10_grip 85 = .ok (.iload 5, 2) := by decide +kernel
theorem dX10_grip_87 : decode cX10_grip 87 = .ok (.iload_n 3, 1) := by decide +kernel
theorem dX10_grip_88 : decode cX10_grip 88 = .ok (.invokevirtual 123, 3) := by decide +kernel
theorem dX10_grip_91 : decode cX10_grip 91 = .ok (.ireturn, 1) := by decide +kernel
theorem dX10_grip_92 : decode cX10_grip 92 = .ok (.iinc 4 (-1), 3) := by decide +kernel
theorem dX10_grip_95 : decode cX10_grip 95 = .ok (.iinc 6 1, 3) := by decide +kernel
theorem dX10_grip_98 : decode cX10_grip 98 = .ok (.goto (-43), 3) := by decide +kernel
theorem dX10_grip_101 : decode cX10_grip 101 = .ok (.iinc 5 1, 3) := by decide +kernel
theorem dX10_grip_104 : decode cX10_grip 104 = .ok (.goto (-65), 3) := by decide +kernel
theorem dX10_grip_107 : decode cX10_grip 107 = .ok (.iconst (-1), 1) := by decide +kernel
theorem dX10_grip_108 : decode cX10_grip 108 = .ok (.ireturn, 1) := by decide +kernel
theorem dX10_told__0 : decode cX10_told_ 0 = .ok (.iload 4, 2) := by decide +kernel
theorem dX10_told__2 : decode cX10_told_ 2 = .ok (.ifCond .ne 5, 3) := by decide +kernel
theorem dX10_told__5 : decode cX10_told_ 5 = .ok (.iload_n 3, 1) := by decide +kernel
theorem dX10_told__6 : decode cX10_told_ 6 = .ok (.ireturn, 1) := by decide +kernel
theorem dX10_told__7 : decode cX10_told_ 7 = .ok (.iload 4, 2) := by decide +kernel
theorem dX10_told__9 : decode cX10_told_ 9 = .ok (.iconst 5, 1) := by decide +kernel
theorem dX10_told__10 : decode cX10_told_ 10 = .ok (.if_icmp .ne 11, 3) := by decide +kernel
theorem dX10_told__13 : decode cX10_told_ 13 = .ok (.aload_n 0, 1) := by decide +kernel
theorem dX10_told__14 : decode cX10_told_ 14 = .ok (.iload_n 1, 1) := by decide +kernel
theorem dX10_told__15 : decode cX10_told_ 15 = .ok (.iload_n 2, 1) := by decide +kernel
theorem dX10_told__16 : decode cX10_told_ 16 = .ok (.iload_n 3, 1) := by decide +kernel
theorem dX10_told__17 : decode cX10_told_ 17 = .ok (.invokevirtual 127, 3) := by decide +kernel
theorem dX10_told__20 : decode cX10_told_ 20 = .ok (.ireturn, 1) := by decide +kernel
theorem dX10_told__21 : decode cX10_told_ 21 = .ok (.iload 4, 2) := by decide +kernel
theorem dX10_told__23 : decode cX10_told_ 23 = .ok (.aload_n 0, 1) := by decide +kernel
theorem dX10_told__24 : decode cX10_told_ 24 = .ok (.getfield 20, 3) := by decide +kernel
theorem dX10_told__27 : decode cX10_told_ 27 = .ok (.iload_n 1, 1) := by decide +kernel
theorem dX10_told__28 : decode cX10_told_ 28 = .ok (.iaload, 1) := by decide +kernel
theorem dX10_told__29 : decode cX10_told_ 29 = .ok (.if_icmp .gt 19, 3) := by decide +kernel
theorem dX10_told__32 : decode cX10_told_ 32 = .ok (.aload_n 0, 1) := by decide +kernel
theorem dX10_told__33 : decode cX10_told_ 33 = .ok (.getfield 47, 3) := by decide +kernel
theorem dX10_told__36 : decode cX10_told_ 36 = .ok (.iconst 4, 1) := by decide +kernel
theorem dX10_told__37 : decode cX10_told_ 37 = .ok (.iload_n 2, 1) := by decide +kernel
theorem dX10_told__38 : decode cX10_told_ 38 = .ok (.imul, 1) := by decide +kernel
theorem dX10_told__39 : decode cX10_told_ 39 = .ok (.iload 4, 2) := by decide +kernel
theorem dX10_told__41 : decode cX10_told_ 41 = .ok (.iadd, 1) := by decide +kernel
theorem dX10_told__42 : decode cX10_told_ 42 = .ok (.iconst 1, 1) := by decide +kernel
theorem dX10_told__43 : decode cX10_told_ 43 = .ok (.isub, 1) := by decide +kernel
theorem dX10_told__44 : decode cX10_told_ 44 = .ok (.iaload, 1) := by decide +kernel
theorem dX10_told__45 : decode cX10_told_ 45 = .ok (.goto 4, 3) := by decide +kernel
theorem dX10_told__48 : decode cX10_told_ 48 = .ok (.iconst (-1), 1) := by decide +kernel
theorem dX10_told__49 : decode cX10_told_ 49 = .ok (.ireturn, 1) := by decide +kernel
theorem dX10_at__0 : decode cX10_at_ 0 = .ok (.bipush 25, 2) := by decide +kernel
theorem dX10_at__2 : decode cX10_at_ 2 = .ok (.iload_n 0, 1) := by decide +kernel
theorem dX10_at__3 : decode cX10_at_ 3 = .ok (.imul, 1) := by decide +kernel
theorem dX10_at__4 : decode cX10_at_ 4 = .ok (.ireturn, 1) := by decide +kernel
theorem dX10_findCosts_0 : decode cX10_findCosts 0 = .ok (.aload_n 0, 1) := by decide +kernel
theorem dX10_findCosts_1 : decode cX10_findCosts 1 = .ok (.iload_n 1, 1) := by decide +kernel
theorem dX10_findCosts_2 : decode cX10_findCosts 2 = .ok (.invokevirtual 116, 3) := by decide +kernel
theorem dX10_findCosts_5 : decode cX10_findCosts 5 = .ok (.aload_n 0, 1) := by decide +kernel
theorem dX10_findCosts_6 : decode cX10_findCosts 6 = .ok (.getfield 92, 3) := by decide +kernel
theorem dX10_findCosts_9 : decode cX10_findCosts 9 = .ok (.iconst 1, 1) := by decide +kernel
theorem dX10_findCosts_10 : decode cX10_findCosts 10 = .ok (.iadd, 1) := by decide +kernel
theorem dX10_findCosts_11 : decode cX10_findCosts 11 = .ok (.istore_n 2, 1) := by decide +kernel
theorem dX10_findCosts_12 : decode cX10_findCosts 12 = .ok (.iload_n 2, 1) := by decide +kernel
theorem dX10_findCosts_13 : decode cX10_findCosts 13 = .ok (.aload_n 0, 1) := by decide +kernel
theorem dX10_findCosts_14 : decode cX10_findCosts 14 = .ok (.getfield 13, 3) := by decide +kernel
theorem dX10_findCosts_17 : decode cX10_findCosts 17 = .ok (.if_icmp .gt 119, 3) := by decide +kernel
theorem dX10_findCosts_20 : decode cX10_findCosts 20 = .ok (.ldc 131, 2) := by decide +kernel
theorem dX10_findCosts_22 : decode cX10_findCosts 22 = .ok (.istore_n 3, 1) := by decide +kernel
theorem dX10_findCosts_23 : decode cX10_findCosts 23 = .ok (.iconst 0, 1) := by decide +kernel
theorem dX10_findCosts_24 : decode cX10_findCosts 24 = .ok (.istore 4, 2) := by decide +kernel
theorem dX10_findCosts_26 : decode cX10_findCosts 26 = .ok (.iconst 0, 1) := by decide +kernel
theorem dX10_findCosts_27 : decode cX10_findCosts 27 = .ok (.istore 5, 2) := by decide +kernel
theorem dX10_findCosts_29 : decode cX10_findCosts 29 = .ok (.iload 5, 2) := by decide +kernel
theorem dX10_findCosts_31 : decode cX10_findCosts 31 = .ok (.aload_n 0, 1) := by decide +kernel
theorem dX10_findCosts_32 : decode cX10_findCosts 32 = .ok (.getfield 113, 3) := by decide +kernel
theorem dX10_findCosts_35 : decode cX10_findCosts 35 = .ok (.if_icmp .ge 70, 3) := by decide +kernel
theorem dX10_findCosts_38 : decode cX10_findCosts 38 = .ok (.aload_n 0, 1) := by decide +kernel
theorem dX10_findCosts_39 : decode cX10_findCosts 39 = .ok (.iload_n 1, 1) := by decide +kernel
theorem dX10_findCosts_40 : decode cX10_findCosts 40 = .ok (.iload 5, 2) := by decide +kernel
theorem dX10_findCosts_42 : decode cX10_findCosts 42 = .ok (.iload_n 2, 1) := by decide +kernel
theorem dX10_findCosts_43 : decode cX10_findCosts 43 = .ok (.invokevirtual 120, 3) := by decide +kernel
theorem dX10_findCosts_46 : decode cX10_findCosts 46 = .ok (.ifCond .eq 53, 3) := by decide +kernel
theorem dX10_findCosts_49 : decode cX10_findCosts 49 = .ok (.aload_n 0, 1) := by decide +kernel
theorem dX10_findCosts_50 : decode cX10_findCosts 50 = .ok (.iload_n 1, 1) := by decide +kernel
theorem dX10_findCosts_51 : decode cX10_findCosts 51 = .ok (.iload 5, 2) := by decide +kernel
theorem dX10_findCosts_53 : decode cX10_findCosts 53 = .ok (.iload_n 2, 1) := by decide +kernel
theorem dX10_findCosts_54 : decode cX10_findCosts 54 = .ok (.invokevirtual 127, 3) := by decide +kernel
theorem dX10_findCosts_57 : decode cX10_findCosts 57 = .ok (.istore 6, 2) := by decide +kernel
theorem dX10_findCosts_59 : decode cX10_findCosts 59 = .ok (.iload 6, 2) := by decide +kernel
theorem dX10_findCosts_61 : decode cX10_findCosts 61 = .ok (.iload_n 3, 1) := by decide +kernel
theorem dX10_findCosts_62 : decode cX10_findCosts 62 = .ok (.if_icmp .ge 7, 3) := by decide +kernel
theorem dX10_findCosts_65 : decode cX10_findCosts 65 = .ok (.iconst 1, 1) := by decide +kernel
theorem dX10_findCosts_66 : decode cX10_findCosts 66 = .ok (.goto 18, 3) := by decide +kernel
theorem dX10_findCosts_69 : decode cX10_findCosts 69 = .ok (.iload 6, 2) := by decide +kernel
theorem dX10_findCosts_71 : decode cX10_findCosts 71 = .ok (.iload_n 3, 1) := by decide +kernel
theorem dX10_findCosts_72 : decode cX10_findCosts 72 = .ok (.if_icmp .ne 10, 3) := by decide +kernel
theorem dX10_findCosts_75 : decode cX10_findCosts 75 = .ok (.iload 4, 2) := by decide +kernel
theorem dX10_findCosts_77 : decode cX10_findCosts 77 = .ok (.iconst 1, 1) := by decide +kernel
theorem dX10_findCosts_78 : decode cX10_findCosts 78 = .ok (.iadd, 1) := by decide +kernel
theorem dX10_findCosts_79 : decode cX10_findCosts 79 = .ok (.goto 5, 3) := by decide +kernel
theorem dX10_findCosts_82 : decode cX10_findCosts 82 = .ok (.iload 4, 2) := by decide +kernel
theorem dX10_findCosts_84 : decode cX10_findCosts 84 = .ok (.istore 4, 2) := by decide +kernel
theorem dX10_findCosts_86 : decode cX10_findCosts 86 = .ok (.iload 6, 2) := by decide +kernel
theorem dX10_findCosts_88 : decode cX10_findCosts 88 = .ok (.iload_n 3, 1) := by decide +kernel
theorem dX10_findCosts_89 : decode cX10_findCosts 89 = .ok (.if_icmp .ge 8, 3) := by decide +kernel
theorem dX10_findCosts_92 : decode cX10_findCosts 92 = .ok (.iload 6, 2) := by decide +kernel
theorem dX10_findCosts_94 : decode cX10_findCosts 94 = .ok (.goto 4, 3) := by decide +kernel
theorem dX10_findCosts_97 : decode cX10_findCosts 97 = .ok (.iload_n 3, 1) := by decide +kernel
theorem dX10_findCosts_98 : decode cX10_findCosts 98 = .ok (.istore_n 3, 1) := by decide +kernel
theorem dX10_findCosts_99 : decode cX10_findCosts 99 = .ok (.iinc 5 1, 3) := by decide +kernel
theorem dX10_findCosts_102 : decode cX10_findCosts 102 = .ok (.goto (-73), 3) := by decide +kernel
theorem dX10_findCosts_105 : decode cX10_findCosts 105 = .ok (.aload_n 0, 1) := by decide +kernel
theorem dX10_findCosts_106 : decode cX10_findCosts 106 = .ok (.getfield 53, 3) := by decide +kernel
theorem dX10_findCosts_109 : decode cX10_findCosts 109 = .ok (.iload_n 1, 1) := by decide +kernel
theorem dX10_findCosts_110 : decode cX10_findCosts 110 = .ok (.invokestatic 132, 3) := by decide +kernel
theorem dX10_findCosts_113 : decode cX10_findCosts 113 = .ok (.iload_n 2, 1) := by decide +kernel
theorem dX10_findCosts_114 : decode cX10_findCosts 114 = .ok (.iadd, 1) := by decide +kernel
theorem dX10_findCosts_115 : decode cX10_findCosts 115 = .ok (.iload_n 3, 1) := by decide +kernel
theorem dX10_findCosts_116 : decode cX10_findCosts 116 = .ok (.iastore, 1) := by decide +kernel
theorem dX10_findCosts_117 : decode cX10_findCosts 117 = .ok (.aload_n 0, 1) := by decide +kernel
theorem dX10_findCosts_118 : decode cX10_findCosts 118 = .ok (.getfield 56, 3) := by decide +kernel
theorem dX10_findCosts_121 : decode cX10_findCosts 121 = .ok (.iload_n 1, 1) := by decide +kernel
theorem dX10_findCosts_122 : decode cX10_findCosts 122 = .ok (.invokestatic 132, 3) := by decide +kernel
theorem dX10_findCosts_125 : decode cX10_findCosts 125 = .ok (.iload_n 2, 1) := by decide +kernel
theorem dX10_findCosts_126 : decode cX10_findCosts 126 = .ok (.iadd, 1) := by decide +kernel
theorem dX10_findCosts_127 : decode cX10_findCosts 127 = .ok (.iload 4, 2) := by decide +kernel
theorem dX10_findCosts_129 : decode cX10_findCosts 129 = .ok (.iastore, 1) := by decide +kernel
theorem dX10_findCosts_130 : decode cX10_findCosts 130 = .ok (.iinc 2 1, 3) := by decide +kernel
theorem dX10_findCosts_133 : decode cX10_findCosts 133 = .ok (.goto (-121), 3) := by decide +kernel
theorem dX10_findCosts_136 : decode cX10_findCosts 136 = .ok (.return_, 1) := by decide +kernel
theorem dX10_move_0 : decode cX10_move 0 = .ok (.aload_n 0, 1) := by decide +kernel
theorem dX10_move_1 : decode cX10_move 1 = .ok (.getfield 17, 3) := by decide +kernel
theorem dX10_move_4 : decode cX10_move 4 = .ok (.iconst 0, 1) := by decide +kernel
theorem dX10_move_5 : decode cX10_move 5 = .ok (.iaload, 1) := by decide +kernel
theorem dX10_move_6 : decode cX10_move 6 = .ok (.iload_n 1, 1) := by decide +kernel
theorem dX10_move_7 : decode cX10_move 7 = .ok (.iload_n 2, 1) := by decide +kernel
theorem dX10_move_8 : decode cX10_move 8 = .ok (.if_icmp .le 9, 3) := by decide +kernel
theorem dX10_move_11 : decode cX10_move 11 = .ok (.iload_n 1, 1) := by decide +kernel
theorem dX10_move_12 : decode cX10_move 12 = .ok (.iload_n 2, 1) := by decide +kernel
theorem dX10_move_13 : decode cX10_move 13 = .ok (.isub, 1) := by decide +kernel
theorem dX10_move_14 : decode cX10_move 14 = .ok (.goto 6, 3) := by decide +kernel
theorem dX10_move_17 : decode cX10_move 17 = .ok (.iload_n 2, 1) := by decide +kernel
theorem dX10_move_18 : decode cX10_move 18 = .ok (.iload_n 1, 1) := by decide +kernel
theorem dX10_move_19 : decode cX10_move 19 = .ok (.isub, 1) := by decide +kernel
theorem dX10_move_20 : decode cX10_move 20 = .ok (.imul, 1) := by decide +kernel
theorem dX10_move_21 : decode cX10_move 21 = .ok (.ireturn, 1) := by decide +kernel
theorem dX10_few_0 : decode cX10_few 0 = .ok (.lload_n 0, 1) := by decide +kernel
theorem dX10_few_1 : decode cX10_few 1 = .ok (.ldc2_w 136, 3) := by decide +kernel
theorem dX10_few_4 : decode cX10_few 4 = .ok (.lcmp, 1) := by decide +kernel
theorem dX10_few_5 : decode cX10_few 5 = .ok (.ifCond .le 8, 3) := by decide +kernel
theorem dX10_few_8 : decode cX10_few 8 = .ok (.ldc 138, 2) := by decide +kernel
theorem dX10_few_10 : decode cX10_few 10 = .ok (.goto 5, 3) := by decide +kernel
theorem dX10_few_13 : decode cX10_few 13 = .ok (.lload_n 0, 1) := by decide +kernel
theorem dX10_few_14 : decode cX10_few 14 = .ok (.l2i, 1) := by decide +kernel
theorem dX10_few_15 : decode cX10_few 15 = .ok (.ireturn, 1) := by decide +kernel
theorem dX10_findSums_0 : decode cX10_findSums 0 = .ok (.iconst 0, 1) := by decide +kernel
theorem dX10_findSums_1 : decode cX10_findSums 1 = .ok (.istore_n 1, 1) := by decide +kernel
theorem dX10_findSums_2 : decode cX10_findSums 2 = .ok (.iload_n 1, 1) := by decide +kernel
theorem dX10_findSums_3 : decode cX10_findSums 3 = .ok (.aload_n 0, 1) := by decide +kernel
theorem dX10_findSums_4 : decode cX10_findSums 4 = .ok (.getfield 81, 3) := by decide +kernel
theorem dX10_findSums_7 : decode cX10_findSums 7 = .ok (.if_icmp .ge 281, 3) := by decide +kernel
theorem dX10_findSums_10 : decode cX10_findSums 10 = .ok (.aload_n 0, 1) := by decide +kernel
theorem dX10_findSums_11 : decode cX10_findSums 11 = .ok (.iload_n 1, 1) := by decide +kernel
theorem dX10_findSums_12 : decode cX10_findSums 12 = .ok (.invokevirtual 139, 3) := by decide +kernel
theorem dX10_findSums_15 : decode cX10_findSums 15 = .ok (.aload_n 0, 1) := by decide +kernel
theorem dX10_findSums_16 : decode cX10_findSums 16 = .ok (.getfield 92, 3) := by decide +kernel
theorem dX10_findSums_19 : decode cX10_findSums 19 = .ok (.iconst 1, 1) := by decide +kernel
theorem dX10_findSums_20 : decode cX10_findSums 20 = .ok (.iadd, 1) := by decide +kernel
theorem dX10_findSums_21 : decode cX10_findSums 21 = .ok (.istore_n 2, 1) := by decide +kernel
theorem dX10_findSums_22 : decode cX10_findSums 22 = .ok (.iload_n 2, 1) := by decide +kernel
theorem dX10_findSums_23 : decode cX10_findSums 23 = .ok (.aload_n 0, 1) := by decide +kernel
theorem dX10_findSums_24 : decode cX10_findSums 24 = .ok (.getfield 13, 3) := by decide +kernel
theorem dX10_findSums_27 : decode cX10_findSums 27 = .ok (.if_icmp .gt 255, 3) := by decide +kernel
theorem dX10_findSums_30 : decode cX10_findSums 30 = .ok (.iload_n 1, 1) := by decide +kernel
theorem dX10_findSums_31 : decode cX10_findSums 31 = .ok (.ifCond .ne 7, 3) := by decide +kernel
theorem dX10_findSums_34 : decode cX10_findSums 34 = .ok (.iconst 0, 1) := by decide +kernel
theorem dX10_findSums_35 : decode cX10_findSums 35 = .ok (.goto 5, 3) := by decide +kernel
theorem dX10_findSums_38 : decode cX10_findSums 38 = .ok (.ldc 131, 2) := by decide +kernel
theorem dX10_findSums_40 : decode cX10_findSums 40 = .ok (.istore_n 3, 1) := by decide +kernel
theorem dX10_findSums_41 : decode cX10_findSums 41 = .ok (.iload_n 1, 1) := by decide +kernel
theorem dX10_findSums_42 : decode cX10_findSums 42 = .ok (.ifCond .ne 7, 3) := by decide +kernel
theorem dX10_findSums_45 : decode cX10_findSums 45 = .ok (.lconst 1, 1) := by decide +kernel
theorem dX10_findSums_46 : decode cX10_findSums 46 = .ok (.goto 4, 3) := by decide +kernel
theorem dX10_findSums_49 : decode cX10_findSums 49 = .ok (.lconst 0, 1) := by decide +kernel
theorem dX10_findSums_50 : decode cX10_findSums 50 = .ok (.lstore 4, 2) := by decide +kernel
theorem dX10_findSums_52 : decode cX10_findSums 52 = .ok (.aload_n 0, 1) := by decide +kernel
theorem dX10_findSums_53 : decode cX10_findSums 53 = .ok (.getfield 92, 3) := by decide +kernel
theorem dX10_findSums_56 : decode cX10_findSums 56 = .ok (.iconst 1, 1) := by decide +kernel
theorem dX10_findSums_57 : decode cX10_findSums 57 = .ok (.iadd, 1) := by decide +kernel
theorem dX10_findSums_58 : decode cX10_findSums 58 = .ok (.istore 6, 2) := by decide +kernel
theorem dX10_findSums_60 : decode cX10_findSums 60 = .ok (.iload 6, 2) := by decide +kernel
theorem dX10_findSums_62 : decode cX10_findSums 62 = .ok (.aload_n 0, 1) := by decide +kernel
theorem dX10_findSums_63 : decode cX10_findSums 63 = .ok (.getfield 13, 3) := by decide +kernel
theorem dX10_findSums_66 : decode cX10_findSums 66 = .ok (.if_icmp .gt 105, 3) := by decide +kernel
theorem dX10_findSums_69 : decode cX10_findSums 69 = .ok (.iload_n 1, 1) := by decide +kernel
theorem dX10_findSums_70 : decode cX10_findSums 70 = .ok (.ifCond .le 101, 3) := by decide +kernel
theorem dX10_findSums_73 : decode cX10_findSums 73 = .ok (.aload_n 0, 1) := by decide +kernel
theorem dX10_findSums_74 : decode cX10_findSums 74 = .ok (.getfield 59, 3) := by decide +kernel
theorem dX10_findSums_77 : decode cX10_findSums 77 = .ok (.iload_n 1, 1) := by decide +kernel
theorem dX10_findSums_78 : decode cX10_findSums 78 = .ok (.iconst 1, 1) := by decide +kernel
theorem dX10_findSums_79 : decode cX10_findSums 79 = .ok (.isub, 1) := by decide +kernel
theorem dX10_findSums_80 : decode cX10_findSums 80 = .ok (.invokestatic 132, 3) := by decide +kernel
theorem dX10_findSums_83 : decode cX10_findSums 83 = .ok (.iload 6, 2) := by decide +kernel
theorem dX10_findSums_85 : decode cX10_findSums 85 = .ok (.iadd, 1) := by decide +kernel
theorem dX10_findSums_86 : decode cX10_findSums 86 = .ok (.iaload, 1) := by decide +kernel
theorem dX10_findSums_87 : decode cX10_findSums 87 = .ok (.aload_n 0, 1) := by decide +kernel
theorem dX10_findSums_88 : decode cX10_findSums 88 = .ok (.iload 6, 2) := by decide +kernel
theorem dX10_findSums_90 : decode cX10_findSums 90 = .ok (.iload_n 2, 1) := by decide +kernel
theorem dX10_findSums_91 : decode cX10_findSums 91 = .ok (.invokevirtual 142, 3) := by decide +kernel
theorem dX10_findSums_94 : decode cX10_findSums 94 = .ok (.iadd, 1) := by decide +kernel
theorem dX10_findSums_95 : decode cX10_findSums 95 = .ok (.istore 7, 2) := by decide +kernel
theorem dX10_findSums_97 : decode cX10_findSums 97 = .ok (.iload 7, 2) := by decide +kernel
theorem dX10_findSums_99 : decode cX10_findSums 99 = .ok (.iload_n 3, 1) := by decide +kernel
theorem dX10_findSums_100 : decode cX10_findSums 100 = .ok (.if_icmp .ge 21, 3) := by decide +kernel
theorem dX10_findSums_103 : decode cX10_findSums 103 = .ok (.aload_n 0, 1) := by decide +kernel
theorem dX10_findSums_104 : decode cX10_findSums 104 = .ok (.getfield 62, 3) := by decide +kernel
theorem dX10_findSums_107 : decode cX10_findSums 107 = .ok (.iload_n 1, 1) := by decide +kernel
theorem dX10_findSums_108 : decode cX10_findSums 108 = .ok (.iconst 1, 1) := by decide +kernel
theorem dX10_findSums_109 : decode cX10_findSums 109 = .ok (.isub, 1) := by decide +kernel
theorem dX10_findSums_110 : decode cX10_findSums 110 = .ok (.invokestatic 132, 3) := by decide +kernel
theorem dX10_findSums_113 : decode cX10_findSums 113 = .ok (.iload 6, 2) := by decide +kernel
theorem dX10_findSums_115 : decode cX10_findSums 115 = .ok (.iadd, 1) := by decide +kernel
theorem dX10_findSums_116 : decode cX10_findSums 116 = .ok (.iaload, 1) := by decide +kernel
theorem dX10_findSums_117 : decode cX10_findSums 117 = .ok (.i2l, 1) := by decide +kernel
theorem dX10_findSums_118 : decode cX10_findSums 118 = .ok (.goto 32, 3) := by decide +kernel
theorem dX10_findSums_121 : decode cX10_findSums 121 = .ok (.iload 7, 2) := by decide +kernel
theorem dX10_findSums_123 : decode cX10_findSums 123 = .ok (.iload_n 3, 1) := by decide +kernel
theorem dX10_findSums_124 : decode cX10_findSums 124 = .ok (.if_icmp .ne 24, 3) := by decide +kernel
theorem dX10_findSums_127 : decode cX10_findSums 127 = .ok (.lload 4, 2) := by decide +kernel
theorem dX10_findSums_129 : decode cX10_findSums 129 = .ok (.aload_n 0, 1) := by decide +kernel
theorem dX10_findSums_130 : decode cX10_findSums 130 = .ok (.getfield 62, 3) := by decide +kernel
theorem dX10_findSums_133 : decode cX10_findSums 133 = .ok (.iload_n 1, 1) := by decide +kernel
theorem dX10_findSums_134 : decode cX10_findSums 134 = .ok (.iconst 1, 1) := by decide +kernel
theorem dX10_findSums_135 : decode cX10_findSums 135 = .ok (.isub, 1) := by decide +kernel
theorem dX10_findSums_136 : decode cX10_findSums 136 = .ok (.invokestatic 132, 3) := by decide +kernel
theorem dX10_findSums_139 : decode cX10_findSums 139 = .ok (.iload 6, 2) := by decide +kernel
theorem dX10_findSums_141 : decode cX10_findSums 141 = .ok (.iadd, 1) := by decide +kernel
theorem dX10_findSums_142 : decode cX10_findSums 142 = .ok (.iaload, 1) := by decide +kernel
theorem dX10_findSums_143 : decode cX10_findSums 143 = .ok (.i2l, 1) := by decide +kernel
theorem dX10_findSums_144 : decode cX10_findSums 144 = .ok (.ladd, 1) := by decide +kernel
theorem dX10_findSums_145 : decode cX10_findSums 145 = .ok (.goto 5, 3) := by decide +kernel
theorem dX10_findSums_148 : decode cX10_findSums 148 = .ok (.lload 4, 2) := by decide +kernel
theorem dX10_findSums_150 : decode cX10_findSums 150 = .ok (.lstore 4, 2) := by decide +kernel
theorem dX10_findSums_152 : decode cX10_findSums 152 = .ok (.iload 7, 2) := by decide +kernel
theorem dX10_findSums_154 : decode cX10_findSums 154 = .ok (.iload_n 3, 1) := by decide +kernel
theorem dX10_findSums_155 : decode cX10_findSums 155 = .ok (.if_icmp .ge 8, 3) := by decide +kernel
theorem dX10_findSums_158 : decode cX10_findSums 158 = .ok (.iload 7, 2) := by decide +kernel
theorem dX10_findSums_160 : decode cX10_findSums 160 = .ok (.goto 4, 3) := by decide +kernel
theorem dX10_findSums_163 : decode cX10_findSums 163 = .ok (.iload_n 3, 1) := by decide +kernel
theorem dX10_findSums_164 : decode cX10_findSums 164 = .ok (.istore_n 3, 1) := by decide +kernel
theorem dX10_findSums_165 : decode cX10_findSums 165 = .ok (.iinc 6 1, 3) := by decide +kernel
theorem dX10_findSums_168 : decode cX10_findSums 168 = .ok (.goto (-108), 3) := by decide +kernel
theorem dX10_findSums_171 : decode cX10_findSums 171 = .ok (.aload_n 0, 1) := by decide +kernel
theorem dX10_findSums_172 : decode cX10_findSums 172 = .ok (.getfield 53, 3) := by decide +kernel
theorem dX10_findSums_175 : decode cX10_findSums 175 = .ok (.iload_n 1, 1) := by decide +kernel
theorem dX10_findSums_176 : decode cX10_findSums 176 = .ok (.invokestatic 132, 3) := by decide +kernel
theorem dX10_findSums_179 : decode cX10_findSums 179 = .ok (.iload_n 2, 1) := by decide +kernel
theorem dX10_findSums_180 : decode cX10_findSums 180 = .ok (.iadd, 1) := by decide +kernel
theorem dX10_findSums_181 : decode cX10_findSums 181 = .ok (.iaload, 1) := by decide +kernel
theorem dX10_findSums_182 : decode cX10_findSums 182 = .ok (.ldc 131, 2) := by decide +kernel
theorem dX10_findSums_184 : decode cX10_findSums 184 = .ok (.if_icmp .ge 13, 3) := by decide +kernel
theorem dX10_findSums_187 : decode cX10_findSums 187 = .ok (.iload_n 3, 1) := by decide +kernel
theorem dX10_findSums_188 : decode cX10_findSums 188 = .ok (.ldc 131, 2) := by decide +kernel
theorem dX10_findSums_190 : decode cX10_findSums 190 = .ok (.if_icmp .ge 7, 3) := by decide +kernel
theorem dX10_findSums_193 : decode cX10_findSums 193 = .ok (.iconst 1, 1) := by decide +kernel
theorem dX10_findSums_194 : decode cX10_findSums 194 = .ok (.goto 4, 3) := by decide +kernel
theorem dX10_findSums_197 : decode cX10_findSums 197 = .ok (.iconst 0, 1) := by decide +kernel
theorem dX10_findSums_198 : decode cX10_findSums 198 = .ok (.istore 6, 2) := by decide +kernel
theorem dX10_findSums_200 : decode cX10_findSums 200 = .ok (.aload_n 0, 1) := by decide +kernel
theorem dX10_findSums_201 : decode cX10_findSums 201 = .ok (.getfield 59, 3) := by decide +kernel
theorem dX10_findSums_204 : decode cX10_findSums 204 = .ok (.iload_n 1, 1) := by decide +kernel
theorem dX10_findSums_205 : decode cX10_findSums 205 = .ok (.invokestatic 132, 3) := by decide +kernel
theorem dX10_findSums_208 : decode cX10_findSums 208 = .ok (.iload_n 2, 1) := by decide +kernel
theorem dX10_findSums_209 : decode cX10_findSums 209 = .ok (.iadd, 1) := by decide +kernel
theorem dX10_findSums_210 : decode cX10_findSums 210 = .ok (.iload 6, 2) := by decide +kernel
theorem dX10_findSums_212 : decode cX10_findSums 212 = .ok (.ifCond .eq 19, 3) := by decide +kernel
theorem dX10_findSums_215 : decode cX10_findSums 215 = .ok (.iload_n 3, 1) := by decide +kernel
theorem dX10_findSums_216 : decode cX10_findSums 216 = .ok (.aload_n 0, 1) := by decide +kernel
theorem dX10_findSums_217 : decode cX10_findSums 217 = .ok (.getfield 53, 3) := by decide +kernel
theorem dX10_findSums_220 : decode cX10_findSums 220 = .ok (.iload_n 1, 1) := by decide +kernel
theorem dX10_findSums_221 : decode cX10_findSums 221 = .ok (.invokestatic 132, 3) := by decide +kernel
theorem dX10_findSums_224 : decode cX10_findSums 224 = .ok (.iload_n 2, 1) := by decide +kernel
theorem dX10_findSums_225 : decode cX10_findSums 225 = .ok (.iadd, 1) := by decide +kernel
theorem dX10_findSums_226 : decode cX10_findSums 226 = .ok (.iaload, 1) := by decide +kernel
theorem dX10_findSums_227 : decode cX10_findSums 227 = .ok (.iadd, 1) := by decide +kernel
theorem dX10_findSums_228 : decode cX10_findSums 228 = .ok (.goto 5, 3) := by decide +kernel
theorem dX10_findSums_231 : decode cX10_findSums 231 = .ok (.ldc 131, 2) := by decide +kernel
theorem dX10_findSums_233 : decode cX10_findSums 233 = .ok (.iastore, 1) := by decide +kernel
theorem dX10_findSums_234 : decode cX10_findSums 234 = .ok (.aload_n 0, 1) := by decide +kernel
theorem dX10_findSums_235 : decode cX10_findSums 235 = .ok (.getfield 62, 3) := by decide +kernel
theorem dX10_findSums_238 : decode cX10_findSums 238 = .ok (.iload_n 1, 1) := by decide +kernel
theorem dX10_findSums_239 : decode cX10_findSums 239 = .ok (.invokestatic 132, 3) := by decide +kernel
theorem dX10_findSums_242 : decode cX10_findSums 242 = .ok (.iload_n 2, 1) := by decide +kernel
theorem dX10_findSums_243 : decode cX10_findSums 243 = .ok (.iadd, 1) := by decide +kernel
theorem dX10_findSums_244 : decode cX10_findSums 244 = .ok (.iload 6, 2) := by decide +kernel
theorem dX10_findSums_246 : decode cX10_findSums 246 = .ok (.ifCond .eq 28, 3) := by decide +kernel
theorem dX10_findSums_249 : decode cX10_findSums 249 = .ok (.lload 4, 2) := by decide +kernel
theorem dX10_findSums_251 : decode cX10_findSums 251 = .ok (.invokestatic 145, 3) := by decide +kernel
theorem dX10_findSums_254 : decode cX10_findSums 254 = .ok (.i2l, 1) := by decide +kernel
theorem dX10_findSums_255 : decode cX10_findSums 255 = .ok (.aload_n 0, 1) := by decide +kernel
theorem dX10_findSums_256 : decode cX10_findSums 256 = .ok (.getfield 56, 3) := by decide +kernel
theorem dX10_findSums_259 : decode cX10_findSums 259 = .ok (.iload_n 1, 1) := by decide +kernel
theorem dX10_findSums_260 : decode cX10_findSums 260 = .ok (.invokestatic 132, 3) := by decide +kernel
theorem dX10_findSums_263 : decode cX10_findSums 263 = .ok (.iload_n 2, 1) := by decide +kernel
theorem dX10_findSums_264 : decode cX10_findSums 264 = .ok (.iadd, 1) := by decide +kernel
theorem dX10_findSums_265 : decode cX10_findSums 265 = .ok (.iaload, 1) := by decide +kernel
theorem dX10_findSums_266 : decode cX10_findSums 266 = .ok (.i2l, 1) := by decide +kernel
theorem dX10_findSums_267 : decode cX10_findSums 267 = .ok (.lmul, 1) := by decide +kernel
theorem dX10_findSums_268 : decode cX10_findSums 268 = .ok (.invokestatic 145, 3) := by decide +kernel
theorem dX10_findSums_271 : decode cX10_findSums 271 = .ok (.goto 4, 3) := by decide +kernel
theorem dX10_findSums_274 : decode cX10_findSums 274 = .ok (.iconst 0, 1) := by decide +kernel
theorem dX10_findSums_275 : decode cX10_findSums 275 = .ok (.iastore, 1) := by decide +kernel
theorem dX10_findSums_276 : decode cX10_findSums 276 = .ok (.iinc 2 1, 3) := by decide +kernel
theorem dX10_findSums_279 : decode cX10_findSums 279 = .ok (.goto (-257), 3) := by decide +kernel
theorem dX10_findSums_282 : decode cX10_findSums 282 = .ok (.iinc 1 1, 3) := by decide +kernel
theorem dX10_findSums_285 : decode cX10_findSums 285 = .ok (.goto (-283), 3) := by decide +kernel
theorem dX10_findSums_288 : decode cX10_findSums 288 = .ok (.ldc 131, 2) := by decide +kernel
theorem dX10_findSums_290 : decode cX10_findSums 290 = .ok (.istore_n 1, 1) := by decide +kernel
theorem dX10_findSums_291 : decode cX10_findSums 291 = .ok (.aload_n 0, 1) := by decide +kernel
theorem dX10_findSums_292 : decode cX10_findSums 292 = .ok (.getfield 92, 3) := by decide +kernel
theorem dX10_findSums_295 : decode cX10_findSums 295 = .ok (.iconst 1, 1) := by decide +kernel
theorem dX10_findSums_296 : decode cX10_findSums 296 = .ok (.iadd, 1) := by decide +kernel
theorem dX10_findSums_297 : decode cX10_findSums 297 = .ok (.istore_n 2, 1) := by decide +kernel
theorem dX10_findSums_298 : decode cX10_findSums 298 = .ok (.iload_n 2, 1) := by decide +kernel
theorem dX10_findSums_299 : decode cX10_findSums 299 = .ok (.aload_n 0, 1) := by decide +kernel
theorem dX10_findSums_300 : decode cX10_findSums 300 = .ok (.getfield 13, 3) := by decide +kernel
theorem dX10_findSums_303 : decode cX10_findSums 303 = .ok (.if_icmp .gt 50, 3) := by decide +kernel
theorem dX10_findSums_306 : decode cX10_findSums 306 = .ok (.aload_n 0, 1) := by decide +kernel
theorem dX10_findSums_307 : decode cX10_findSums 307 = .ok (.getfield 59, 3) := by decide +kernel
theorem dX10_findSums_310 : decode cX10_findSums 310 = .ok (.aload_n 0, 1) := by decide +kernel
theorem dX10_findSums_311 : decode cX10_findSums 311 = .ok (.getfield 81, 3) := by decide +kernel
theorem dX10_findSums_314 : decode cX10_findSums 314 = .ok (.iconst 1, 1) := by decide +kernel
theorem dX10_findSums_315 : decode cX10_findSums 315 = .ok (.isub, 1) := by decide +kernel
theorem dX10_findSums_316 : decode cX10_findSums 316 = .ok (.invokestatic 132, 3) := by decide +kernel
theorem dX10_findSums_319 : decode cX10_findSums 319 = .ok (.iload_n 2, 1) := by decide +kernel
theorem dX10_findSums_320 : decode cX10_findSums 320 = .ok (.iadd, 1) := by decide +kernel
theorem dX10_findSums_321 : decode cX10_findSums 321 = .ok (.iaload, 1) := by decide +kernel
theorem dX10_findSums_322 : decode cX10_findSums 322 = .ok (.iload_n 1, 1) := by decide +kernel
theorem dX10_findSums_323 : decode cX10_findSums 323 = .ok (.if_icmp .ge 22, 3) := by decide +kernel
theorem dX10_findSums_326 : decode cX10_findSums 326 = .ok (.aload_n 0, 1) := by decide +kernel
theorem dX10_findSums_327 : decode cX10_findSums 327 = .ok (.getfield 59, 3) := by decide +kernel
theorem dX10_findSums_330 : decode cX10_findSums 330 = .ok (.aload_n 0, 1) := by decide +kernel
theorem dX10_findSums_331 : decode cX10_findSums 331 = .ok (.getfield 81, 3) := by decide +kernel
theorem dX10_findSums_334 : decode cX10_findSums 334 = .ok (.iconst 1, 1) := by decide +kernel
theorem dX10_findSums_335 : decode cX10_findSums 335 = .ok (.isub, 1) := by decide +kernel
theorem dX10_findSums_336 : decode cX10_findSums 336 = .ok (.invokestatic 132, 3) := by decide +kernel
theorem dX10_findSums_339 : decode cX10_findSums 339 = .ok (.iload_n 2, 1) := by decide +kernel
theorem dX10_findSums_340 : decode cX10_findSums 340 = .ok (.iadd, 1) := by decide +kernel
theorem dX10_findSums_341 : decode cX10_findSums 341 = .ok (.iaload, 1) := by decide +kernel
theorem dX10_findSums_342 : decode cX10_findSums 342 = .ok (.goto 4, 3) := by decide +kernel
theorem dX10_findSums_345 : decode cX10_findSums 345 = .ok (.iload_n 1, 1) := by decide +kernel
theorem dX10_findSums_346 : decode cX10_findSums 346 = .ok (.istore_n 1, 1) := by decide +kernel
theorem dX10_findSums_347 : decode cX10_findSums 347 = .ok (.iinc 2 1, 3) := by decide +kernel
theorem dX10_findSums_350 : decode cX10_findSums 350 = .ok (.goto (-52), 3) := by decide +kernel
theorem dX10_findSums_353 : decode cX10_findSums 353 = .ok (.iload_n 1, 1) := by decide +kernel
theorem dX10_findSums_354 : decode cX10_findSums 354 = .ok (.ireturn, 1) := by decide +kernel
theorem dX10_goesOn_0 : decode cX10_goesOn 0 = .ok (.aload_n 0, 1) := by decide +kernel
theorem dX10_goesOn_1 : decode cX10_goesOn 1 = .ok (.getfield 59, 3) := by decide +kernel
theorem dX10_goesOn_4 : decode cX10_goesOn 4 = .ok (.iload_n 1, 1) := by decide +kernel
theorem dX10_goesOn_5 : decode cX10_goesOn 5 = .ok (.invokestatic 132, 3) := by decide +kernel
theorem dX10_goesOn_8 : decode cX10_goesOn 8 = .ok (.iload_n 2, 1) := by decide +kernel
theorem dX10_goesOn_9 : decode cX10_goesOn 9 = .ok (.iadd, 1) := by decide +kernel
theorem dX10_goesOn_10 : decode cX10_goesOn 10 = .ok (.iaload, 1) := by decide +kernel
theorem dX10_goesOn_11 : decode cX10_goesOn 11 = .ok (.ldc 131, 2) := by decide +kernel
theorem dX10_goesOn_13 : decode cX10_goesOn 13 = .ok (.if_icmp .ge 73, 3) := by decide +kernel
theorem dX10_goesOn_16 : decode cX10_goesOn 16 = .ok (.aload_n 0, 1) := by decide +kernel
theorem dX10_goesOn_17 : decode cX10_goesOn 17 = .ok (.getfield 59, 3) := by decide +kernel
theorem dX10_goesOn_20 : decode cX10_goesOn 20 = .ok (.iload_n 1, 1) := by decide +kernel
theorem dX10_goesOn_21 : decode cX10_goesOn 21 = .ok (.iconst 1, 1) := by decide +kernel
theorem dX10_goesOn_22 : decode cX10_goesOn 22 = .ok (.iadd, 1) := by decide +kernel
theorem dX10_goesOn_23 : decode cX10_goesOn 23 = .ok (.invokestatic 132, 3) := by decide +kernel
theorem dX10_goesOn_26 : decode cX10_goesOn 26 = .ok (.iload_n 3, 1) := by decide +kernel
theorem dX10_goesOn_27 : decode cX10_goesOn 27 = .ok (.iadd, 1) := by decide +kernel
theorem dX10_goesOn_28 : decode cX10_goesOn 28 = .ok (.iaload, 1) := by decide +kernel
theorem dX10_goesOn_29 : decode cX10_goesOn 29 = .ok (.ldc 131, 2) := by decide +kernel
theorem dX10_goesOn_31 : decode cX10_goesOn 31 = .ok (.if_icmp .ge 55, 3) := by decide +kernel
theorem dX10_goesOn_34 : decode cX10_goesOn 34 = .ok (.aload_n 0, 1) := by decide +kernel
theorem dX10_goesOn_35 : decode cX10_goesOn 35 = .ok (.getfield 59, 3) := by decide +kernel
theorem dX10_goesOn_38 : decode cX10_goesOn 38 = .ok (.iload_n 1, 1) := by decide +kernel
theorem dX10_goesOn_39 : decode cX10_goesOn 39 = .ok (.invokestatic 132, 3) := by decide +kernel
theorem dX10_goesOn_42 : decode cX10_goesOn 42 = .ok (.iload_n 2, 1) := by decide +kernel
theorem dX10_goesOn_43 : decode cX10_goesOn 43 = .ok (.iadd, 1) := by decide +kernel
theorem dX10_goesOn_44 : decode cX10_goesOn 44 = .ok (.iaload, 1) := by decide +kernel
theorem dX10_goesOn_45 : decode cX10_goesOn 45 = .ok (.aload_n 0, 1) := by decide +kernel
theorem dX10_goesOn_46 : decode cX10_goesOn 46 = .ok (.iload_n 2, 1) := by decide +kernel
theorem dX10_goesOn_47 : decode cX10_goesOn 47 = .ok (.iload_n 3, 1) := by decide +kernel
theorem dX10_goesOn_48 : decode cX10_goesOn 48 = .ok (.invokevirtual 142, 3) := by decide +kernel
theorem dX10_goesOn_51 : decode cX10_goesOn 51 = .ok (.iadd, 1) := by decide +kernel
theorem dX10_goesOn_52 : decode cX10_goesOn 52 = .ok (.aload_n 0, 1) := by decide +kernel
theorem dX10_goesOn_53 : decode cX10_goesOn 53 = .ok (.getfield 53, 3) := by decide +kernel
theorem dX10_goesOn_56 : decode cX10_goesOn 56 = .ok (.iload_n 1, 1) := by decide +kernel
theorem dX10_goesOn_57 : decode cX10_goesOn 57 = .ok (.iconst 1, 1) := by decide +kernel
theorem dX10_goesOn_58 : decode cX10_goesOn 58 = .ok (.iadd, 1) := by decide +kernel
theorem dX10_goesOn_59 : decode cX10_goesOn 59 = .ok (.invokestatic 132, 3) := by decide +kernel
theorem dX10_goesOn_62 : decode cX10_goesOn 62 = .ok (.iload_n 3, 1) := by decide +kernel
theorem dX10_goesOn_63 : decode cX10_goesOn 63 = .ok (.iadd, 1) := by decide +kernel
theorem dX10_goesOn_64 : decode cX10_goesOn 64 = .ok (.iaload, 1) := by decide +kernel
theorem dX10_goesOn_65 : decode cX10_goesOn 65 = .ok (.iadd, 1) := by decide +kernel
theorem dX10_goesOn_66 : decode cX10_goesOn 66 = .ok (.aload_n 0, 1) := by decide +kernel
theorem dX10_goesOn_67 : decode cX10_goesOn 67 = .ok (.getfield 59, 3) := by decide +kernel
theorem dX10_goesOn_70 : decode cX10_goesOn 70 = .ok (.iload_n 1, 1) := by decide +kernel
theorem dX10_goesOn_71 : decode cX10_goesOn 71 = .ok (.iconst 1, 1) := by decide +kernel
theorem dX10_goesOn_72 : decode cX10_goesOn 72 = .ok (.iadd, 1) := by decide +kernel
theorem dX10_goesOn_73 : decode cX10_goesOn 73 = .ok (.invokestatic 132, 3) := by decide +kernel
theorem dX10_goesOn_76 : decode cX10_goesOn 76 = .ok (.iload_n 3, 1) := by decide +kernel
theorem dX10_goesOn_77 : decode cX10_goesOn 77 = .ok (.iadd, 1) := by decide +kernel
theorem dX10_goesOn_78 : decode cX10_goesOn 78 = .ok (.iaload, 1) := by decide +kernel
theorem dX10_goesOn_79 : decode cX10_goesOn 79 = .ok (.if_icmp .ne 7, 3) := by decide +kernel
theorem dX10_goesOn_82 : decode cX10_goesOn 82 = .ok (.iconst 1, 1) := by decide +kernel
theorem dX10_goesOn_83 : decode cX10_goesOn 83 = .ok (.goto 4, 3) := by decide +kernel
theorem dX10_goesOn_86 : decode cX10_goesOn 86 = .ok (.iconst 0, 1) := by decide +kernel
theorem dX10_goesOn_87 : decode cX10_goesOn 87 = .ok (.ireturn, 1) := by decide +kernel
theorem dX10_markBack_0 : decode cX10_markBack 0 = .ok (.aload_n 0, 1) := by decide +kernel
theorem dX10_markBack_1 : decode cX10_markBack 1 = .ok (.getfield 81, 3) := by decide +kernel
theorem dX10_markBack_4 : decode cX10_markBack 4 = .ok (.iconst 1, 1) := by decide +kernel
theorem dX10_markBack_5 : decode cX10_markBack 5 = .ok (.isub, 1) := by decide +kernel
theorem dX10_markBack_6 : decode cX10_markBack 6 = .ok (.istore_n 2, 1) := by decide +kernel
theorem dX10_markBack_7 : decode cX10_markBack 7 = .ok (.iload_n 2, 1) := by decide +kernel
theorem dX10_markBack_8 : decode cX10_markBack 8 = .ok (.ifCond .lt 148, 3) := by decide +kernel
theorem dX10_markBack_11 : decode cX10_markBack 11 = .ok (.aload_n 0, 1) := by decide +kernel
theorem dX10_markBack_12 : decode cX10_markBack 12 = .ok (.getfield 92, 3) := by decide +kernel
theorem dX10_markBack_15 : decode cX10_markBack 15 = .ok (.iconst 1, 1) := by decide +kernel
theorem dX10_markBack_16 : decode cX10_markBack 16 = .ok (.iadd, 1) := by decide +kernel
theorem dX10_markBack_17 : decode cX10_markBack 17 = .ok (.istore_n 3, 1) := by decide +kernel
theorem dX10_markBack_18 : decode cX10_markBack 18 = .ok (.iload_n 3, 1) := by decide +kernel
theorem dX10_markBack_19 : decode cX10_markBack 19 = .ok (.aload_n 0, 1) := by decide +kernel
theorem dX10_markBack_20 : decode cX10_markBack 20 = .ok (.getfield 13, 3) := by decide +kernel
theorem dX10_markBack_23 : decode cX10_markBack 23 = .ok (.if_icmp .gt 127, 3) := by decide +kernel
theorem dX10_markBack_26 : decode cX10_markBack 26 = .ok (.iload_n 2, 1) := by decide +kernel
theorem dX10_markBack_27 : decode cX10_markBack 27 = .ok (.aload_n 0, 1) := by decide +kernel
theorem dX10_markBack_28 : decode cX10_markBack 28 = .ok (.getfield 81, 3) := by decide +kernel
theorem dX10_markBack_31 : decode cX10_markBack 31 = .ok (.iconst 1, 1) := by decide +kernel
theorem dX10_markBack_32 : decode cX10_markBack 32 = .ok (.isub, 1) := by decide +kernel
theorem dX10_markBack_33 : decode cX10_markBack 33 = .ok (.if_icmp .ne 22, 3) := by decide +kernel
theorem dX10_markBack_36 : decode cX10_markBack 36 = .ok (.aload_n 0, 1) := by decide +kernel
theorem dX10_markBack_37 : decode cX10_markBack 37 = .ok (.getfield 59, 3) := by decide +kernel
theorem dX10_markBack_40 : decode cX10_markBack 40 = .ok (.iload_n 2, 1) := by decide +kernel
theorem dX10_markBack_41 : decode cX10_markBack 41 = .ok (.invokestatic 132, 3) := by decide +kernel
theorem dX10_markBack_44 : decode cX10_markBack 44 = .ok (.iload_n 3, 1) := by decide +kernel
theorem dX10_markBack_45 : decode cX10_markBack 45 = .ok (.iadd, 1) := by decide +kernel
theorem dX10_markBack_46 : decode cX10_markBack 46 = .ok (.iaload, 1) := by decide +kernel
theorem dX10_markBack_47 : decode cX10_markBack 47 = .ok (.iload_n 1, 1) := by decide +kernel
theorem dX10_markBack_48 : decode cX10_markBack 48 = .ok (.if_icmp .ne 7, 3) := by decide +kernel
theorem dX10_markBack_51 : decode cX10_markBack 51 = .ok (.iconst 1, 1) := by decide +kernel
theorem dX10_markBack_52 : decode cX10_markBack 52 = .ok (.goto 4, 3) := by decide +kernel
theorem dX10_markBack_55 : decode cX10_markBack 55 = .ok (.iconst 0, 1) := by decide +kernel
theorem dX10_markBack_56 : decode cX10_markBack 56 = .ok (.istore 4, 2) := by decide +kernel
theorem dX10_markBack_58 : decode cX10_markBack 58 = .ok (.aload_n 0, 1) := by decide +kernel
theorem dX10_markBack_59 : decode cX10_markBack 59 = .ok (.getfield 92, 3) := by decide +kernel
theorem dX10_markBack_62 : decode cX10_markBack 62 = .ok (.iconst 1, 1) := by decide +kernel
theorem dX10_markBack_63 : decode cX10_markBack 63 = .ok (.iadd, 1) := by decide +kernel
theorem dX10_markBack_64 : decode cX10_markBack 64 = .ok (.istore 5, 2) := by decide +kernel
theorem dX10_markBack_66 : decode cX10_markBack 66 = .ok (.iload 5, 2) := by decide +kernel
theorem dX10_markBack_68 : decode cX10_markBack 68 = .ok (.aload_n 0, 1) := by decide +kernel
theorem dX10_markBack_69 : decode cX10_markBack 69 = .ok (.getfield 13, 3) := by decide +kernel
theorem dX10_markBack_72 : decode cX10_markBack 72 = .ok (.if_icmp .gt 59, 3) := by decide +kernel
theorem dX10_markBack_75 : decode cX10_markBack 75 = .ok (.iload_n 2, 1) := by decide +kernel
theorem dX10_markBack_76 : decode cX10_markBack 76 = .ok (.aload_n 0, 1) := by decide +kernel
theorem dX10_markBack_77 : decode cX10_markBack 77 = .ok (.getfield 81, 3) := by decide +kernel
theorem dX10_markBack_80 : decode cX10_markBack 80 = .ok (.iconst 1, 1) := by decide +kernel
theorem dX10_markBack_81 : decode cX10_markBack 81 = .ok (.isub, 1) := by decide +kernel
theorem dX10_markBack_82 : decode cX10_markBack 82 = .ok (.if_icmp .ge 49, 3) := by decide +kernel
theorem dX10_markBack_85 : decode cX10_markBack 85 = .ok (.iload 4, 2) := by decide +kernel
theorem dX10_markBack_87 : decode cX10_markBack 87 = .ok (.ifCond .ne 31, 3) := by decide +kernel
theorem dX10_markBack_90 : decode cX10_markBack 90 = .ok (.aload_n 0, 1) := by decide +kernel
theorem dX10_markBack_91 : decode cX10_markBack 91 = .ok (.getfield 65, 3) := by decide +kernel
theorem dX10_markBack_94 : decode cX10_markBack 94 = .ok (.iload_n 2, 1) := by decide +kernel
theorem dX10_markBack_95 : decode cX10_markBack 95 = .ok (.iconst 1, 1) := by decide +kernel
theorem dX10_markBack_96 : decode cX10_markBack 96 = .ok (.iadd, 1) := by decide +kernel
theorem dX10_markBack_97 : decode cX10_markBack 97 = .ok (.invokestatic 132, 3) := by decide +kernel
theorem dX10_markBack_100 : decode cX10_markBack 100 = .ok (.iload 5, 2) := by decide +kernel
theorem dX10_markBack_102 : decode cX10_markBack 102 = .ok (.iadd, 1) := by decide +kernel
theorem dX10_markBack_103 : decode cX10_markBack 103 = .ok (.baload, 1) := by decide +kernel
theorem dX10_markBack_104 : decode cX10_markBack 104 = .ok (.ifCond .eq 18, 3) := by decide +kernel
theorem dX10_markBack_107 : decode cX10_markBack 107 = .ok (.aload_n 0, 1) := by decide +kernel
theorem dX10_markBack_108 : decode cX10_markBack 108 = .ok (.iload_n 2, 1) := by decide +kernel
theorem dX10_markBack_109 : decode cX10_markBack 109 = .ok (.iload_n 3, 1) := by decide +kernel
theorem dX10_markBack_110 : decode cX10_markBack 110 = .ok (.iload 5, 2) := by decide +kernel
theorem dX10_markBack_112 : decode cX10_markBack 112 = .ok (.invokevirtual 149, 3) := by decide +kernel
theorem dX10_markBack_115 : decode cX10_markBack 115 = .ok (.ifCond .eq 7, 3) := by decide +kernel
theorem dX10_markBack_118 : decode cX10_markBack 118 = .ok (.iconst 1, 1) := by decide +kernel
theorem dX10_markBack_119 : decode cX10_markBack 119 = .ok (.goto 4, 3) := by decide +kernel
theorem dX10_markBack_122 : decode cX10_markBack 122 = .ok (.iconst 0, 1) := by decide +kernel
theorem dX10_markBack_123 : decode cX10_markBack 123 = .ok (.istore 4, 2) := by decide +kernel
theorem dX10_markBack_125 : decode cX10_markBack 125 = .ok (.iinc 5 1, 3) := by decide +kernel
theorem dX10_markBack_128 : decode cX10_markBack 128 = .ok (.goto (-62), 3) := by decide +kernel
theorem dX10_markBack_131 : decode cX10_markBack 131 = .ok (.aload_n 0, 1) := by decide +kernel
theorem dX10_markBack_132 : decode cX10_markBack 132 = .ok (.getfield 65, 3) := by decide +kernel
theorem dX10_markBack_135 : decode cX10_markBack 135 = .ok (.iload_n 2, 1) := by decide +kernel
theorem dX10_markBack_136 : decode cX10_markBack 136 = .ok (.invokestatic 132, 3) := by decide +kernel
theorem dX10_markBack_139 : decode cX10_markBack 139 = .ok (.iload_n 3, 1) := by decide +kernel
theorem dX10_markBack_140 : decode cX10_markBack 140 = .ok (.iadd, 1) := by decide +kernel
theorem dX10_markBack_141 : decode cX10_markBack 141 = .ok (.iload 4, 2) := by decide +kernel
theorem dX10_markBack_143 : decode cX10_markBack 143 = .ok (.bastore, 1) := by decide +kernel
theorem dX10_markBack_144 : decode cX10_markBack 144 = .ok (.iinc 3 1, 3) := by decide +kernel
theorem dX10_markBack_147 : decode cX10_markBack 147 = .ok (.goto (-129), 3) := by decide +kernel
theorem dX10_markBack_150 : decode cX10_markBack 150 = .ok (.iinc 2 (-1), 3) := by decide +kernel
theorem dX10_markBack_153 : decode cX10_markBack 153 = .ok (.goto (-146), 3) := by decide +kernel
theorem dX10_markBack_156 : decode cX10_markBack 156 = .ok (.return_, 1) := by decide +kernel
theorem dX10_takes_0 : decode cX10_takes 0 = .ok (.aload_n 0, 1) := by decide +kernel
theorem dX10_takes_1 : decode cX10_takes 1 = .ok (.iload_n 1, 1) := by decide +kernel
theorem dX10_takes_2 : decode cX10_takes 2 = .ok (.invokevirtual 116, 3) := by decide +kernel
theorem dX10_takes_5 : decode cX10_takes 5 = .ok (.iconst 0, 1) := by decide +kernel
theorem dX10_takes_6 : decode cX10_takes 6 = .ok (.istore_n 3, 1) := by decide +kernel
theorem dX10_takes_7 : decode cX10_takes 7 = .ok (.iconst 0, 1) := by decide +kernel
theorem dX10_takes_8 : decode cX10_takes 8 = .ok (.istore 4, 2) := by decide +kernel
theorem dX10_takes_10 : decode cX10_takes 10 = .ok (.aload_n 0, 1) := by decide +kernel
theorem dX10_takes_11 : decode cX10_takes 11 = .ok (.getfield 92, 3) := by decide +kernel
theorem dX10_takes_14 : decode cX10_takes 14 = .ok (.iconst 1, 1) := by decide +kernel
theorem dX10_takes_15 : decode cX10_takes 15 = .ok (.iadd, 1) := by decide +kernel
theorem dX10_takes_16 : decode cX10_takes 16 = .ok (.istore 5, 2) := by decide +kernel
theorem dX10_takes_18 : decode cX10_takes 18 = .ok (.iload 5, 2) := by decide +kernel
theorem dX10_takes_20 : decode cX10_takes 20 = .ok (.iload_n 2, 1) := by decide +kernel
theorem dX10_takes_21 : decode cX10_takes 21 = .ok (.if_icmp .gt 180, 3) := by decide +kernel
theorem dX10_takes_24 : decode cX10_takes 24 = .ok (.iload 4, 2) := by decide +kernel
theorem dX10_takes_26 : decode cX10_takes 26 = .ok (.ifCond .ne 175, 3) := by decide +kernel
theorem dX10_takes_29 : decode cX10_takes 29 = .ok (.iconst 0, 1) := by decide +kernel
theorem dX10_takes_30 : decode cX10_takes 30 = .ok (.istore 6, 2) := by decide +kernel
theorem dX10_takes_32 : decode cX10_takes 32 = .ok (.iload 6, 2) := by decide +kernel
theorem dX10_takes_34 : decode cX10_takes 34 = .ok (.aload_n 0, 1) := by decide +kernel
theorem dX10_takes_35 : decode cX10_takes 35 = .ok (.getfield 113, 3) := by decide +kernel
theorem dX10_takes_38 : decode cX10_takes 38 = .ok (.if_icmp .ge 157, 3) := by decide +kernel
theorem dX10_takes_41 : decode cX10_takes 41 = .ok (.iload 4, 2) := by decide +kernel
theorem dX10_takes_43 : decode cX10_takes 43 = .ok (.ifCond .ne 152, 3) := by decide +kernel
theorem dX10_takes_46 : decode cX10_takes 46 = .ok (.aload_n 0, 1) := by decide +kernel
theorem dX10_takes_47 : decode cX10_takes 47 = .ok (.iload_n 1, 1) := by decide +kernel
theorem dX10_takes_48 : decode cX10_takes 48 = .ok (.iload 6, 2) := by decide +kernel
theorem dX10_takes_50 : decode cX10_takes 50 = .ok (.iload 5, 2) := by decide +kernel
theorem dX10_takes_52 : decode cX10_takes 52 = .ok (.invokevirtual 120, 3) := by decide +kernel
theorem dX10_takes_55 : decode cX10_takes 55 = .ok (.ifCond .eq 134, 3) := by decide +kernel
theorem dX10_takes_58 : decode cX10_takes 58 = .ok (.iload 5, 2) := by decide +kernel
theorem dX10_takes_60 : decode cX10_takes 60 = .ok (.iload_n 2, 1) := by decide +kernel
theorem dX10_takes_61 : decode cX10_takes 61 = .ok (.if_icmp .ne 31, 3) := by decide +kernel
theorem dX10_takes_64 : decode cX10_takes 64 = .ok (.aload_n 0, 1) := by decide +kernel
theorem dX10_takes_65 : decode cX10_takes 65 = .ok (.iload_n 1, 1) := by decide +kernel
theorem dX10_takes_66 : decode cX10_takes 66 = .ok (.iload 6, 2) := by decide +kernel
theorem dX10_takes_68 : decode cX10_takes 68 = .ok (.iload 5, 2) := by decide +kernel
theorem dX10_takes_70 : decode cX10_takes 70 = .ok (.invokevirtual 127, 3) := by decide +kernel
theorem dX10_takes_73 : decode cX10_takes 73 = .ok (.aload_n 0, 1) := by decide +kernel
theorem dX10_takes_74 : decode cX10_takes 74 = .ok (.getfield 53, 3) := by decide +kernel
theorem dX10_takes_77 : decode cX10_takes 77 = .ok (.iload_n 1, 1) := by decide +kernel
theorem dX10_takes_78 : decode cX10_takes 78 = .ok (.invokestatic 132, 3) := by decide +kernel
theorem dX10_takes_81 : decode cX10_takes 81 = .ok (.iload 5, 2) := by decide +kernel
theorem dX10_takes_83 : decode cX10_takes 83 = .ok (.iadd, 1) := by decide +kernel
theorem dX10_takes_84 : decode cX10_takes 84 = .ok (.iaload, 1) := by decide +kernel
theorem dX10_takes_85 : decode cX10_takes 85 = .ok (.if_icmp .ne 7, 3) := by decide +kernel
theorem dX10_takes_88 : decode cX10_takes 88 = .ok (.iconst 1, 1) := by decide +kernel
theorem dX10_takes_89 : decode cX10_takes 89 = .ok (.goto 4, 3) := by decide +kernel
theorem dX10_takes_92 : decode cX10_takes 92 = .ok (.iconst 0, 1) := by decide +kernel
theorem dX10_takes_93 : decode cX10_takes 93 = .ok (.istore 4, 2) := by decide +kernel
theorem dX10_takes_95 : decode cX10_takes 95 = .ok (.iload 4, 2) := by decide +kernel
theorem dX10_takes_97 : decode cX10_takes 97 = .ok (.ifCond .eq 89, 3) := by decide +kernel
theorem dX10_takes_100 : decode cX10_takes 100 = .ok (.aload_n 0, 1) := by decide +kernel
theorem dX10_takes_101 : decode cX10_takes 101 = .ok (.getfield 29, 3) := by decide +kernel
theorem dX10_takes_104 : decode cX10_takes 104 = .ok (.iload_n 1, 1) := by decide +kernel
theorem dX10_takes_105 : decode cX10_takes 105 = .ok (.iload 5, 2) := by decide +kernel
theorem dX10_takes_107 : decode cX10_takes 107 = .ok (.iastore, 1) := by decide +kernel
theorem dX10_takes_108 : decode cX10_takes 108 = .ok (.aload_n 0, 1) := by decide +kernel
theorem dX10_takes_109 : decode cX10_takes 109 = .ok (.getfield 35, 3) := by decide +kernel
theorem dX10_takes_112 : decode cX10_takes 112 = .ok (.iload_n 1, 1) := by decide +kernel
theorem dX10_takes_113 : decode cX10_takes 113 = .ok (.aload_n 0, 1) := by decide +kernel
theorem dX10_takes_114 : decode cX10_takes 114 = .ok (.getfield 53, 3) := by decide +kernel
theorem dX10_takes_117 : decode cX10_takes 117 = .ok (.iload_n 1, 1) := by decide +kernel
theorem dX10_takes_118 : decode cX10_takes 118 = .ok (.invokestatic 132, 3) := by decide +kernel
theorem dX10_takes_121 : decode cX10_takes 121 = .ok (.iload 5, 2) := by decide +kernel
theorem dX10_takes_123 : decode cX10_takes 123 = .ok (.iadd, 1) := by decide +kernel
theorem dX10_takes_124 : decode cX10_takes 124 = .ok (.iaload, 1) := by decide +kernel
theorem dX10_takes_125 : decode cX10_takes 125 = .ok (.iastore, 1) := by decide +kernel
theorem dX10_takes_126 : decode cX10_takes 126 = .ok (.aload_n 0, 1) := by decide +kernel
theorem dX10_takes_127 : decode cX10_takes 127 = .ok (.getfield 38, 3) := by decide +kernel
theorem dX10_takes_130 : decode cX10_takes 130 = .ok (.iload_n 1, 1) := by decide +kernel
theorem dX10_takes_131 : decode cX10_takes 131 = .ok (.iload_n 3, 1) := by decide +kernel
theorem dX10_takes_132 : decode cX10_takes 132 = .ok (.iastore, 1) := by decide +kernel
theorem dX10_takes_133 : decode cX10_takes 133 = .ok (.iconst 0, 1) := by decide +kernel
theorem dX10_takes_134 : decode cX10_takes 134 = .ok (.istore 7, 2) := by decide +kernel
theorem dX10_takes_136 : decode cX10_takes 136 = .ok (.iload 7, 2) := by decide +kernel
theorem dX10_takes_138 : decode cX10_takes 138 = .ok (.iconst 4, 1) := by decide +kernel
theorem dX10_takes_139 : decode cX10_takes 139 = .ok (.if_icmp .ge 47, 3) := by decide +kernel
theorem dX10_takes_142 : decode cX10_takes 142 = .ok (.aload_n 0, 1) := by decide +kernel
theorem dX10_takes_143 : decode cX10_takes 143 = .ok (.getfield 32, 3) := by decide +kernel
theorem dX10_takes_146 : decode cX10_takes 146 = .ok (.iconst 4, 1) := by decide +kernel
theorem dX10_takes_147 : decode cX10_takes 147 = .ok (.iload_n 1, 1) := by decide +kernel
theorem dX10_takes_148 : decode cX10_takes 148 = .ok (.imul, 1) := by decide +kernel
theorem dX10_takes_149 : decode cX10_takes 149 = .ok (.iload 7, 2) := by decide +kernel
theorem dX10_takes_151 : decode cX10_takes 151 = .ok (.iadd, 1) := by decide +kernel
theorem dX10_takes_152 : decode cX10_takes 152 = .ok (.iload 7, 2) := by decide +kernel
theorem dX10_takes_154 : decode cX10_takes 154 = .ok (.aload_n 0, 1) := by decide +kernel
theorem dX10_takes_155 : decode cX10_takes 155 = .ok (.getfield 20, 3) := by decide +kernel
theorem dX10_takes_158 : decode cX10_takes 158 = .ok (.iload_n 1, 1) := by decide +kernel
theorem dX10_takes_159 : decode cX10_takes 159 = .ok (.iaload, 1) := by decide +kernel
theorem dX10_takes_160 : decode cX10_takes 160 = .ok (.if_icmp .ge 18, 3) := by decide +kernel
theorem dX10_takes_163 : decode cX10_takes 163 = .ok (.aload_n 0, 1) := by decide +kernel
theorem dX10_takes_164 : decode cX10_takes 164 = .ok (.getfield 47, 3) := by decide +kernel
theorem dX10_takes_167 : decode cX10_takes 167 = .ok (.iconst 4, 1) := by decide +kernel
theorem dX10_takes_168 : decode cX10_takes 168 = .ok (.iload 6, 2) := by decide +kernel
theorem dX10_takes_170 : decode cX10_takes 170 = .ok (.imul, 1) := by decide +kernel
theorem dX10_takes_171 : decode cX10_takes 171 = .ok (.iload 7, 2) := by decide +kernel
theorem dX10_takes_173 : decode cX10_takes 173 = .ok (.iadd, 1) := by decide +kernel
theorem dX10_takes_174 : decode cX10_takes 174 = .ok (.iaload, 1) := by decide +kernel
theorem dX10_takes_175 : decode cX10_takes 175 = .ok (.goto 4, 3) := by decide +kernel
theorem dX10_takes_178 : decode cX10_takes 178 = .ok (.iconst (-1), 1) := by decide +kernel
theorem dX10_takes_179 : decode cX10_takes 179 = .ok (.iastore, 1) := by decide +kernel
theorem dX10_takes_180 : decode cX10_takes 180 = .ok (.iinc 7 1, 3) := by decide +kernel
theorem dX10_takes_183 : decode cX10_takes 183 = .ok (.goto (-47), 3) := by decide +kernel
theorem dX10_takes_186 : decode cX10_takes 186 = .ok (.iinc 3 1, 3) := by decide +kernel
theorem dX10_takes_189 : decode cX10_takes 189 = .ok (.iinc 6 1, 3) := by decide +kernel
theorem dX10_takes_192 : decode cX10_takes 192 = .ok (.goto (-160), 3) := by decide +kernel
theorem dX10_takes_195 : decode cX10_takes 195 = .ok (.iinc 5 1, 3) := by decide +kernel
theorem dX10_takes_198 : decode cX10_takes 198 = .ok (.goto (-180), 3) := by decide +kernel
theorem dX10_takes_201 : decode cX10_takes 201 = .ok (.return_, 1) := by decide +kernel
theorem dX10_plan_0 : decode cX10_plan 0 = .ok (.aload_n 0, 1) := by decide +kernel
theorem dX10_plan_1 : decode cX10_plan 1 = .ok (.getfield 81, 3) := by decide +kernel
theorem dX10_plan_4 : decode cX10_plan 4 = .ok (.ifCond .ne 6, 3) := by decide +kernel
theorem dX10_plan_7 : decode cX10_plan 7 = .ok (.bipush (-4), 2) := by decide +kernel
theorem dX10_plan_9 : decode cX10_plan 9 = .ok (.ireturn, 1) := by decide +kernel
theorem dX10_plan_10 : decode cX10_plan 10 = .ok (.aload_n 0, 1) := by decide +kernel
theorem dX10_plan_11 : decode cX10_plan 11 = .ok (.iconst 0, 1) := by decide +kernel
theorem dX10_plan_12 : decode cX10_plan 12 = .ok (.putfield 88, 3) := by decide +kernel
theorem dX10_plan_15 : decode cX10_plan 15 = .ok (.aload_n 0, 1) := by decide +kernel
theorem dX10_plan_16 : decode cX10_plan 16 = .ok (.invokevirtual 152, 3) := by decide +kernel
theorem dX10_plan_19 : decode cX10_plan 19 = .ok (.istore_n 1, 1) := by decide +kernel
theorem dX10_plan_20 : decode cX10_plan 20 = .ok (.iload_n 1, 1) := by decide +kernel
theorem dX10_plan_21 : decode cX10_plan 21 = .ok (.ldc 131, 2) := by decide +kernel
theorem dX10_plan_23 : decode cX10_plan 23 = .ok (.if_icmp .ne 5, 3) := by decide +kernel
theorem dX10_plan_26 : decode cX10_plan 26 = .ok (.iconst (-1), 1) := by decide +kernel
theorem dX10_plan_27 : decode cX10_plan 27 = .ok (.ireturn, 1) := by decide +kernel
theorem dX10_plan_28 : decode cX10_plan 28 = .ok (.aload_n 0, 1) := by decide +kernel
theorem dX10_plan_29 : decode cX10_plan 29 = .ok (.iconst 1, 1) := by decide +kernel
theorem dX10_plan_30 : decode cX10_plan 30 = .ok (.putfield 88, 3) := by decide +kernel
theorem dX10_plan_33 : decode cX10_plan 33 = .ok (.aload_n 0, 1) := by decide +kernel
theorem dX10_plan_34 : decode cX10_plan 34 = .ok (.iload_n 1, 1) := by decide +kernel
theorem dX10_plan_35 : decode cX10_plan 35 = .ok (.invokevirtual 156, 3) := by decide +kernel
theorem dX10_plan_38 : decode cX10_plan 38 = .ok (.iconst (-1), 1) := by decide +kernel
theorem dX10_plan_39 : decode cX10_plan 39 = .ok (.istore_n 2, 1) := by decide +kernel
theorem dX10_plan_40 : decode cX10_plan 40 = .ok (.iconst 0, 1) := by decide +kernel
theorem dX10_plan_41 : decode cX10_plan 41 = .ok (.istore_n 3, 1) := by decide +kernel
theorem dX10_plan_42 : decode cX10_plan 42 = .ok (.iload_n 3, 1) := by decide +kernel
theorem dX10_plan_43 : decode cX10_plan 43 = .ok (.aload_n 0, 1) := by decide +kernel
theorem dX10_plan_44 : decode cX10_plan 44 = .ok (.getfield 81, 3) := by decide +kernel
theorem dX10_plan_47 : decode cX10_plan 47 = .ok (.if_icmp .ge 66, 3) := by decide +kernel
theorem dX10_plan_50 : decode cX10_plan 50 = .ok (.aload_n 0, 1) := by decide +kernel
theorem dX10_plan_51 : decode cX10_plan 51 = .ok (.getfield 92, 3) := by decide +kernel
theorem dX10_plan_54 : decode cX10_plan 54 = .ok (.iconst 1, 1) := by decide +kernel
theorem dX10_plan_55 : decode cX10_plan 55 = .ok (.iadd, 1) := by decide +kernel
theorem dX10_plan_56 : decode cX10_plan 56 = .ok (.istore 4, 2) := by decide +kernel
theorem dX10_plan_58 : decode cX10_plan 58 = .ok (.aload_n 0, 1) := by decide +kernel
theorem dX10_plan_59 : decode cX10_plan 59 = .ok (.getfield 65, 3) := by decide +kernel
theorem dX10_plan_62 : decode cX10_plan 62 = .ok (.iload_n 3, 1) := by decide +kernel
theorem dX10_plan_63 : decode cX10_plan 63 = .ok (.invokestatic 132, 3) := by decide +kernel
theorem dX10_plan_66 : decode cX10_plan 66 = .ok (.iload 4, 2) := by decide +kernel
theorem dX10_plan_68 : decode cX10_plan 68 = .ok (.iadd, 1) := by decide +kernel
theorem dX10_plan_69 : decode cX10_plan 69 = .ok (.baload, 1) := by decide +kernel
theorem dX10_plan_70 : decode cX10_plan 70 = .ok (.ifCond .eq 21, 3) := by decide +kernel
theorem dX10_plan_73 : decode cX10_plan 73 = .ok (.iload_n 2, 1) := by decide +kernel
theorem dX10_plan_74 : decode cX10_plan 74 = .ok (.iconst (-1), 1) := by decide +kernel
theorem dX10_plan_75 : decode cX10_plan 75 = .ok (.if_icmp .eq 22, 3) := by decide +kernel
theorem dX10_plan_78 : decode cX10_plan 78 = .ok (.aload_n 0, 1) := by decide +kernel
theorem dX10_plan_79 : decode cX10_plan 79 = .ok (.iload_n 3, 1) := by decide +kernel
theorem dX10_plan_80 : decode cX10_plan 80 = .ok (.iconst 1, 1) := by decide +kernel
theorem dX10_plan_81 : decode cX10_plan 81 = .ok (.isub, 1) := by decide +kernel
theorem dX10_plan_82 : decode cX10_plan 82 = .ok (.iload_n 2, 1) := by decide +kernel
theorem dX10_plan_83 : decode cX10_plan 83 = .ok (.iload 4, 2) := by decide +kernel
theorem dX10_plan_85 : decode cX10_plan 85 = .ok (.invokevirtual 149, 3) := by decide +kernel
theorem dX10_plan_88 : decode cX10_plan 88 = .ok (.ifCond .ne 9, 3) := by decide +kernel
theorem dX10_plan_91 : decode cX10_plan 91 = .ok (.iinc 4 1, 3) := by decide +kernel
theorem dX10_plan_94 : decode cX10_plan 94 = .ok (.goto (-36), 3) := by decide +kernel
theorem dX10_plan_97 : decode cX10_plan 97 = .ok (.aload_n 0, 1) := by decide +kernel
theorem dX10_plan_98 : decode cX10_plan 98 = .ok (.iload_n 3, 1) := by decide +kernel
theorem dX10_plan_99 : decode cX10_plan 99 = .ok (.iload 4, 2) := by decide +kernel
theorem dX10_plan_101 : decode cX10_plan 101 = .ok (.invokevirtual 159, 3) := by decide +kernel
theorem dX10_plan_104 : decode cX10_plan 104 = .ok (.iload 4, 2) := by decide +kernel
theorem dX10_plan_106 : decode cX10_plan 106 = .ok (.istore_n 2, 1) := by decide +kernel
theorem dX10_plan_107 : decode cX10_plan 107 = .ok (.iinc 3 1, 3) := by decide +kernel
theorem dX10_plan_110 : decode cX10_plan 110 = .ok (.goto (-68), 3) := by decide +kernel
theorem dX10_plan_113 : decode cX10_plan 113 = .ok (.iload_n 1, 1) := by decide +kernel
theorem dX10_plan_114 : decode cX10_plan 114 = .ok (.ireturn, 1) := by decide +kernel
theorem dX10_planned_0 : decode cX10_planned 0 = .ok (.iload_n 2, 1) := by decide +kernel
theorem dX10_planned_1 : decode cX10_planned 1 = .ok (.iconst 0, 1) := by decide +kernel
theorem dX10_planned_2 : decode cX10_planned 2 = .ok (.bipush 6, 2) := by decide +kernel
theorem dX10_planned_4 : decode cX10_planned 4 = .ok (.invokestatic 84, 3) := by decide +kernel
theorem dX10_planned_7 : decode cX10_planned 7 = .ok (.ifCond .ne 6, 3) := by decide +kernel
theorem dX10_planned_10 : decode cX10_planned 10 = .ok (.bipush (-2), 2) := by decide +kernel
theorem dX10_planned_12 : decode cX10_planned 12 = .ok (.ireturn, 1) := by decide +kernel
theorem dX10_planned_13 : decode cX10_planned 13 = .ok (.aload_n 0, 1) := by decide +kernel
theorem dX10_planned_14 : decode cX10_planned 14 = .ok (.getfield 88, 3) := by decide +kernel
theorem dX10_planned_17 : decode cX10_planned 17 = .ok (.ifCond .eq 11, 3) := by decide +kernel
theorem dX10_planned_20 : decode cX10_planned 20 = .ok (.aload_n 0, 1) := by decide +kernel
theorem dX10_planned_21 : decode cX10_planned 21 = .ok (.iload_n 1, 1) := by decide +kernel
theorem dX10_planned_22 : decode cX10_planned 22 = .ok (.invokevirtual 99, 3) := by decide +kernel
theorem dX10_planned_25 : decode cX10_planned 25 = .ok (.ifCond .ne 5, 3) := by decide +kernel
theorem dX10_planned_28 : decode cX10_planned 28 = .ok (.iconst (-1), 1) := by decide +kernel
theorem dX10_planned_29 : decode cX10_planned 29 = .ok (.ireturn, 1) := by decide +kernel
theorem dX10_planned_30 : decode cX10_planned 30 = .ok (.iload_n 2, 1) := by decide +kernel
theorem dX10_planned_31 : decode cX10_planned 31 = .ok (.ifCond .ne 12, 3) := by decide +kernel
theorem dX10_planned_34 : decode cX10_planned 34 = .ok (.aload_n 0, 1) := by decide +kernel
theorem dX10_planned_35 : decode cX10_planned 35 = .ok (.getfield 29, 3) := by decide +kernel
theorem dX10_planned_38 : decode cX10_planned 38 = .ok (.iload_n 1, 1) := by decide +kernel
theorem dX10_planned_39 : decode cX10_planned 39 = .ok (.iaload, 1) := by decide +kernel
theorem dX10_planned_40 : decode cX10_planned 40 = .ok (.goto 44, 3) := by decide +kernel
theorem dX10_planned_43 : decode cX10_planned 43 = .ok (.iload_n 2, 1) := by decide +kernel
theorem dX10_planned_44 : decode cX10_planned 44 = .ok (.iconst 5, 1) := by decide +kernel
theorem dX10_planned_45 : decode cX10_planned 45 = .ok (.if_icmp .ne 12, 3) := by decide +kernel
theorem dX10_planned_48 : decode cX10_planned 48 = .ok (.aload_n 0, 1) := by decide +kernel
theorem dX10_planned_49 : decode cX10_planned 49 = .ok (.getfield 35, 3) := by decide +kernel
theorem dX10_planned_52 : decode cX10_planned 52 = .ok (.iload_n 1, 1) := by decide +kernel
theorem dX10_planned_53 : decode cX10_planned 53 = .ok (.iaload, 1) := by decide +kernel
theorem dX10_planned_54 : decode cX10_planned 54 = .ok (.goto 30, 3) := by decide +kernel
theorem dX10_planned_57 : decode cX10_planned 57 = .ok (.iload_n 2, 1) := by decide +kernel
theorem dX10_planned_58 : decode cX10_planned 58 = .ok (.bipush 6, 2) := by decide +kernel
theorem dX10_planned_60 : decode cX10_planned 60 = .ok (.if_icmp .ne 12, 3) := by decide +kernel
theorem dX10_planned_63 : decode cX10_planned 63 = .ok (.aload_n 0, 1) := by decide +kernel
theorem dX10_planned_64 : decode cX10_planned 64 = .ok (.getfield 38, 3) := by decide +kernel
theorem dX10_planned_67 : decode cX10_planned 67 = .ok (.iload_n 1, 1) := by decide +kernel
theorem dX10_planned_68 : decode cX10_planned 68 = .ok (.iaload, 1) := by decide +kernel
theorem dX10_planned_69 : decode cX10_planned 69 = .ok (.goto 15, 3) := by decide +kernel
theorem dX10_planned_72 : decode cX10_planned 72 = .ok (.aload_n 0, 1) := by decide +kernel
theorem dX10_planned_73 : decode cX10_planned 73 = .ok (.getfield 32, 3) := by decide +kernel
theorem dX10_planned_76 : decode cX10_planned 76 = .ok (.iconst 4, 1) := by decide +kernel
theorem dX10_planned_77 : decode cX10_planned 77 = .ok (.iload_n 1, 1) := by decide +kernel
theorem dX10_planned_78 : decode cX10_planned 78 = .ok (.imul, 1) := by decide +kernel
theorem dX10_planned_79 : decode cX10_planned 79 = .ok (.iload_n 2, 1) := by decide +kernel
theorem dX10_planned_80 : decode cX10_planned 80 = .ok (.iadd, 1) := by decide +kernel
theorem dX10_planned_81 : decode cX10_planned 81 = .ok (.iconst 1, 1) := by decide +kernel
theorem dX10_planned_82 : decode cX10_planned 82 = .ok (.isub, 1) := by decide +kernel
theorem dX10_planned_83 : decode cX10_planned 83 = .ok (.iaload, 1) := by decide +kernel
theorem dX10_planned_84 : decode cX10_planned 84 = .ok (.ireturn, 1) := by decide +kernel
theorem dX10_ties_0 : decode cX10_ties 0 = .ok (.aload_n 0, 1) := by decide +kernel
theorem dX10_ties_1 : decode cX10_ties 1 = .ok (.getfield 81, 3) := by decide +kernel
theorem dX10_ties_4 : decode cX10_ties 4 = .ok (.ifCond .ne 6, 3) := by decide +kernel
theorem dX10_ties_7 : decode cX10_ties 7 = .ok (.bipush (-4), 2) := by decide +kernel
theorem dX10_ties_9 : decode cX10_ties 9 = .ok (.ireturn, 1) := by decide +kernel
theorem dX10_ties_10 : decode cX10_ties 10 = .ok (.aload_n 0, 1) := by decide +kernel
theorem dX10_ties_11 : decode cX10_ties 11 = .ok (.invokevirtual 152, 3) := by decide +kernel
theorem dX10_ties_14 : decode cX10_ties 14 = .ok (.istore_n 1, 1) := by decide +kernel
theorem dX10_ties_15 : decode cX10_ties 15 = .ok (.iload_n 1, 1) := by decide +kernel
theorem dX10_ties_16 : decode cX10_ties 16 = .ok (.ldc 131, 2) := by decide +kernel
theorem dX10_ties_18 : decode cX10_ties 18 = .ok (.if_icmp .ne 5, 3) := by decide +kernel
theorem dX10_ties_21 : decode cX10_ties 21 = .ok (.iconst 0, 1) := by decide +kernel
theorem dX10_ties_22 : decode cX10_ties 22 = .ok (.ireturn, 1) := by decide +kernel
theorem dX10_ties_23 : decode cX10_ties 23 = .ok (.lconst 0, 1) := by decide +kernel
theorem dX10_ties_24 : decode cX10_ties 24 = .ok (.lstore_n 2, 1) := by decide +kernel
theorem dX10_ties_25 : decode cX10_ties 25 = .ok (.aload_n 0, 1) := by decide +kernel
theorem dX10_ties_26 : decode cX10_ties 26 = .ok (.getfield 92, 3) := by decide +kernel
theorem dX10_ties_29 : decode cX10_ties 29 = .ok (.iconst 1, 1) := by decide +kernel
theorem dX10_ties_30 : decode cX10_ties 30 = .ok (.iadd, 1) := by decide +kernel
theorem dX10_ties_31 : decode cX10_ties 31 = .ok (.istore 4, 2) := by decide +kernel
theorem dX10_ties_33 : decode cX10_ties 33 = .ok (.iload 4, 2) := by decide +kernel
theorem dX10_ties_35 : decode cX10_ties 35 = .ok (.aload_n 0, 1) := by decide +kernel
theorem dX10_ties_36 : decode cX10_ties 36 = .ok (.getfield 13, 3) := by decide +kernel
theorem dX10_ties_39 : decode cX10_ties 39 = .ok (.if_icmp .gt 55, 3) := by decide +kernel
theorem dX10_ties_42 : decode cX10_ties 42 = .ok (.lload_n 2, 1) := by decide +kernel
theorem dX10_ties_43 : decode cX10_ties 43 = .ok (.aload_n 0, 1) := by decide +kernel
theorem dX10_ties_44 : decode cX10_ties 44 = .ok (.getfield 59, 3) := by decide +kernel
theorem dX10_ties_47 : decode cX10_ties 47 = .ok (.aload_n 0, 1) := by decide +kernel
theorem dX10_ties_48 : decode cX10_ties 48 = .ok (.getfield 81, 3) := by decide +kernel
theorem dX10_ties_51 : decode cX10_ties 51 = .ok (.iconst 1, 1) := by decide +kernel
theorem dX10_ties_52 : decode cX10_ties 52 = .ok (.isub, 1) := by decide +kernel
theorem dX10_ties_53 : decode cX10_ties 53 = .ok (.invokestatic 132, 3) := by decide +kernel
theorem dX10_ties_56 : decode cX10_ties 56 = .ok (.iload 4, 2) := by decide +kernel
theorem dX10_ties_58 : decode cX10_ties 58 = .ok (.iadd, 1) := by decide +kernel
theorem dX10_ties_59 : decode cX10_ties 59 = .ok (.iaload, 1) := by decide +kernel
theorem dX10_ties_60 : decode cX10_ties 60 = .ok (.iload_n 1, 1) := by decide +kernel
theorem dX10_ties_61 : decode cX10_ties 61 = .ok (.if_icmp .ne 24, 3) := by decide +kernel
theorem dX10_ties_64 : decode cX10_ties 64 = .ok (.aload_n 0, 1) := by decide +kernel
theorem dX10_ties_65 : decode cX10_ties 65 = .ok (.getfield 62, 3) := by decide +kernel
theorem dX10_ties_68 : decode cX10_ties 68 = .ok (.aload_n 0, 1) := by decide +kernel
theorem dX10_ties_69 : decode cX10_ties 69 = .ok (.getfield 81, 3) := by decide +kernel
theorem dX10_ties_72 : decode cX10_ties 72 = .ok (.iconst 1, 1) := by decide +kernel
theorem dX10_ties_73 : decode cX10_ties 73 = .ok (.isub, 1) := by decide +kernel
theorem dX10_ties_74 : decode cX10_ties 74 = .ok (.invokestatic 132, 3) := by decide +kernel
theorem dX10_ties_77 : decode cX10_ties 77 = .ok (.iload 4, 2) := by decide +kernel
theorem dX10_ties_79 : decode cX10_ties 79 = .ok (.iadd, 1) := by decide +kernel
theorem dX10_ties_80 : decode cX10_ties 80 = .ok (.iaload, 1) := by decide +kernel
theorem dX10_ties_81 : decode cX10_ties 81 = .ok (.i2l, 1) := by decide +kernel
theorem dX10_ties_82 : decode cX10_ties 82 = .ok (.goto 4, 3) := by decide +kernel
theorem dX10_ties_85 : decode cX10_ties 85 = .ok (.lconst 0, 1) := by decide +kernel
theorem dX10_ties_86 : decode cX10_ties 86 = .ok (.ladd, 1) := by decide +kernel
theorem dX10_ties_87 : decode cX10_ties 87 = .ok (.lstore_n 2, 1) := by decide +kernel
theorem dX10_ties_88 : decode cX10_ties 88 = .ok (.iinc 4 1, 3) := by decide +kernel
theorem dX10_ties_91 : decode cX10_ties 91 = .ok (.goto (-58), 3) := by decide +kernel
theorem dX10_ties_94 : decode cX10_ties 94 = .ok (.lload_n 2, 1) := by decide +kernel
theorem dX10_ties_95 : decode cX10_ties 95 = .ok (.invokestatic 145, 3) := by decide +kernel
theorem dX10_ties_98 : decode cX10_ties 98 = .ok (.ireturn, 1) := by decide +kernel
theorem dX10_sign_0 : decode cX10_sign 0 = .ok (.iload_n 1, 1) := by decide +kernel
theorem dX10_sign_1 : decode cX10_sign 1 = .ok (.iconst 1, 1) := by decide +kernel
theorem dX10_sign_2 : decode cX10_sign 2 = .ok (.bipush 127, 2) := by decide +kernel
theorem dX10_sign_4 : decode cX10_sign 4 = .ok (.invokestatic 84, 3) := by decide +kernel
theorem dX10_sign_7 : decode cX10_sign 7 = .ok (.ifCond .ne 6, 3) := by decide +kernel
theorem dX10_sign_10 : decode cX10_sign 10 = .ok (.bipush (-2), 2) := by decide +kernel
theorem dX10_sign_12 : decode cX10_sign 12 = .ok (.ireturn, 1) := by decide +kernel
theorem dX10_sign_13 : decode cX10_sign 13 = .ok (.aload_n 0, 1) := by decide +kernel
theorem dX10_sign_14 : decode cX10_sign 14 = .ok (.getfield 106, 3) := by decide +kernel
theorem dX10_sign_17 : decode cX10_sign 17 = .ok (.sipush 2000, 3) := by decide +kernel
theorem dX10_sign_20 : decode cX10_sign 20 = .ok (.if_icmp .ne 6, 3) := by decide +kernel
theorem dX10_sign_23 : decode cX10_sign 23 = .ok (.bipush (-5), 2) := by decide +kernel
theorem dX10_sign_25 : decode cX10_sign 25 = .ok (.ireturn, 1) := by decide +kernel
theorem dX10_sign_26 : decode cX10_sign 26 = .ok (.aload_n 0, 1) := by decide +kernel
theorem dX10_sign_27 : decode cX10_sign 27 = .ok (.iload_n 1, 1) := by decide +kernel
theorem dX10_sign_28 : decode cX10_sign 28 = .ok (.invokevirtual 163, 3) := by decide +kernel
theorem dX10_sign_31 : decode cX10_sign 31 = .ok (.aload_n 0, 1) := by decide +kernel
theorem dX10_sign_32 : decode cX10_sign 32 = .ok (.getfield 106, 3) := by decide +kernel
theorem dX10_sign_35 : decode cX10_sign 35 = .ok (.ireturn, 1) := by decide +kernel
theorem dX10_put_0 : decode cX10_put 0 = .ok (.aload_n 0, 1) := by decide +kernel
theorem dX10_put_1 : decode cX10_put 1 = .ok (.getfield 41, 3) := by decide +kernel
theorem dX10_put_4 : decode cX10_put 4 = .ok (.aload_n 0, 1) := by decide +kernel
theorem dX10_put_5 : decode cX10_put 5 = .ok (.getfield 106, 3) := by decide +kernel
theorem dX10_put_8 : decode cX10_put 8 = .ok (.iload_n 1, 1) := by decide +kernel
theorem dX10_put_9 : decode cX10_put 9 = .ok (.iastore, 1) := by decide +kernel
theorem dX10_put_10 : decode cX10_put 10 = .ok (.aload_n 0, 1) := by decide +kernel
theorem dX10_put_11 : decode cX10_put 11 = .ok (.dup, 1) := by decide +kernel
theorem dX10_put_12 : decode cX10_put 12 = .ok (.getfield 106, 3) := by decide +kernel
