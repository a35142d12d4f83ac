theorem dX10_put_15 : decode cX10_put 15 = .ok (.iconst 1, 1) := by decide +kernel
theorem dX10_put_16 : decode cX10_put 16 = .ok (.iadd, 1) := by decide +kernel
theorem dX10_put_17 : decode cX10_put 17 = .ok (.putfield 106, 3) := by decide +kernel
theorem dX10_put_20 : decode cX10_put 20 = .ok (.return_, 1) := by decide +kernel
theorem dX10_tape_0 : decode cX10_tape 0 = .ok (.iload_n 1, 1) := by decide +kernel
theorem dX10_tape_1 : decode cX10_tape 1 = .ok (.iconst 0, 1) := by decide +kernel
theorem dX10_tape_2 : decode cX10_tape 2 = .ok (.aload_n 0, 1) := by decide +kernel
theorem dX10_tape_3 : decode cX10_tape 3 = .ok (.getfield 106, 3) := by decide +kernel
theorem dX10_tape_6 : decode cX10_tape 6 = .ok (.iconst 1, 1) := by decide +kernel
theorem dX10_tape_7 : decode cX10_tape 7 = .ok (.isub, 1) := by decide +kernel
theorem dX10_tape_8 : decode cX10_tape 8 = .ok (.invokestatic 84, 3) := by decide +kernel
theorem dX10_tape_11 : decode cX10_tape 11 = .ok (.ifCond .eq 12, 3) := by decide +kernel
theorem dX10_tape_14 : decode cX10_tape 14 = .ok (.aload_n 0, 1) := by decide +kernel
theorem dX10_tape_15 : decode cX10_tape 15 = .ok (.getfield 41, 3) := by decide +kernel
theorem dX10_tape_18 : decode cX10_tape 18 = .ok (.iload_n 1, 1) := by decide +kernel
theorem dX10_tape_19 : decode cX10_tape 19 = .ok (.iaload, 1) := by decide +kernel
theorem dX10_tape_20 : decode cX10_tape 20 = .ok (.goto 4, 3) := by decide +kernel
theorem dX10_tape_23 : decode cX10_tape 23 = .ok (.iconst (-1), 1) := by decide +kernel
theorem dX10_tape_24 : decode cX10_tape 24 = .ok (.ireturn, 1) := by decide +kernel
theorem dX10_empty_0 : decode cX10_empty 0 = .ok (.aload_n 0, 1) := by decide +kernel
theorem dX10_empty_1 : decode cX10_empty 1 = .ok (.getfield 106, 3) := by decide +kernel
theorem dX10_empty_4 : decode cX10_empty 4 = .ok (.istore_n 1, 1) := by decide +kernel
theorem dX10_empty_5 : decode cX10_empty 5 = .ok (.aload_n 0, 1) := by decide +kernel
theorem dX10_empty_6 : decode cX10_empty 6 = .ok (.iconst 0, 1) := by decide +kernel
theorem dX10_empty_7 : decode cX10_empty 7 = .ok (.putfield 106, 3) := by decide +kernel
theorem dX10_empty_10 : decode cX10_empty 10 = .ok (.iload_n 1, 1) := by decide +kernel
theorem dX10_empty_11 : decode cX10_empty 11 = .ok (.ireturn, 1) := by decide +kernel
theorem dX10_numberOn_0 : decode cX10_numberOn 0 = .ok (.iconst 0, 1) := by decide +kernel
theorem dX10_numberOn_1 : decode cX10_numberOn 1 = .ok (.istore_n 3, 1) := by decide +kernel
theorem dX10_numberOn_2 : decode cX10_numberOn 2 = .ok (.iload_n 3, 1) := by decide +kernel
theorem dX10_numberOn_3 : decode cX10_numberOn 3 = .ok (.aload_n 0, 1) := by decide +kernel
theorem dX10_numberOn_4 : decode cX10_numberOn 4 = .ok (.getfield 20, 3) := by decide +kernel
theorem dX10_numberOn_7 : decode cX10_numberOn 7 = .ok (.iload_n 1, 1) := by decide +kernel
theorem dX10_numberOn_8 : decode cX10_numberOn 8 = .ok (.iaload, 1) := by decide +kernel
theorem dX10_numberOn_9 : decode cX10_numberOn 9 = .ok (.if_icmp .ge 44, 3) := by decide +kernel
theorem dX10_numberOn_12 : decode cX10_numberOn 12 = .ok (.aload_n 0, 1) := by decide +kernel
theorem dX10_numberOn_13 : decode cX10_numberOn 13 = .ok (.getfield 32, 3) := by decide +kernel
theorem dX10_numberOn_16 : decode cX10_numberOn 16 = .ok (.iconst 4, 1) := by decide +kernel
theorem dX10_numberOn_17 : decode cX10_numberOn 17 = .ok (.iload_n 1, 1) := by decide +kernel
theorem dX10_numberOn_18 : decode cX10_numberOn 18 = .ok (.imul, 1) := by decide +kernel
theorem dX10_numberOn_19 : decode cX10_numberOn 19 = .ok (.iload_n 3, 1) := by decide +kernel
theorem dX10_numberOn_20 : decode cX10_numberOn 20 = .ok (.iadd, 1) := by decide +kernel
theorem dX10_numberOn_21 : decode cX10_numberOn 21 = .ok (.iaload, 1) := by decide +kernel
theorem dX10_numberOn_22 : decode cX10_numberOn 22 = .ok (.iload_n 2, 1) := by decide +kernel
theorem dX10_numberOn_23 : decode cX10_numberOn 23 = .ok (.if_icmp .ne 24, 3) := by decide +kernel
theorem dX10_numberOn_26 : decode cX10_numberOn 26 = .ok (.aload_n 0, 1) := by decide +kernel
theorem dX10_numberOn_27 : decode cX10_numberOn 27 = .ok (.iload_n 2, 1) := by decide +kernel
theorem dX10_numberOn_28 : decode cX10_numberOn 28 = .ok (.aload_n 0, 1) := by decide +kernel
theorem dX10_numberOn_29 : decode cX10_numberOn 29 = .ok (.getfield 23, 3) := by decide +kernel
theorem dX10_numberOn_32 : decode cX10_numberOn 32 = .ok (.iconst 4, 1) := by decide +kernel
theorem dX10_numberOn_33 : decode cX10_numberOn 33 = .ok (.iload_n 1, 1) := by decide +kernel
theorem dX10_numberOn_34 : decode cX10_numberOn 34 = .ok (.imul, 1) := by decide +kernel
theorem dX10_numberOn_35 : decode cX10_numberOn 35 = .ok (.iload_n 3, 1) := by decide +kernel
theorem dX10_numberOn_36 : decode cX10_numberOn 36 = .ok (.iadd, 1) := by decide +kernel
theorem dX10_numberOn_37 : decode cX10_numberOn 37 = .ok (.iaload, 1) := by decide +kernel
theorem dX10_numberOn_38 : decode cX10_numberOn 38 = .ok (.invokevirtual 109, 3) := by decide +kernel
theorem dX10_numberOn_41 : decode cX10_numberOn 41 = .ok (.aload_n 0, 1) := by decide +kernel
theorem dX10_numberOn_42 : decode cX10_numberOn 42 = .ok (.getfield 92, 3) := by decide +kernel
theorem dX10_numberOn_45 : decode cX10_numberOn 45 = .ok (.isub, 1) := by decide +kernel
theorem dX10_numberOn_46 : decode cX10_numberOn 46 = .ok (.ireturn, 1) := by decide +kernel
theorem dX10_numberOn_47 : decode cX10_numberOn 47 = .ok (.iinc 3 1, 3) := by decide +kernel
theorem dX10_numberOn_50 : decode cX10_numberOn 50 = .ok (.goto (-48), 3) := by decide +kernel
theorem dX10_numberOn_53 : decode cX10_numberOn 53 = .ok (.iconst (-1), 1) := by decide +kernel
theorem dX10_numberOn_54 : decode cX10_numberOn 54 = .ok (.ireturn, 1) := by decide +kernel
theorem dX10_write_0 : decode cX10_write 0 = .ok (.aload_n 0, 1) := by decide +kernel
theorem dX10_write_1 : decode cX10_write 1 = .ok (.getfield 88, 3) := by decide +kernel
theorem dX10_write_4 : decode cX10_write 4 = .ok (.ifCond .ne 6, 3) := by decide +kernel
theorem dX10_write_7 : decode cX10_write 7 = .ok (.bipush (-4), 2) := by decide +kernel
theorem dX10_write_9 : decode cX10_write 9 = .ok (.ireturn, 1) := by decide +kernel
theorem dX10_write_10 : decode cX10_write 10 = .ok (.aload_n 0, 1) := by decide +kernel
theorem dX10_write_11 : decode cX10_write 11 = .ok (.iconst 0, 1) := by decide +kernel
theorem dX10_write_12 : decode cX10_write 12 = .ok (.putfield 106, 3) := by decide +kernel
theorem dX10_write_15 : decode cX10_write 15 = .ok (.aload_n 0, 1) := by decide +kernel
theorem dX10_write_16 : decode cX10_write 16 = .ok (.getfield 78, 3) := by decide +kernel
theorem dX10_write_19 : decode cX10_write 19 = .ok (.iconst 1, 1) := by decide +kernel
theorem dX10_write_20 : decode cX10_write 20 = .ok (.isub, 1) := by decide +kernel
theorem dX10_write_21 : decode cX10_write 21 = .ok (.istore_n 1, 1) := by decide +kernel
theorem dX10_write_22 : decode cX10_write 22 = .ok (.iload_n 1, 1) := by decide +kernel
theorem dX10_write_23 : decode cX10_write 23 = .ok (.ifCond .lt 165, 3) := by decide +kernel
theorem dX10_write_26 : decode cX10_write 26 = .ok (.aload_n 0, 1) := by decide +kernel
theorem dX10_write_27 : decode cX10_write 27 = .ok (.bipush 124, 2) := by decide +kernel
theorem dX10_write_29 : decode cX10_write 29 = .ok (.invokevirtual 163, 3) := by decide +kernel
theorem dX10_write_32 : decode cX10_write 32 = .ok (.iconst 0, 1) := by decide +kernel
theorem dX10_write_33 : decode cX10_write 33 = .ok (.istore_n 2, 1) := by decide +kernel
theorem dX10_write_34 : decode cX10_write 34 = .ok (.iload_n 2, 1) := by decide +kernel
theorem dX10_write_35 : decode cX10_write 35 = .ok (.aload_n 0, 1) := by decide +kernel
theorem dX10_write_36 : decode cX10_write 36 = .ok (.getfield 81, 3) := by decide +kernel
theorem dX10_write_39 : decode cX10_write 39 = .ok (.if_icmp .ge 125, 3) := by decide +kernel
theorem dX10_write_42 : decode cX10_write 42 = .ok (.iconst 1, 1) := by decide +kernel
theorem dX10_write_43 : decode cX10_write 43 = .ok (.istore_n 3, 1) := by decide +kernel
theorem dX10_write_44 : decode cX10_write 44 = .ok (.iconst 0, 1) := by decide +kernel
theorem dX10_write_45 : decode cX10_write 45 = .ok (.istore 4, 2) := by decide +kernel
theorem dX10_write_47 : decode cX10_write 47 = .ok (.iload 4, 2) := by decide +kernel
theorem dX10_write_49 : decode cX10_write 49 = .ok (.aload_n 0, 1) := by decide +kernel
theorem dX10_write_50 : decode cX10_write 50 = .ok (.getfield 78, 3) := by decide +kernel
theorem dX10_write_53 : decode cX10_write 53 = .ok (.if_icmp .ge 27, 3) := by decide +kernel
theorem dX10_write_56 : decode cX10_write 56 = .ok (.aload_n 0, 1) := by decide +kernel
theorem dX10_write_57 : decode cX10_write 57 = .ok (.iload_n 2, 1) := by decide +kernel
theorem dX10_write_58 : decode cX10_write 58 = .ok (.iload 4, 2) := by decide +kernel
theorem dX10_write_60 : decode cX10_write 60 = .ok (.invokevirtual 166, 3) := by decide +kernel
theorem dX10_write_63 : decode cX10_write 63 = .ok (.bipush 9, 2) := by decide +kernel
theorem dX10_write_65 : decode cX10_write 65 = .ok (.if_icmp .le 7, 3) := by decide +kernel
theorem dX10_write_68 : decode cX10_write 68 = .ok (.iconst 2, 1) := by decide +kernel
theorem dX10_write_69 : decode cX10_write 69 = .ok (.goto 4, 3) := by decide +kernel
theorem dX10_write_72 : decode cX10_write 72 = .ok (.iload_n 3, 1) := by decide +kernel
theorem dX10_write_73 : decode cX10_write 73 = .ok (.istore_n 3, 1) := by decide +kernel
theorem dX10_write_74 : decode cX10_write 74 = .ok (.iinc 4 1, 3) := by decide +kernel
theorem dX10_write_77 : decode cX10_write 77 = .ok (.goto (-30), 3) := by decide +kernel
theorem dX10_write_80 : decode cX10_write 80 = .ok (.aload_n 0, 1) := by decide +kernel
theorem dX10_write_81 : decode cX10_write 81 = .ok (.bipush 45, 2) := by decide +kernel
theorem dX10_write_83 : decode cX10_write 83 = .ok (.invokevirtual 163, 3) := by decide +kernel
theorem dX10_write_86 : decode cX10_write 86 = .ok (.aload_n 0, 1) := by decide +kernel
theorem dX10_write_87 : decode cX10_write 87 = .ok (.iload_n 2, 1) := by decide +kernel
theorem dX10_write_88 : decode cX10_write 88 = .ok (.iload_n 1, 1) := by decide +kernel
theorem dX10_write_89 : decode cX10_write 89 = .ok (.invokevirtual 166, 3) := by decide +kernel
theorem dX10_write_92 : decode cX10_write 92 = .ok (.istore 4, 2) := by decide +kernel
theorem dX10_write_94 : decode cX10_write 94 = .ok (.iconst 0, 1) := by decide +kernel
theorem dX10_write_95 : decode cX10_write 95 = .ok (.istore 5, 2) := by decide +kernel
theorem dX10_write_97 : decode cX10_write 97 = .ok (.iload 4, 2) := by decide +kernel
theorem dX10_write_99 : decode cX10_write 99 = .ok (.bipush 9, 2) := by decide +kernel
theorem dX10_write_101 : decode cX10_write 101 = .ok (.if_icmp .le 18, 3) := by decide +kernel
theorem dX10_write_104 : decode cX10_write 104 = .ok (.aload_n 0, 1) := by decide +kernel
theorem dX10_write_105 : decode cX10_write 105 = .ok (.bipush 48, 2) := by decide +kernel
theorem dX10_write_107 : decode cX10_write 107 = .ok (.iload 4, 2) := by decide +kernel
theorem dX10_write_109 : decode cX10_write 109 = .ok (.bipush 10, 2) := by decide +kernel
theorem dX10_write_111 : decode cX10_write 111 = .ok (.idiv, 1) := by decide +kernel
theorem dX10_write_112 : decode cX10_write 112 = .ok (.iadd, 1) := by decide +kernel
theorem dX10_write_113 : decode cX10_write 113 = .ok (.invokevirtual 163, 3) := by decide +kernel
theorem dX10_write_116 : decode cX10_write 116 = .ok (.iinc 5 1, 3) := by decide +kernel
theorem dX10_write_119 : decode cX10_write 119 = .ok (.iload 4, 2) := by decide +kernel
theorem dX10_write_121 : decode cX10_write 121 = .ok (.iconst (-1), 1) := by decide +kernel
theorem dX10_write_122 : decode cX10_write 122 = .ok (.if_icmp .eq 18, 3) := by decide +kernel
theorem dX10_write_125 : decode cX10_write 125 = .ok (.aload_n 0, 1) := by decide +kernel
theorem dX10_write_126 : decode cX10_write 126 = .ok (.bipush 48, 2) := by decide +kernel
theorem dX10_write_128 : decode cX10_write 128 = .ok (.iload 4, 2) := by decide +kernel
theorem dX10_write_130 : decode cX10_write 130 = .ok (.bipush 10, 2) := by decide +kernel
theorem dX10_write_132 : decode cX10_write 132 = .ok (.irem, 1) := by decide +kernel
theorem dX10_write_133 : decode cX10_write 133 = .ok (.iadd, 1) := by decide +kernel
theorem dX10_write_134 : decode cX10_write 134 = .ok (.invokevirtual 163, 3) := by decide +kernel
theorem dX10_write_137 : decode cX10_write 137 = .ok (.iinc 5 1, 3) := by decide +kernel
theorem dX10_write_140 : decode cX10_write 140 = .ok (.iload 5, 2) := by decide +kernel
theorem dX10_write_142 : decode cX10_write 142 = .ok (.iload_n 3, 1) := by decide +kernel
theorem dX10_write_143 : decode cX10_write 143 = .ok (.if_icmp .ge 15, 3) := by decide +kernel
theorem dX10_write_146 : decode cX10_write 146 = .ok (.aload_n 0, 1) := by decide +kernel
theorem dX10_write_147 : decode cX10_write 147 = .ok (.bipush 45, 2) := by decide +kernel
theorem dX10_write_149 : decode cX10_write 149 = .ok (.invokevirtual 163, 3) := by decide +kernel
theorem dX10_write_152 : decode cX10_write 152 = .ok (.iinc 5 1, 3) := by decide +kernel
theorem dX10_write_155 : decode cX10_write 155 = .ok (.goto (-15), 3) := by decide +kernel
theorem dX10_write_158 : decode cX10_write 158 = .ok (.iinc 2 1, 3) := by decide +kernel
theorem dX10_write_161 : decode cX10_write 161 = .ok (.goto (-127), 3) := by decide +kernel
theorem dX10_write_164 : decode cX10_write 164 = .ok (.aload_n 0, 1) := by decide +kernel
theorem dX10_write_165 : decode cX10_write 165 = .ok (.bipush 45, 2) := by decide +kernel
theorem dX10_write_167 : decode cX10_write 167 = .ok (.invokevirtual 163, 3) := by decide +kernel
theorem dX10_write_170 : decode cX10_write 170 = .ok (.aload_n 0, 1) := by decide +kernel
theorem dX10_write_171 : decode cX10_write 171 = .ok (.bipush 124, 2) := by decide +kernel
theorem dX10_write_173 : decode cX10_write 173 = .ok (.invokevirtual 163, 3) := by decide +kernel
theorem dX10_write_176 : decode cX10_write 176 = .ok (.aload_n 0, 1) := by decide +kernel
theorem dX10_write_177 : decode cX10_write 177 = .ok (.bipush 10, 2) := by decide +kernel
theorem dX10_write_179 : decode cX10_write 179 = .ok (.invokevirtual 163, 3) := by decide +kernel
theorem dX10_write_182 : decode cX10_write 182 = .ok (.iinc 1 (-1), 3) := by decide +kernel
theorem dX10_write_185 : decode cX10_write 185 = .ok (.goto (-163), 3) := by decide +kernel
theorem dX10_write_188 : decode cX10_write 188 = .ok (.aload_n 0, 1) := by decide +kernel
theorem dX10_write_189 : decode cX10_write 189 = .ok (.getfield 106, 3) := by decide +kernel
theorem dX10_write_192 : decode cX10_write 192 = .ok (.ireturn, 1) := by decide +kernel
theorem dX10_look_0 : decode cX10_look 0 = .ok (.aload_n 0, 1) := by decide +kernel
theorem dX10_look_1 : decode cX10_look 1 = .ok (.getfield 169, 3) := by decide +kernel
theorem dX10_look_4 : decode cX10_look 4 = .ok (.aload_n 0, 1) := by decide +kernel
theorem dX10_look_5 : decode cX10_look 5 = .ok (.getfield 106, 3) := by decide +kernel
theorem dX10_look_8 : decode cX10_look 8 = .ok (.if_icmp .ge 15, 3) := by decide +kernel
theorem dX10_look_11 : decode cX10_look 11 = .ok (.aload_n 0, 1) := by decide +kernel
theorem dX10_look_12 : decode cX10_look 12 = .ok (.getfield 41, 3) := by decide +kernel
theorem dX10_look_15 : decode cX10_look 15 = .ok (.aload_n 0, 1) := by decide +kernel
theorem dX10_look_16 : decode cX10_look 16 = .ok (.getfield 169, 3) := by decide +kernel
theorem dX10_look_19 : decode cX10_look 19 = .ok (.iaload, 1) := by decide +kernel
theorem dX10_look_20 : decode cX10_look 20 = .ok (.goto 4, 3) := by decide +kernel
theorem dX10_look_23 : decode cX10_look 23 = .ok (.iconst (-1), 1) := by decide +kernel
theorem dX10_look_24 : decode cX10_look 24 = .ok (.ireturn, 1) := by decide +kernel
theorem dX10_isFigure_0 : decode cX10_isFigure 0 = .ok (.iload_n 0, 1) := by decide +kernel
theorem dX10_isFigure_1 : decode cX10_isFigure 1 = .ok (.bipush 48, 2) := by decide +kernel
theorem dX10_isFigure_3 : decode cX10_isFigure 3 = .ok (.bipush 57, 2) := by decide +kernel
theorem dX10_isFigure_5 : decode cX10_isFigure 5 = .ok (.invokestatic 84, 3) := by decide +kernel
theorem dX10_isFigure_8 : decode cX10_isFigure 8 = .ok (.ireturn, 1) := by decide +kernel
theorem dX10_faults_0 : decode cX10_faults 0 = .ok (.aload_n 0, 1) := by decide +kernel
theorem dX10_faults_1 : decode cX10_faults 1 = .ok (.getfield 171, 3) := by decide +kernel
theorem dX10_faults_4 : decode cX10_faults 4 = .ok (.ifCond .eq 27, 3) := by decide +kernel
theorem dX10_faults_7 : decode cX10_faults 7 = .ok (.iload_n 1, 1) := by decide +kernel
theorem dX10_faults_8 : decode cX10_faults 8 = .ok (.aload_n 0, 1) := by decide +kernel
theorem dX10_faults_9 : decode cX10_faults 9 = .ok (.getfield 171, 3) := by decide +kernel
theorem dX10_faults_12 : decode cX10_faults 12 = .ok (.if_icmp .lt 19, 3) := by decide +kernel
theorem dX10_faults_15 : decode cX10_faults 15 = .ok (.iload_n 1, 1) := by decide +kernel
theorem dX10_faults_16 : decode cX10_faults 16 = .ok (.aload_n 0, 1) := by decide +kernel
theorem dX10_faults_17 : decode cX10_faults 17 = .ok (.getfield 171, 3) := by decide +kernel
theorem dX10_faults_20 : decode cX10_faults 20 = .ok (.if_icmp .ne 21, 3) := by decide +kernel
theorem dX10_faults_23 : decode cX10_faults 23 = .ok (.iload_n 2, 1) := by decide +kernel
theorem dX10_faults_24 : decode cX10_faults 24 = .ok (.aload_n 0, 1) := by decide +kernel
theorem dX10_faults_25 : decode cX10_faults 25 = .ok (.getfield 174, 3) := by decide +kernel
theorem dX10_faults_28 : decode cX10_faults 28 = .ok (.if_icmp .ge 13, 3) := by decide +kernel
theorem dX10_faults_31 : decode cX10_faults 31 = .ok (.aload_n 0, 1) := by decide +kernel
theorem dX10_faults_32 : decode cX10_faults 32 = .ok (.iload_n 1, 1) := by decide +kernel
theorem dX10_faults_33 : decode cX10_faults 33 = .ok (.putfield 171, 3) := by decide +kernel
theorem dX10_faults_36 : decode cX10_faults 36 = .ok (.aload_n 0, 1) := by decide +kernel
theorem dX10_faults_37 : decode cX10_faults 37 = .ok (.iload_n 2, 1) := by decide +kernel
theorem dX10_faults_38 : decode cX10_faults 38 = .ok (.putfield 174, 3) := by decide +kernel
theorem dX10_faults_41 : decode cX10_faults 41 = .ok (.return_, 1) := by decide +kernel
theorem dX10_wants_0 : decode cX10_wants 0 = .ok (.aload_n 0, 1) := by decide +kernel
theorem dX10_wants_1 : decode cX10_wants 1 = .ok (.getfield 171, 3) := by decide +kernel
theorem dX10_wants_4 : decode cX10_wants 4 = .ok (.ifCond .ne 16, 3) := by decide +kernel
theorem dX10_wants_7 : decode cX10_wants 7 = .ok (.iload_n 1, 1) := by decide +kernel
theorem dX10_wants_8 : decode cX10_wants 8 = .ok (.ifCond .ne 12, 3) := by decide +kernel
theorem dX10_wants_11 : decode cX10_wants 11 = .ok (.aload_n 0, 1) := by decide +kernel
theorem dX10_wants_12 : decode cX10_wants 12 = .ok (.iconst 1, 1) := by decide +kernel
theorem dX10_wants_13 : decode cX10_wants 13 = .ok (.aload_n 0, 1) := by decide +kernel
theorem dX10_wants_14 : decode cX10_wants 14 = .ok (.getfield 169, 3) := by decide +kernel
theorem dX10_wants_17 : decode cX10_wants 17 = .ok (.invokevirtual 177, 3) := by decide +kernel
theorem dX10_wants_20 : decode cX10_wants 20 = .ok (.aload_n 0, 1) := by decide +kernel
theorem dX10_wants_21 : decode cX10_wants 21 = .ok (.dup, 1) := by decide +kernel
theorem dX10_wants_22 : decode cX10_wants 22 = .ok (.getfield 169, 3) := by decide +kernel
theorem dX10_wants_25 : decode cX10_wants 25 = .ok (.iconst 1, 1) := by decide +kernel
theorem dX10_wants_26 : decode cX10_wants 26 = .ok (.iadd, 1) := by decide +kernel
theorem dX10_wants_27 : decode cX10_wants 27 = .ok (.putfield 169, 3) := by decide +kernel
theorem dX10_wants_30 : decode cX10_wants 30 = .ok (.return_, 1) := by decide +kernel
theorem dX10_readLines_0 : decode cX10_readLines 0 = .ok (.aload_n 0, 1) := by decide +kernel
theorem dX10_readLines_1 : decode cX10_readLines 1 = .ok (.iconst 0, 1) := by decide +kernel
theorem dX10_readLines_2 : decode cX10_readLines 2 = .ok (.putfield 169, 3) := by decide +kernel
theorem dX10_readLines_5 : decode cX10_readLines 5 = .ok (.aload_n 0, 1) := by decide +kernel
theorem dX10_readLines_6 : decode cX10_readLines 6 = .ok (.iconst 0, 1) := by decide +kernel
theorem dX10_readLines_7 : decode cX10_readLines 7 = .ok (.putfield 180, 3) := by decide +kernel
theorem dX10_readLines_10 : decode cX10_readLines 10 = .ok (.iconst 0, 1) := by decide +kernel
theorem dX10_readLines_11 : decode cX10_readLines 11 = .ok (.istore_n 1, 1) := by decide +kernel
theorem dX10_readLines_12 : decode cX10_readLines 12 = .ok (.iload_n 1, 1) := by decide +kernel
theorem dX10_readLines_13 : decode cX10_readLines 13 = .ok (.aload_n 0, 1) := by decide +kernel
theorem dX10_readLines_14 : decode cX10_readLines 14 = .ok (.getfield 78, 3) := by decide +kernel
theorem dX10_readLines_17 : decode cX10_readLines 17 = .ok (.if_icmp .ge 185, 3) := by decide +kernel
theorem dX10_readLines_20 : decode cX10_readLines 20 = .ok (.aload_n 0, 1) := by decide +kernel
theorem dX10_readLines_21 : decode cX10_readLines 21 = .ok (.getfield 171, 3) := by decide +kernel
theorem dX10_readLines_24 : decode cX10_readLines 24 = .ok (.ifCond .ne 178, 3) := by decide +kernel
theorem dX10_readLines_27 : decode cX10_readLines 27 = .ok (.aload_n 0, 1) := by decide +kernel
theorem dX10_readLines_28 : decode cX10_readLines 28 = .ok (.aload_n 0, 1) := by decide +kernel
theorem dX10_readLines_29 : decode cX10_readLines 29 = .ok (.invokevirtual 183, 3) := by decide +kernel
theorem dX10_readLines_32 : decode cX10_readLines 32 = .ok (.bipush 124, 2) := by decide +kernel
theorem dX10_readLines_34 : decode cX10_readLines 34 = .ok (.if_icmp .ne 7, 3) := by decide +kernel
theorem dX10_readLines_37 : decode cX10_readLines 37 = .ok (.iconst 1, 1) := by decide +kernel
theorem dX10_readLines_38 : decode cX10_readLines 38 = .ok (.goto 4, 3) := by decide +kernel
theorem dX10_readLines_41 : decode cX10_readLines 41 = .ok (.iconst 0, 1) := by decide +kernel
theorem dX10_readLines_42 : decode cX10_readLines 42 = .ok (.invokevirtual 186, 3) := by decide +kernel
theorem dX10_readLines_45 : decode cX10_readLines 45 = .ok (.iload_n 1, 1) := by decide +kernel
theorem dX10_readLines_46 : decode cX10_readLines 46 = .ok (.ifCond .ne 45, 3) := by decide +kernel
theorem dX10_readLines_49 : decode cX10_readLines 49 = .ok (.aload_n 0, 1) := by decide +kernel
theorem dX10_readLines_50 : decode cX10_readLines 50 = .ok (.invokevirtual 183, 3) := by decide +kernel
theorem dX10_readLines_53 : decode cX10_readLines 53 = .ok (.bipush 45, 2) := by decide +kernel
theorem dX10_readLines_55 : decode cX10_readLines 55 = .ok (.if_icmp .eq 13, 3) := by decide +kernel
theorem dX10_readLines_58 : decode cX10_readLines 58 = .ok (.aload_n 0, 1) := by decide +kernel
theorem dX10_readLines_59 : decode cX10_readLines 59 = .ok (.invokevirtual 183, 3) := by decide +kernel
theorem dX10_readLines_62 : decode cX10_readLines 62 = .ok (.invokestatic 190, 3) := by decide +kernel
theorem dX10_readLines_65 : decode cX10_readLines 65 = .ok (.ifCond .eq 26, 3) := by decide +kernel
theorem dX10_readLines_68 : decode cX10_readLines 68 = .ok (.aload_n 0, 1) := by decide +kernel
theorem dX10_readLines_69 : decode cX10_readLines 69 = .ok (.dup, 1) := by decide +kernel
theorem dX10_readLines_70 : decode cX10_readLines 70 = .ok (.getfield 180, 3) := by decide +kernel
theorem dX10_readLines_73 : decode cX10_readLines 73 = .ok (.iconst 1, 1) := by decide +kernel
theorem dX10_readLines_74 : decode cX10_readLines 74 = .ok (.iadd, 1) := by decide +kernel
theorem dX10_readLines_75 : decode cX10_readLines 75 = .ok (.putfield 180, 3) := by decide +kernel
theorem dX10_readLines_78 : decode cX10_readLines 78 = .ok (.aload_n 0, 1) := by decide +kernel
theorem dX10_readLines_79 : decode cX10_readLines 79 = .ok (.dup, 1) := by decide +kernel
theorem dX10_readLines_80 : decode cX10_readLines 80 = .ok (.getfield 169, 3) := by decide +kernel
theorem dX10_readLines_83 : decode cX10_readLines 83 = .ok (.iconst 1, 1) := by decide +kernel
theorem dX10_readLines_84 : decode cX10_readLines 84 = .ok (.iadd, 1) := by decide +kernel
theorem dX10_readLines_85 : decode cX10_readLines 85 = .ok (.putfield 169, 3) := by decide +kernel
theorem dX10_readLines_88 : decode cX10_readLines 88 = .ok (.goto (-39), 3) := by decide +kernel
theorem dX10_readLines_91 : decode cX10_readLines 91 = .ok (.iconst 0, 1) := by decide +kernel
theorem dX10_readLines_92 : decode cX10_readLines 92 = .ok (.istore_n 2, 1) := by decide +kernel
theorem dX10_readLines_93 : decode cX10_readLines 93 = .ok (.iload_n 2, 1) := by decide +kernel
theorem dX10_readLines_94 : decode cX10_readLines 94 = .ok (.aload_n 0, 1) := by decide +kernel
theorem dX10_readLines_95 : decode cX10_readLines 95 = .ok (.getfield 180, 3) := by decide +kernel
theorem dX10_readLines_98 : decode cX10_readLines 98 = .ok (.if_icmp .ge 48, 3) := by decide +kernel
theorem dX10_readLines_101 : decode cX10_readLines 101 = .ok (.iload_n 1, 1) := by decide +kernel
theorem dX10_readLines_102 : decode cX10_readLines 102 = .ok (.ifCond .le 44, 3) := by decide +kernel
theorem dX10_readLines_105 : decode cX10_readLines 105 = .ok (.aload_n 0, 1) := by decide +kernel
theorem dX10_readLines_106 : decode cX10_readLines 106 = .ok (.getfield 171, 3) := by decide +kernel
theorem dX10_readLines_109 : decode cX10_readLines 109 = .ok (.ifCond .ne 37, 3) := by decide +kernel
theorem dX10_readLines_112 : decode cX10_readLines 112 = .ok (.aload_n 0, 1) := by decide +kernel
theorem dX10_readLines_113 : decode cX10_readLines 113 = .ok (.aload_n 0, 1) := by decide +kernel
theorem dX10_readLines_114 : decode cX10_readLines 114 = .ok (.invokevirtual 183, 3) := by decide +kernel
theorem dX10_readLines_117 : decode cX10_readLines 117 = .ok (.bipush 45, 2) := by decide +kernel
theorem dX10_readLines_119 : decode cX10_readLines 119 = .ok (.if_icmp .eq 13, 3) := by decide +kernel
theorem dX10_readLines_122 : decode cX10_readLines 122 = .ok (.aload_n 0, 1) := by decide +kernel
theorem dX10_readLines_123 : decode cX10_readLines 123 = .ok (.invokevirtual 183, 3) := by decide +kernel
theorem dX10_readLines_126 : decode cX10_readLines 126 = .ok (.invokestatic 190, 3) := by decide +kernel
theorem dX10_readLines_129 : decode cX10_readLines 129 = .ok (.ifCond .eq 7, 3) := by decide +kernel
theorem dX10_readLines_132 : decode cX10_readLines 132 = .ok (.iconst 1, 1) := by decide +kernel
theorem dX10_readLines_133 : decode cX10_readLines 133 = .ok (.goto 4, 3) := by decide +kernel
theorem dX10_readLines_136 : decode cX10_readLines 136 = .ok (.iconst 0, 1) := by decide +kernel
theorem dX10_readLines_137 : decode cX10_readLines 137 = .ok (.invokevirtual 186, 3) := by decide +kernel
theorem dX10_readLines_140 : decode cX10_readLines 140 = .ok (.iinc 2 1, 3) := by decide +kernel
theorem dX10_readLines_143 : decode cX10_readLines 143 = .ok (.goto (-50), 3) := by decide +kernel
theorem dX10_readLines_146 : decode cX10_readLines 146 = .ok (.aload_n 0, 1) := by decide +kernel
theorem dX10_readLines_147 : decode cX10_readLines 147 = .ok (.getfield 171, 3) := by decide +kernel
theorem dX10_readLines_150 : decode cX10_readLines 150 = .ok (.ifCond .ne 21, 3) := by decide +kernel
theorem dX10_readLines_153 : decode cX10_readLines 153 = .ok (.aload_n 0, 1) := by decide +kernel
theorem dX10_readLines_154 : decode cX10_readLines 154 = .ok (.aload_n 0, 1) := by decide +kernel
theorem dX10_readLines_155 : decode cX10_readLines 155 = .ok (.invokevirtual 183, 3) := by decide +kernel
theorem dX10_readLines_158 : decode cX10_readLines 158 = .ok (.bipush 124, 2) := by decide +kernel
theorem dX10_readLines_160 : decode cX10_readLines 160 = .ok (.if_icmp .ne 7, 3) := by decide +kernel
theorem dX10_readLines_163 : decode cX10_readLines 163 = .ok (.iconst 1, 1) := by decide +kernel
theorem dX10_readLines_164 : decode cX10_readLines 164 = .ok (.goto 4, 3) := by decide +kernel
theorem dX10_readLines_167 : decode cX10_readLines 167 = .ok (.iconst 0, 1) := by decide +kernel
theorem dX10_readLines_168 : decode cX10_readLines 168 = .ok (.invokevirtual 186, 3) := by decide +kernel
theorem dX10_readLines_171 : decode cX10_readLines 171 = .ok (.aload_n 0, 1) := by decide +kernel
theorem dX10_readLines_172 : decode cX10_readLines 172 = .ok (.getfield 171, 3) := by decide +kernel
theorem dX10_readLines_175 : decode cX10_readLines 175 = .ok (.ifCond .ne 21, 3) := by decide +kernel
theorem dX10_readLines_178 : decode cX10_readLines 178 = .ok (.aload_n 0, 1) := by decide +kernel
theorem dX10_readLines_179 : decode cX10_readLines 179 = .ok (.aload_n 0, 1) := by decide +kernel
theorem dX10_readLines_180 : decode cX10_readLines 180 = .ok (.invokevirtual 183, 3) := by decide +kernel
theorem dX10_readLines_183 : decode cX10_readLines 183 = .ok (.bipush 10, 2) := by decide +kernel
theorem dX10_readLines_185 : decode cX10_readLines 185 = .ok (.if_icmp .ne 7, 3) := by decide +kernel
theorem dX10_readLines_188 : decode cX10_readLines 188 = .ok (.iconst 1, 1) := by decide +kernel
theorem dX10_readLines_189 : decode cX10_readLines 189 = .ok (.goto 4, 3) := by decide +kernel
theorem dX10_readLines_192 : decode cX10_readLines 192 = .ok (.iconst 0, 1) := by decide +kernel
theorem dX10_readLines_193 : decode cX10_readLines 193 = .ok (.invokevirtual 186, 3) := by decide +kernel
theorem dX10_readLines_196 : decode cX10_readLines 196 = .ok (.iinc 1 1, 3) := by decide +kernel
theorem dX10_readLines_199 : decode cX10_readLines 199 = .ok (.goto (-187), 3) := by decide +kernel
theorem dX10_readLines_202 : decode cX10_readLines 202 = .ok (.aload_n 0, 1) := by decide +kernel
theorem dX10_readLines_203 : decode cX10_readLines 203 = .ok (.getfield 171, 3) := by decide +kernel
theorem dX10_readLines_206 : decode cX10_readLines 206 = .ok (.ifCond .ne 23, 3) := by decide +kernel
theorem dX10_readLines_209 : decode cX10_readLines 209 = .ok (.aload_n 0, 1) := by decide +kernel
theorem dX10_readLines_210 : decode cX10_readLines 210 = .ok (.aload_n 0, 1) := by decide +kernel
theorem dX10_readLines_211 : decode cX10_readLines 211 = .ok (.getfield 169, 3) := by decide +kernel
theorem dX10_readLines_214 : decode cX10_readLines 214 = .ok (.aload_n 0, 1) := by decide +kernel
theorem dX10_readLines_215 : decode cX10_readLines 215 = .ok (.getfield 106, 3) := by decide +kernel
theorem dX10_readLines_218 : decode cX10_readLines 218 = .ok (.if_icmp .ne 7, 3) := by decide +kernel
theorem dX10_readLines_221 : decode cX10_readLines 221 = .ok (.iconst 1, 1) := by decide +kernel
theorem dX10_readLines_222 : decode cX10_readLines 222 = .ok (.goto 4, 3) := by decide +kernel
theorem dX10_readLines_225 : decode cX10_readLines 225 = .ok (.iconst 0, 1) := by decide +kernel
theorem dX10_readLines_226 : decode cX10_readLines 226 = .ok (.invokevirtual 186, 3) := by decide +kernel
theorem dX10_readLines_229 : decode cX10_readLines 229 = .ok (.return_, 1) := by decide +kernel
theorem dX10_placeOf_0 : decode cX10_placeOf 0 = .ok (.aload_n 0, 1) := by decide +kernel
theorem dX10_placeOf_1 : decode cX10_placeOf 1 = .ok (.getfield 78, 3) := by decide +kernel
theorem dX10_placeOf_4 : decode cX10_placeOf 4 = .ok (.iconst 1, 1) := by decide +kernel
theorem dX10_placeOf_5 : decode cX10_placeOf 5 = .ok (.isub, 1) := by decide +kernel
theorem dX10_placeOf_6 : decode cX10_placeOf 6 = .ok (.iload_n 1, 1) := by decide +kernel
theorem dX10_placeOf_7 : decode cX10_placeOf 7 = .ok (.isub, 1) := by decide +kernel
theorem dX10_placeOf_8 : decode cX10_placeOf 8 = .ok (.aload_n 0, 1) := by decide +kernel
theorem dX10_placeOf_9 : decode cX10_placeOf 9 = .ok (.getfield 180, 3) := by decide +kernel
theorem dX10_placeOf_12 : decode cX10_placeOf 12 = .ok (.iconst 3, 1) := by decide +kernel
theorem dX10_placeOf_13 : decode cX10_placeOf 13 = .ok (.iadd, 1) := by decide +kernel
theorem dX10_placeOf_14 : decode cX10_placeOf 14 = .ok (.imul, 1) := by decide +kernel
theorem dX10_placeOf_15 : decode cX10_placeOf 15 = .ok (.iconst 1, 1) := by decide +kernel
theorem dX10_placeOf_16 : decode cX10_placeOf 16 = .ok (.iadd, 1) := by decide +kernel
theorem dX10_placeOf_17 : decode cX10_placeOf 17 = .ok (.iload_n 2, 1) := by decide +kernel
theorem dX10_placeOf_18 : decode cX10_placeOf 18 = .ok (.iadd, 1) := by decide +kernel
theorem dX10_placeOf_19 : decode cX10_placeOf 19 = .ok (.ireturn, 1) := by decide +kernel
theorem dX10_isFigureAt_0 : decode cX10_isFigureAt 0 = .ok (.iload_n 2, 1) := by decide +kernel
theorem dX10_isFigureAt_1 : decode cX10_isFigureAt 1 = .ok (.iconst 0, 1) := by decide +kernel
theorem dX10_isFigureAt_2 : decode cX10_isFigureAt 2 = .ok (.aload_n 0, 1) := by decide +kernel
theorem dX10_isFigureAt_3 : decode cX10_isFigureAt 3 = .ok (.getfield 180, 3) := by decide +kernel
theorem dX10_isFigureAt_6 : decode cX10_isFigureAt 6 = .ok (.iconst 1, 1) := by decide +kernel
theorem dX10_isFigureAt_7 : decode cX10_isFigureAt 7 = .ok (.isub, 1) := by decide +kernel
theorem dX10_isFigureAt_8 : decode cX10_isFigureAt 8 = .ok (.invokestatic 84, 3) := by decide +kernel
theorem dX10_isFigureAt_11 : decode cX10_isFigureAt 11 = .ok (.ifCond .eq 24, 3) := by decide +kernel
theorem dX10_isFigureAt_14 : decode cX10_isFigureAt 14 = .ok (.aload_n 0, 1) := by decide +kernel
theorem dX10_isFigureAt_15 : decode cX10_isFigureAt 15 = .ok (.getfield 41, 3) := by decide +kernel
theorem dX10_isFigureAt_18 : decode cX10_isFigureAt 18 = .ok (.aload_n 0, 1) := by decide +kernel
theorem dX10_isFigureAt_19 : decode cX10_isFigureAt 19 = .ok (.iload_n 1, 1) := by decide +kernel
theorem dX10_isFigureAt_20 : decode cX10_isFigureAt 20 = .ok (.iload_n 2, 1) := by decide +kernel
theorem dX10_isFigureAt_21 : decode cX10_isFigureAt 21 = .ok (.invokevirtual 193, 3) := by decide +kernel
theorem dX10_isFigureAt_24 : decode cX10_isFigureAt 24 = .ok (.iaload, 1) := by decide +kernel
theorem dX10_isFigureAt_25 : decode cX10_isFigureAt 25 = .ok (.invokestatic 190, 3) := by decide +kernel
theorem dX10_isFigureAt_28 : decode cX10_isFigureAt 28 = .ok (.ifCond .eq 7, 3) := by decide +kernel
theorem dX10_isFigureAt_31 : decode cX10_isFigureAt 31 = .ok (.iconst 1, 1) := by decide +kernel
theorem dX10_isFigureAt_32 : decode cX10_isFigureAt 32 = .ok (.goto 4, 3) := by decide +kernel
theorem dX10_isFigureAt_35 : decode cX10_isFigureAt 35 = .ok (.iconst 0, 1) := by decide +kernel
theorem dX10_isFigureAt_36 : decode cX10_isFigureAt 36 = .ok (.ireturn, 1) := by decide +kernel
theorem dX10_begins_0 : decode cX10_begins 0 = .ok (.aload_n 0, 1) := by decide +kernel
theorem dX10_begins_1 : decode cX10_begins 1 = .ok (.iload_n 1, 1) := by decide +kernel
theorem dX10_begins_2 : decode cX10_begins 2 = .ok (.iload_n 2, 1) := by decide +kernel
theorem dX10_begins_3 : decode cX10_begins 3 = .ok (.invokevirtual 196, 3) := by decide +kernel
theorem dX10_begins_6 : decode cX10_begins 6 = .ok (.ifCond .eq 18, 3) := by decide +kernel
theorem dX10_begins_9 : decode cX10_begins 9 = .ok (.aload_n 0, 1) := by decide +kernel
theorem dX10_begins_10 : decode cX10_begins 10 = .ok (.iload_n 1, 1) := by decide +kernel
theorem dX10_begins_11 : decode cX10_begins 11 = .ok (.iload_n 2, 1) := by decide +kernel
theorem dX10_begins_12 : decode cX10_begins 12 = .ok (.iconst 1, 1) := by decide +kernel
theorem dX10_begins_13 : decode cX10_begins 13 = .ok (.isub, 1) := by decide +kernel
theorem dX10_begins_14 : decode cX10_begins 14 = .ok (.invokevirtual 196, 3) := by decide +kernel
theorem dX10_begins_17 : decode cX10_begins 17 = .ok (.ifCond .ne 7, 3) := by decide +kernel
theorem dX10_begins_20 : decode cX10_begins 20 = .ok (.iconst 1, 1) := by decide +kernel
theorem dX10_begins_21 : decode cX10_begins 21 = .ok (.goto 4, 3) := by decide +kernel
theorem dX10_begins_24 : decode cX10_begins 24 = .ok (.iconst 0, 1) := by decide +kernel
theorem dX10_begins_25 : decode cX10_begins 25 = .ok (.ireturn, 1) := by decide +kernel
theorem dX10_lengthAt_0 : decode cX10_lengthAt 0 = .ok (.iconst 0, 1) := by decide +kernel
theorem dX10_lengthAt_1 : decode cX10_lengthAt 1 = .ok (.istore_n 3, 1) := by decide +kernel
theorem dX10_lengthAt_2 : decode cX10_lengthAt 2 = .ok (.aload_n 0, 1) := by decide +kernel
theorem dX10_lengthAt_3 : decode cX10_lengthAt 3 = .ok (.iload_n 1, 1) := by decide +kernel
theorem dX10_lengthAt_4 : decode cX10_lengthAt 4 = .ok (.iload_n 2, 1) := by decide +kernel
theorem dX10_lengthAt_5 : decode cX10_lengthAt 5 = .ok (.iload_n 3, 1) := by decide +kernel
theorem dX10_lengthAt_6 : decode cX10_lengthAt 6 = .ok (.iadd, 1) := by decide +kernel
theorem dX10_lengthAt_7 : decode cX10_lengthAt 7 = .ok (.invokevirtual 196, 3) := by decide +kernel
theorem dX10_lengthAt_10 : decode cX10_lengthAt 10 = .ok (.ifCond .eq 9, 3) := by decide +kernel
theorem dX10_lengthAt_13 : decode cX10_lengthAt 13 = .ok (.iinc 3 1, 3) := by decide +kernel
theorem dX10_lengthAt_16 : decode cX10_lengthAt 16 = .ok (.goto (-14), 3) := by decide +kernel
theorem dX10_lengthAt_19 : decode cX10_lengthAt 19 = .ok (.iload_n 3, 1) := by decide +kernel
theorem dX10_lengthAt_20 : decode cX10_lengthAt 20 = .ok (.ireturn, 1) := by decide +kernel
theorem dX10_valueAt_0 : decode cX10_valueAt 0 = .ok (.aload_n 0, 1) := by decide +kernel
theorem dX10_valueAt_1 : decode cX10_valueAt 1 = .ok (.getfield 41, 3) := by decide +kernel
theorem dX10_valueAt_4 : decode cX10_valueAt 4 = .ok (.aload_n 0, 1) := by decide +kernel
theorem dX10_valueAt_5 : decode cX10_valueAt 5 = .ok (.iload_n 1, 1) := by decide +kernel
theorem dX10_valueAt_6 : decode cX10_valueAt 6 = .ok (.iload_n 2, 1) := by decide +kernel
theorem dX10_valueAt_7 : decode cX10_valueAt 7 = .ok (.invokevirtual 193, 3) := by decide +kernel
theorem dX10_valueAt_10 : decode cX10_valueAt 10 = .ok (.iaload, 1) := by decide +kernel
theorem dX10_valueAt_11 : decode cX10_valueAt 11 = .ok (.bipush 48, 2) := by decide +kernel
theorem dX10_valueAt_13 : decode cX10_valueAt 13 = .ok (.isub, 1) := by decide +kernel
theorem dX10_valueAt_14 : decode cX10_valueAt 14 = .ok (.istore_n 3, 1) := by decide +kernel
theorem dX10_valueAt_15 : decode cX10_valueAt 15 = .ok (.aload_n 0, 1) := by decide +kernel
theorem dX10_valueAt_16 : decode cX10_valueAt 16 = .ok (.iload_n 1, 1) := by decide +kernel
theorem dX10_valueAt_17 : decode cX10_valueAt 17 = .ok (.iload_n 2, 1) := by decide +kernel
theorem dX10_valueAt_18 : decode cX10_valueAt 18 = .ok (.invokevirtual 199, 3) := by decide +kernel
theorem dX10_valueAt_21 : decode cX10_valueAt 21 = .ok (.iconst 2, 1) := by decide +kernel
theorem dX10_valueAt_22 : decode cX10_valueAt 22 = .ok (.if_icmp .ne 27, 3) := by decide +kernel
theorem dX10_valueAt_25 : decode cX10_valueAt 25 = .ok (.bipush 10, 2) := by decide +kernel
theorem dX10_valueAt_27 : decode cX10_valueAt 27 = .ok (.iload_n 3, 1) := by decide +kernel
theorem dX10_valueAt_28 : decode cX10_valueAt 28 = .ok (.imul, 1) := by decide +kernel
theorem dX10_valueAt_29 : decode cX10_valueAt 29 = .ok (.aload_n 0, 1) := by decide +kernel
theorem dX10_valueAt_30 : decode cX10_valueAt 30 = .ok (.getfield 41, 3) := by decide +kernel
theorem dX10_valueAt_33 : decode cX10_valueAt 33 = .ok (.aload_n 0, 1) := by decide +kernel
theorem dX10_valueAt_34 : decode cX10_valueAt 34 = .ok (.iload_n 1, 1) := by decide +kernel
theorem dX10_valueAt_35 : decode cX10_valueAt 35 = .ok (.iload_n 2, 1) := by decide +kernel
theorem dX10_valueAt_36 : decode cX10_valueAt 36 = .ok (.iconst 1, 1) := by decide +kernel
theorem dX10_valueAt_37 : decode cX10_valueAt 37 = .ok (.iadd, 1) := by decide +kernel
theorem dX10_valueAt_38 : decode cX10_valueAt 38 = .ok (.invokevirtual 193, 3) := by decide +kernel
theorem dX10_valueAt_41 : decode cX10_valueAt 41 = .ok (.iaload, 1) := by decide +kernel
theorem dX10_valueAt_42 : decode cX10_valueAt 42 = .ok (.iadd, 1) := by decide +kernel
theorem dX10_valueAt_43 : decode cX10_valueAt 43 = .ok (.bipush 48, 2) := by decide +kernel
theorem dX10_valueAt_45 : decode cX10_valueAt 45 = .ok (.isub, 1) := by decide +kernel
theorem dX10_valueAt_46 : decode cX10_valueAt 46 = .ok (.goto 4, 3) := by decide +kernel
theorem dX10_valueAt_49 : decode cX10_valueAt 49 = .ok (.iload_n 3, 1) := by decide +kernel
theorem dX10_valueAt_50 : decode cX10_valueAt 50 = .ok (.ireturn, 1) := by decide +kernel
theorem dX10_lookNumbers_0 : decode cX10_lookNumbers 0 = .ok (.iconst 0, 1) := by decide +kernel
theorem dX10_lookNumbers_1 : decode cX10_lookNumbers 1 = .ok (.istore_n 1, 1) := by decide +kernel
theorem dX10_lookNumbers_2 : decode cX10_lookNumbers 2 = .ok (.iload_n 1, 1) := by decide +kernel
theorem dX10_lookNumbers_3 : decode cX10_lookNumbers 3 = .ok (.aload_n 0, 1) := by decide +kernel
theorem dX10_lookNumbers_4 : decode cX10_lookNumbers 4 = .ok (.getfield 78, 3) := by decide +kernel
theorem dX10_lookNumbers_7 : decode cX10_lookNumbers 7 = .ok (.if_icmp .ge 165, 3) := by decide +kernel
theorem dX10_lookNumbers_10 : decode cX10_lookNumbers 10 = .ok (.iconst 0, 1) := by decide +kernel
theorem dX10_lookNumbers_11 : decode cX10_lookNumbers 11 = .ok (.istore_n 2, 1) := by decide +kernel
theorem dX10_lookNumbers_12 : decode cX10_lookNumbers 12 = .ok (.iload_n 2, 1) := by decide +kernel
theorem dX10_lookNumbers_13 : decode cX10_lookNumbers 13 = .ok (.aload_n 0, 1) := by decide +kernel
theorem dX10_lookNumbers_14 : decode cX10_lookNumbers 14 = .ok (.getfield 180, 3) := by decide +kernel
theorem dX10_lookNumbers_17 : decode cX10_lookNumbers 17 = .ok (.if_icmp .ge 149, 3) := by decide +kernel
theorem dX10_lookNumbers_20 : decode cX10_lookNumbers 20 = .ok (.aload_n 0, 1) := by decide +kernel
theorem dX10_lookNumbers_21 : decode cX10_lookNumbers 21 = .ok (.iload_n 1, 1) := by decide +kernel
theorem dX10_lookNumbers_22 : decode cX10_lookNumbers 22 = .ok (.iload_n 2, 1) := by decide +kernel
theorem dX10_lookNumbers_23 : decode cX10_lookNumbers 23 = .ok (.invokevirtual 202, 3) := by decide +kernel
theorem dX10_lookNumbers_26 : decode cX10_lookNumbers 26 = .ok (.ifCond .eq 134, 3) := by decide +kernel
theorem dX10_lookNumbers_29 : decode cX10_lookNumbers 29 = .ok (.aload_n 0, 1) := by decide +kernel
theorem dX10_lookNumbers_30 : decode cX10_lookNumbers 30 = .ok (.iload_n 1, 1) := by decide +kernel
theorem dX10_lookNumbers_31 : decode cX10_lookNumbers 31 = .ok (.iload_n 2, 1) := by decide +kernel
theorem dX10_lookNumbers_32 : decode cX10_lookNumbers 32 = .ok (.invokevirtual 199, 3) := by decide +kernel
theorem dX10_lookNumbers_35 : decode cX10_lookNumbers 35 = .ok (.istore_n 3, 1) := by decide +kernel
theorem dX10_lookNumbers_36 : decode cX10_lookNumbers 36 = .ok (.iload_n 3, 1) := by decide +kernel
theorem dX10_lookNumbers_37 : decode cX10_lookNumbers 37 = .ok (.iconst 2, 1) := by decide +kernel
theorem dX10_lookNumbers_38 : decode cX10_lookNumbers 38 = .ok (.if_icmp .gt 24, 3) := by decide +kernel
theorem dX10_lookNumbers_41 : decode cX10_lookNumbers 41 = .ok (.iload_n 3, 1) := by decide +kernel
theorem dX10_lookNumbers_42 : decode cX10_lookNumbers 42 = .ok (.iconst 2, 1) := by decide +kernel
theorem dX10_lookNumbers_43 : decode cX10_lookNumbers 43 = .ok (.if_icmp .ne 23, 3) := by decide +kernel
theorem dX10_lookNumbers_46 : decode cX10_lookNumbers 46 = .ok (.aload_n 0, 1) := by decide +kernel
theorem dX10_lookNumbers_47 : decode cX10_lookNumbers 47 = .ok (.getfield 41, 3) := by decide +kernel
theorem dX10_lookNumbers_50 : decode cX10_lookNumbers 50 = .ok (.aload_n 0, 1) := by decide +kernel
theorem dX10_lookNumbers_51 : decode cX10_lookNumbers 51 = .ok (.iload_n 1, 1) := by decide +kernel
theorem dX10_lookNumbers_52 : decode cX10_lookNumbers 52 = .ok (.iload_n 2, 1) := by decide +kernel
theorem dX10_lookNumbers_53 : decode cX10_lookNumbers 53 = .ok (.invokevirtual 193, 3) := by decide +kernel
theorem dX10_lookNumbers_56 : decode cX10_lookNumbers 56 = .ok (.iaload, 1) := by decide +kernel
theorem dX10_lookNumbers_57 : decode cX10_lookNumbers 57 = .ok (.bipush 48, 2) := by decide +kernel
theorem dX10_lookNumbers_59 : decode cX10_lookNumbers 59 = .ok (.if_icmp .ne 7, 3) := by decide +kernel
theorem dX10_lookNumbers_62 : decode cX10_lookNumbers 62 = .ok (.iconst 1, 1) := by decide +kernel
theorem dX10_lookNumbers_63 : decode cX10_lookNumbers 63 = .ok (.goto 4, 3) := by decide +kernel
theorem dX10_lookNumbers_66 : decode cX10_lookNumbers 66 = .ok (.iconst 0, 1) := by decide +kernel
theorem dX10_lookNumbers_67 : decode cX10_lookNumbers 67 = .ok (.istore 4, 2) := by decide +kernel
theorem dX10_lookNumbers_69 : decode cX10_lookNumbers 69 = .ok (.iload 4, 2) := by decide +kernel
theorem dX10_lookNumbers_71 : decode cX10_lookNumbers 71 = .ok (.ifCond .ne 21, 3) := by decide +kernel
theorem dX10_lookNumbers_74 : decode cX10_lookNumbers 74 = .ok (.aload_n 0, 1) := by decide +kernel
theorem dX10_lookNumbers_75 : decode cX10_lookNumbers 75 = .ok (.iload_n 1, 1) := by decide +kernel
theorem dX10_lookNumbers_76 : decode cX10_lookNumbers 76 = .ok (.iload_n 2, 1) := by decide +kernel
theorem dX10_lookNumbers_77 : decode cX10_lookNumbers 77 = .ok (.invokevirtual 205, 3) := by decide +kernel
theorem dX10_lookNumbers_80 : decode cX10_lookNumbers 80 = .ok (.aload_n 0, 1) := by decide +kernel
theorem dX10_lookNumbers_81 : decode cX10_lookNumbers 81 = .ok (.getfield 92, 3) := by decide +kernel
theorem dX10_lookNumbers_84 : decode cX10_lookNumbers 84 = .ok (.iadd, 1) := by decide +kernel
theorem dX10_lookNumbers_85 : decode cX10_lookNumbers 85 = .ok (.aload_n 0, 1) := by decide +kernel
theorem dX10_lookNumbers_86 : decode cX10_lookNumbers 86 = .ok (.getfield 13, 3) := by decide +kernel
theorem dX10_lookNumbers_89 : decode cX10_lookNumbers 89 = .ok (.if_icmp .le 14, 3) := by decide +kernel
theorem dX10_lookNumbers_92 : decode cX10_lookNumbers 92 = .ok (.aload_n 0, 1) := by decide +kernel
theorem dX10_lookNumbers_93 : decode cX10_lookNumbers 93 = .ok (.iconst 2, 1) := by decide +kernel
theorem dX10_lookNumbers_94 : decode cX10_lookNumbers 94 = .ok (.aload_n 0, 1) := by decide +kernel
theorem dX10_lookNumbers_95 : decode cX10_lookNumbers 95 = .ok (.iload_n 1, 1) := by decide +kernel
theorem dX10_lookNumbers_96 : decode cX10_lookNumbers 96 = .ok (.iload_n 2, 1) := by decide +kernel
theorem dX10_lookNumbers_97 : decode cX10_lookNumbers 97 = .ok (.invokevirtual 193, 3) := by decide +kernel
theorem dX10_lookNumbers_100 : decode cX10_lookNumbers 100 = .ok (.invokevirtual 177, 3) := by decide +kernel
theorem dX10_lookNumbers_103 : decode cX10_lookNumbers 103 = .ok (.iconst 0, 1) := by decide +kernel
theorem dX10_lookNumbers_104 : decode cX10_lookNumbers 104 = .ok (.istore 5, 2) := by decide +kernel
theorem dX10_lookNumbers_106 : decode cX10_lookNumbers 106 = .ok (.iload 5, 2) := by decide +kernel
theorem dX10_lookNumbers_108 : decode cX10_lookNumbers 108 = .ok (.aload_n 0, 1) := by decide +kernel
theorem dX10_lookNumbers_109 : decode cX10_lookNumbers 109 = .ok (.getfield 78, 3) := by decide +kernel
theorem dX10_lookNumbers_112 : decode cX10_lookNumbers 112 = .ok (.if_icmp .ge 48, 3) := by decide +kernel
theorem dX10_lookNumbers_115 : decode cX10_lookNumbers 115 = .ok (.iload 5, 2) := by decide +kernel
theorem dX10_lookNumbers_117 : decode cX10_lookNumbers 117 = .ok (.iload_n 1, 1) := by decide +kernel
theorem dX10_lookNumbers_118 : decode cX10_lookNumbers 118 = .ok (.if_icmp .eq 36, 3) := by decide +kernel
theorem dX10_lookNumbers_121 : decode cX10_lookNumbers 121 = .ok (.aload_n 0, 1) := by decide +kernel
theorem dX10_lookNumbers_122 : decode cX10_lookNumbers 122 = .ok (.iload 5, 2) := by decide +kernel
theorem dX10_lookNumbers_124 : decode cX10_lookNumbers 124 = .ok (.iload_n 2, 1) := by decide +kernel
theorem dX10_lookNumbers_125 : decode cX10_lookNumbers 125 = .ok (.invokevirtual 196, 3) := by decide +kernel
theorem dX10_lookNumbers_128 : decode cX10_lookNumbers 128 = .ok (.ifCond .eq 26, 3) := by decide +kernel
theorem dX10_lookNumbers_131 : decode cX10_lookNumbers 131 = .ok (.aload_n 0, 1) := by decide +kernel
theorem dX10_lookNumbers_132 : decode cX10_lookNumbers 132 = .ok (.iload 5, 2) := by decide +kernel
theorem dX10_lookNumbers_134 : decode cX10_lookNumbers 134 = .ok (.iload_n 2, 1) := by decide +kernel
theorem dX10_lookNumbers_135 : decode cX10_lookNumbers 135 = .ok (.iconst 1, 1) := by decide +kernel
theorem dX10_lookNumbers_136 : decode cX10_lookNumbers 136 = .ok (.isub, 1) := by decide +kernel
theorem dX10_lookNumbers_137 : decode cX10_lookNumbers 137 = .ok (.invokevirtual 202, 3) := by decide +kernel
theorem dX10_lookNumbers_140 : decode cX10_lookNumbers 140 = .ok (.ifCond .eq 14, 3) := by decide +kernel
theorem dX10_lookNumbers_143 : decode cX10_lookNumbers 143 = .ok (.aload_n 0, 1) := by decide +kernel
theorem dX10_lookNumbers_144 : decode cX10_lookNumbers 144 = .ok (.iconst 3, 1) := by decide +kernel
theorem dX10_lookNumbers_145 : decode cX10_lookNumbers 145 = .ok (.aload_n 0, 1) := by decide +kernel
theorem dX10_lookNumbers_146 : decode cX10_lookNumbers 146 = .ok (.iload_n 1, 1) := by decide +kernel
theorem dX10_lookNumbers_147 : decode cX10_lookNumbers 147 = .ok (.iload_n 2, 1) := by decide +kernel
theorem dX10_lookNumbers_148 : decode cX10_lookNumbers 148 = .ok (.invokevirtual 193, 3) := by decide +kernel
theorem dX10_lookNumbers_151 : decode cX10_lookNumbers 151 = .ok (.invokevirtual 177, 3) := by decide +kernel
theorem dX10_lookNumbers_154 : decode cX10_lookNumbers 154 = .ok (.iinc 5 1, 3) := by decide +kernel
theorem dX10_lookNumbers_157 : decode cX10_lookNumbers 157 = .ok (.goto (-51), 3) := by decide +kernel
theorem dX10_lookNumbers_160 : decode cX10_lookNumbers 160 = .ok (.iinc 2 1, 3) := by decide +kernel
theorem dX10_lookNumbers_163 : decode cX10_lookNumbers 163 = .ok (.goto (-151), 3) := by decide +kernel
theorem dX10_lookNumbers_166 : decode cX10_lookNumbers 166 = .ok (.iinc 1 1, 3) := by decide +kernel
theorem dX10_lookNumbers_169 : decode cX10_lookNumbers 169 = .ok (.goto (-167), 3) := by decide +kernel
theorem dX10_lookNumbers_172 : decode cX10_lookNumbers 172 = .ok (.return_, 1) := by decide +kernel
theorem dX10_lookEvents_0 : decode cX10_lookEvents 0 = .ok (.aload_n 0, 1) := by decide +kernel
theorem dX10_lookEvents_1 : decode cX10_lookEvents 1 = .ok (.iconst 0, 1) := by decide +kernel
theorem dX10_lookEvents_2 : decode cX10_lookEvents 2 = .ok (.putfield 208, 3) := by decide +kernel
theorem dX10_lookEvents_5 : decode cX10_lookEvents 5 = .ok (.iconst 0, 1) := by decide +kernel
theorem dX10_lookEvents_6 : decode cX10_lookEvents 6 = .ok (.istore_n 1, 1) := by decide +kernel
theorem dX10_lookEvents_7 : decode cX10_lookEvents 7 = .ok (.iconst 0, 1) := by decide +kernel
theorem dX10_lookEvents_8 : decode cX10_lookEvents 8 = .ok (.istore_n 2, 1) := by decide +kernel
theorem dX10_lookEvents_9 : decode cX10_lookEvents 9 = .ok (.iload_n 2, 1) := by decide +kernel
theorem dX10_lookEvents_10 : decode cX10_lookEvents 10 = .ok (.aload_n 0, 1) := by decide +kernel
theorem dX10_lookEvents_11 : decode cX10_lookEvents 11 = .ok (.getfield 180, 3) := by decide +kernel
theorem dX10_lookEvents_14 : decode cX10_lookEvents 14 = .ok (.if_icmp .ge 271, 3) := by decide +kernel
theorem dX10_lookEvents_17 : decode cX10_lookEvents 17 = .ok (.iconst 0, 1) := by decide +kernel
theorem dX10_lookEvents_18 : decode cX10_lookEvents 18 = .ok (.istore_n 3, 1) := by decide +kernel
theorem dX10_lookEvents_19 : decode cX10_lookEvents 19 = .ok (.iconst (-1), 1) := by decide +kernel
theorem dX10_lookEvents_20 : decode cX10_lookEvents 20 = .ok (.istore 4, 2) := by decide +kernel
theorem dX10_lookEvents_22 : decode cX10_lookEvents 22 = .ok (.iconst 0, 1) := by decide +kernel
theorem dX10_lookEvents_23 : decode cX10_lookEvents 23 = .ok (.istore 5, 2) := by decide +kernel
theorem dX10_lookEvents_25 : decode cX10_lookEvents 25 = .ok (.iconst 0, 1) := by decide +kernel
theorem dX10_lookEvents_26 : decode cX10_lookEvents 26 = .ok (.istore 6, 2) := by decide +kernel
theorem dX10_lookEvents_28 : decode cX10_lookEvents 28 = .ok (.iload 6, 2) := by decide +kernel
theorem dX10_lookEvents_30 : decode cX10_lookEvents 30 = .ok (.aload_n 0, 1) := by decide +kernel
theorem dX10_lookEvents_31 : decode cX10_lookEvents 31 = .ok (.getfield 78, 3) := by decide +kernel
theorem dX10_lookEvents_34 : decode cX10_lookEvents 34 = .ok (.if_icmp .ge 169, 3) := by decide +kernel
theorem dX10_lookEvents_37 : decode cX10_lookEvents 37 = .ok (.aload_n 0, 1) := by decide +kernel
theorem dX10_lookEvents_38 : decode cX10_lookEvents 38 = .ok (.iload 6, 2) := by decide +kernel
theorem dX10_lookEvents_40 : decode cX10_lookEvents 40 = .ok (.iload_n 2, 1) := by decide +kernel
theorem dX10_lookEvents_41 : decode cX10_lookEvents 41 = .ok (.invokevirtual 202, 3) := by decide +kernel
theorem dX10_lookEvents_44 : decode cX10_lookEvents 44 = .ok (.ifCond .eq 153, 3) := by decide +kernel
theorem dX10_lookEvents_47 : decode cX10_lookEvents 47 = .ok (.iload_n 3, 1) := by decide +kernel
theorem dX10_lookEvents_48 : decode cX10_lookEvents 48 = .ok (.ifCond .ne 13, 3) := by decide +kernel
theorem dX10_lookEvents_51 : decode cX10_lookEvents 51 = .ok (.aload_n 0, 1) := by decide +kernel
theorem dX10_lookEvents_52 : decode cX10_lookEvents 52 = .ok (.iload 6, 2) := by decide +kernel
theorem dX10_lookEvents_54 : decode cX10_lookEvents 54 = .ok (.iload_n 2, 1) := by decide +kernel
theorem dX10_lookEvents_55 : decode cX10_lookEvents 55 = .ok (.invokevirtual 193, 3) := by decide +kernel
theorem dX10_lookEvents_58 : decode cX10_lookEvents 58 = .ok (.goto 5, 3) := by decide +kernel
theorem dX10_lookEvents_61 : decode cX10_lookEvents 61 = .ok (.iload 4, 2) := by decide +kernel
theorem dX10_lookEvents_63 : decode cX10_lookEvents 63 = .ok (.istore 4, 2) := by decide +kernel
theorem dX10_lookEvents_65 : decode cX10_lookEvents 65 = .ok (.aload_n 0, 1) := by decide +kernel
theorem dX10_lookEvents_66 : decode cX10_lookEvents 66 = .ok (.getfield 7, 3) := by decide +kernel
theorem dX10_lookEvents_69 : decode cX10_lookEvents 69 = .ok (.iload 6, 2) := by decide +kernel
theorem dX10_lookEvents_71 : decode cX10_lookEvents 71 = .ok (.iaload, 1) := by decide +kernel
theorem dX10_lookEvents_72 : decode cX10_lookEvents 72 = .ok (.aload_n 0, 1) := by decide +kernel
theorem dX10_lookEvents_73 : decode cX10_lookEvents 73 = .ok (.getfield 92, 3) := by decide +kernel
theorem dX10_lookEvents_76 : decode cX10_lookEvents 76 = .ok (.iadd, 1) := by decide +kernel
theorem dX10_lookEvents_77 : decode cX10_lookEvents 77 = .ok (.aload_n 0, 1) := by decide +kernel
theorem dX10_lookEvents_78 : decode cX10_lookEvents 78 = .ok (.iload 6, 2) := by decide +kernel
theorem dX10_lookEvents_80 : decode cX10_lookEvents 80 = .ok (.iload_n 2, 1) := by decide +kernel
theorem dX10_lookEvents_81 : decode cX10_lookEvents 81 = .ok (.invokevirtual 205, 3) := by decide +kernel
theorem dX10_lookEvents_84 : decode cX10_lookEvents 84 = .ok (.iadd, 1) := by decide +kernel
theorem dX10_lookEvents_85 : decode cX10_lookEvents 85 = .ok (.istore 7, 2) := by decide +kernel
theorem dX10_lookEvents_87 : decode cX10_lookEvents 87 = .ok (.iconst 0, 1) := by decide +kernel
theorem dX10_lookEvents_88 : decode cX10_lookEvents 88 = .ok (.istore 8, 2) := by decide +kernel
theorem dX10_lookEvents_90 : decode cX10_lookEvents 90 = .ok (.iload 8, 2) := by decide +kernel
theorem dX10_lookEvents_92 : decode cX10_lookEvents 92 = .ok (.iload 6, 2) := by decide +kernel
theorem dX10_lookEvents_94 : decode cX10_lookEvents 94 = .ok (.if_icmp .ge 56, 3) := by decide +kernel
theorem dX10_lookEvents_97 : decode cX10_lookEvents 97 = .ok (.iload 5, 2) := by decide +kernel
theorem dX10_lookEvents_99 : decode cX10_lookEvents 99 = .ok (.ifCond .ne 38, 3) := by decide +kernel
theorem dX10_lookEvents_102 : decode cX10_lookEvents 102 = .ok (.aload_n 0, 1) := by decide +kernel
theorem dX10_lookEvents_103 : decode cX10_lookEvents 103 = .ok (.iload 8, 2) := by decide +kernel
theorem dX10_lookEvents_105 : decode cX10_lookEvents 105 = .ok (.iload_n 2, 1) := by decide +kernel
theorem dX10_lookEvents_106 : decode cX10_lookEvents 106 = .ok (.invokevirtual 202, 3) := by decide +kernel
theorem dX10_lookEvents_109 : decode cX10_lookEvents 109 = .ok (.ifCond .eq 32, 3) := by decide +kernel
theorem dX10_lookEvents_112 : decode cX10_lookEvents 112 = .ok (.aload_n 0, 1) := by decide +kernel
theorem dX10_lookEvents_113 : decode cX10_lookEvents 113 = .ok (.getfield 7, 3) := by decide +kernel
theorem dX10_lookEvents_116 : decode cX10_lookEvents 116 = .ok (.iload 8, 2) := by decide +kernel
theorem dX10_lookEvents_118 : decode cX10_lookEvents 118 = .ok (.iaload, 1) := by decide +kernel
theorem dX10_lookEvents_119 : decode cX10_lookEvents 119 = .ok (.aload_n 0, 1) := by decide +kernel
theorem dX10_lookEvents_120 : decode cX10_lookEvents 120 = .ok (.getfield 92, 3) := by decide +kernel
theorem dX10_lookEvents_123 : decode cX10_lookEvents 123 = .ok (.iadd, 1) := by decide +kernel
theorem dX10_lookEvents_124 : decode cX10_lookEvents 124 = .ok (.aload_n 0, 1) := by decide +kernel
theorem dX10_lookEvents_125 : decode cX10_lookEvents 125 = .ok (.iload 8, 2) := by decide +kernel
theorem dX10_lookEvents_127 : decode cX10_lookEvents 127 = .ok (.iload_n 2, 1) := by decide +kernel
theorem dX10_lookEvents_128 : decode cX10_lookEvents 128 = .ok (.invokevirtual 205, 3) := by decide +kernel
theorem dX10_lookEvents_131 : decode cX10_lookEvents 131 = .ok (.iadd, 1) := by decide +kernel
theorem dX10_lookEvents_132 : decode cX10_lookEvents 132 = .ok (.iload 7, 2) := by decide +kernel
theorem dX10_lookEvents_134 : decode cX10_lookEvents 134 = .ok (.if_icmp .ne 7, 3) := by decide +kernel
theorem dX10_lookEvents_137 : decode cX10_lookEvents 137 = .ok (.iconst 1, 1) := by decide +kernel
theorem dX10_lookEvents_138 : decode cX10_lookEvents 138 = .ok (.goto 4, 3) := by decide +kernel
theorem dX10_lookEvents_141 : decode cX10_lookEvents 141 = .ok (.iconst 0, 1) := by decide +kernel
theorem dX10_lookEvents_142 : decode cX10_lookEvents 142 = .ok (.istore 5, 2) := by decide +kernel
theorem dX10_lookEvents_144 : decode cX10_lookEvents 144 = .ok (.iinc 8 1, 3) := by decide +kernel
theorem dX10_lookEvents_147 : decode cX10_lookEvents 147 = .ok (.goto (-57), 3) := by decide +kernel
theorem dX10_lookEvents_150 : decode cX10_lookEvents 150 = .ok (.iload_n 3, 1) := by decide +kernel
theorem dX10_lookEvents_151 : decode cX10_lookEvents 151 = .ok (.iconst 4, 1) := by decide +kernel
theorem dX10_lookEvents_152 : decode cX10_lookEvents 152 = .ok (.if_icmp .ge 42, 3) := by decide +kernel
theorem dX10_lookEvents_155 : decode cX10_lookEvents 155 = .ok (.aload_n 0, 1) := by decide +kernel
theorem dX10_lookEvents_156 : decode cX10_lookEvents 156 = .ok (.getfield 208, 3) := by decide +kernel
theorem dX10_lookEvents_159 : decode cX10_lookEvents 159 = .ok (.bipush 40, 2) := by decide +kernel
theorem dX10_lookEvents_161 : decode cX10_lookEvents 161 = .ok (.if_icmp .ge 33, 3) := by decide +kernel
theorem dX10_lookEvents_164 : decode cX10_lookEvents 164 = .ok (.aload_n 0, 1) := by decide +kernel
theorem dX10_lookEvents_165 : decode cX10_lookEvents 165 = .ok (.getfield 72, 3) := by decide +kernel
theorem dX10_lookEvents_168 : decode cX10_lookEvents 168 = .ok (.iconst 4, 1) := by decide +kernel
theorem dX10_lookEvents_169 : decode cX10_lookEvents 169 = .ok (.aload_n 0, 1) := by decide +kernel
theorem dX10_lookEvents_170 : decode cX10_lookEvents 170 = .ok (.getfield 208, 3) := by decide +kernel
theorem dX10_lookEvents_173 : decode cX10_lookEvents 173 = .ok (.imul, 1) := by decide +kernel
theorem dX10_lookEvents_174 : decode cX10_lookEvents 174 = .ok (.iload_n 3, 1) := by decide +kernel
theorem dX10_lookEvents_175 : decode cX10_lookEvents 175 = .ok (.iadd, 1) := by decide +kernel
theorem dX10_lookEvents_176 : decode cX10_lookEvents 176 = .ok (.iload 7, 2) := by decide +kernel
theorem dX10_lookEvents_178 : decode cX10_lookEvents 178 = .ok (.iastore, 1) := by decide +kernel
theorem dX10_lookEvents_179 : decode cX10_lookEvents 179 = .ok (.aload_n 0, 1) := by decide +kernel
theorem dX10_lookEvents_180 : decode cX10_lookEvents 180 = .ok (.getfield 75, 3) := by decide +kernel
theorem dX10_lookEvents_183 : decode cX10_lookEvents 183 = .ok (.iconst 4, 1) := by decide +kernel
theorem dX10_lookEvents_184 : decode cX10_lookEvents 184 = .ok (.aload_n 0, 1) := by decide +kernel
theorem dX10_lookEvents_185 : decode cX10_lookEvents 185 = .ok (.getfield 208, 3) := by decide +kernel
theorem dX10_lookEvents_188 : decode cX10_lookEvents 188 = .ok (.imul, 1) := by decide +kernel
theorem dX10_lookEvents_189 : decode cX10_lookEvents 189 = .ok (.iload_n 3, 1) := by decide +kernel
theorem dX10_lookEvents_190 : decode cX10_lookEvents 190 = .ok (.iadd, 1) := by decide +kernel
theorem dX10_lookEvents_191 : decode cX10_lookEvents 191 = .ok (.iload 6, 2) := by decide +kernel
theorem dX10_lookEvents_193 : decode cX10_lookEvents 193 = .ok (.iastore, 1) := by decide +kernel
theorem dX10_lookEvents_194 : decode cX10_lookEvents 194 = .ok (.iinc 3 1, 3) := by decide +kernel
theorem dX10_lookEvents_197 : decode cX10_lookEvents 197 = .ok (.iinc 6 1, 3) := by decide +kernel
theorem dX10_lookEvents_200 : decode cX10_lookEvents 200 = .ok (.goto (-172), 3) := by decide +kernel
theorem dX10_lookEvents_203 : decode cX10_lookEvents 203 = .ok (.iload_n 3, 1) := by decide +kernel
theorem dX10_lookEvents_204 : decode cX10_lookEvents 204 = .ok (.iconst 4, 1) := by decide +kernel
theorem dX10_lookEvents_205 : decode cX10_lookEvents 205 = .ok (.if_icmp .gt 8, 3) := by decide +kernel
theorem dX10_lookEvents_208 : decode cX10_lookEvents 208 = .ok (.iload 5, 2) := by decide +kernel
theorem dX10_lookEvents_210 : decode cX10_lookEvents 210 = .ok (.ifCond .eq 10, 3) := by decide +kernel
theorem dX10_lookEvents_213 : decode cX10_lookEvents 213 = .ok (.aload_n 0, 1) := by decide +kernel
theorem dX10_lookEvents_214 : decode cX10_lookEvents 214 = .ok (.iconst 4, 1) := by decide +kernel
theorem dX10_lookEvents_215 : decode cX10_lookEvents 215 = .ok (.iload 4, 2) := by decide +kernel
theorem dX10_lookEvents_217 : decode cX10_lookEvents 217 = .ok (.invokevirtual 177, 3) := by decide +kernel
theorem dX10_lookEvents_220 : decode cX10_lookEvents 220 = .ok (.iload_n 3, 1) := by decide +kernel
theorem dX10_lookEvents_221 : decode cX10_lookEvents 221 = .ok (.ifCond .le 25, 3) := by decide +kernel
theorem dX10_lookEvents_224 : decode cX10_lookEvents 224 = .ok (.aload_n 0, 1) := by decide +kernel
theorem dX10_lookEvents_225 : decode cX10_lookEvents 225 = .ok (.getfield 208, 3) := by decide +kernel
theorem dX10_lookEvents_228 : decode cX10_lookEvents 228 = .ok (.bipush 40, 2) := by decide +kernel
theorem dX10_lookEvents_230 : decode cX10_lookEvents 230 = .ok (.if_icmp .ne 16, 3) := by decide +kernel
theorem dX10_lookEvents_233 : decode cX10_lookEvents 233 = .ok (.iload_n 1, 1) := by decide +kernel
theorem dX10_lookEvents_234 : decode cX10_lookEvents 234 = .ok (.ifCond .ne 12, 3) := by decide +kernel
theorem dX10_lookEvents_237 : decode cX10_lookEvents 237 = .ok (.aload_n 0, 1) := by decide +kernel
theorem dX10_lookEvents_238 : decode cX10_lookEvents 238 = .ok (.iconst 5, 1) := by decide +kernel
theorem dX10_lookEvents_239 : decode cX10_lookEvents 239 = .ok (.iload 4, 2) := by decide +kernel
theorem dX10_lookEvents_241 : decode cX10_lookEvents 241 = .ok (.invokevirtual 177, 3) := by decide +kernel
theorem dX10_lookEvents_244 : decode cX10_lookEvents 244 = .ok (.iconst 1, 1) := by decide +kernel
theorem dX10_lookEvents_245 : decode cX10_lookEvents 245 = .ok (.istore_n 1, 1) := by decide +kernel
theorem dX10_lookEvents_246 : decode cX10_lookEvents 246 = .ok (.iload_n 3, 1) := by decide +kernel
theorem dX10_lookEvents_247 : decode cX10_lookEvents 247 = .ok (.ifCond .le 32, 3) := by decide +kernel
theorem dX10_lookEvents_250 : decode cX10_lookEvents 250 = .ok (.aload_n 0, 1) := by decide +kernel
theorem dX10_lookEvents_251 : decode cX10_lookEvents 251 = .ok (.getfield 208, 3) := by decide +kernel
theorem dX10_lookEvents_254 : decode cX10_lookEvents 254 = .ok (.bipush 40, 2) := by decide +kernel
theorem dX10_lookEvents_256 : decode cX10_lookEvents 256 = .ok (.if_icmp .ge 23, 3) := by decide +kernel
theorem dX10_lookEvents_259 : decode cX10_lookEvents 259 = .ok (.aload_n 0, 1) := by decide +kernel
theorem dX10_lookEvents_260 : decode cX10_lookEvents 260 = .ok (.getfield 69, 3) := by decide +kernel
theorem dX10_lookEvents_263 : decode cX10_lookEvents 263 = .ok (.aload_n 0, 1) := by decide +kernel
theorem dX10_lookEvents_264 : decode cX10_lookEvents 264 = .ok (.getfield 208, 3) := by decide +kernel
theorem dX10_lookEvents_267 : decode cX10_lookEvents 267 = .ok (.iload_n 3, 1) := by decide +kernel
theorem dX10_lookEvents_268 : decode cX10_lookEvents 268 = .ok (.iastore, 1) := by decide +kernel
theorem dX10_lookEvents_269 : decode cX10_lookEvents 269 = .ok (.aload_n 0, 1) := by decide +kernel
theorem dX10_lookEvents_270 : decode cX10_lookEvents 270 = .ok (.dup, 1) := by decide +kernel
theorem dX10_lookEvents_271 : decode cX10_lookEvents 271 = .ok (.getfield 208, 3) := by decide +kernel
theorem dX10_lookEvents_274 : decode cX10_lookEvents 274 = .ok (.iconst 1, 1) := by decide +kernel
theorem dX10_lookEvents_275 : decode cX10_lookEvents 275 = .ok (.iadd, 1) := by decide +kernel
theorem dX10_lookEvents_276 : decode cX10_lookEvents 276 = .ok (.putfield 208, 3) := by decide +kernel
theorem dX10_lookEvents_279 : decode cX10_lookEvents 279 = .ok (.iinc 2 1, 3) := by decide +kernel
theorem dX10_lookEvents_282 : decode cX10_lookEvents 282 = .ok (.goto (-273), 3) := by decide +kernel
theorem dX10_lookEvents_285 : decode cX10_lookEvents 285 = .ok (.return_, 1) := by decide +kernel
theorem dX10_read_0 : decode cX10_read 0 = .ok (.aload_n 0, 1) := by decide +kernel
theorem dX10_read_1 : decode cX10_read 1 = .ok (.getfield 78, 3) := by decide +kernel
theorem dX10_read_4 : decode cX10_read 4 = .ok (.ifCond .ne 6, 3) := by decide +kernel
theorem dX10_read_7 : decode cX10_read 7 = .ok (.bipush (-4), 2) := by decide +kernel
theorem dX10_read_9 : decode cX10_read 9 = .ok (.ireturn, 1) := by decide +kernel
theorem dX10_read_10 : decode cX10_read 10 = .ok (.aload_n 0, 1) := by decide +kernel
theorem dX10_read_11 : decode cX10_read 11 = .ok (.iconst 0, 1) := by decide +kernel
theorem dX10_read_12 : decode cX10_read 12 = .ok (.putfield 171, 3) := by decide +kernel
theorem dX10_read_15 : decode cX10_read 15 = .ok (.aload_n 0, 1) := by decide +kernel
theorem dX10_read_16 : decode cX10_read 16 = .ok (.iconst (-1), 1) := by decide +kernel
theorem dX10_read_17 : decode cX10_read 17 = .ok (.putfield 174, 3) := by decide +kernel
theorem dX10_read_20 : decode cX10_read 20 = .ok (.aload_n 0, 1) := by decide +kernel
theorem dX10_read_21 : decode cX10_read 21 = .ok (.invokevirtual 211, 3) := by decide +kernel
theorem dX10_read_24 : decode cX10_read 24 = .ok (.aload_n 0, 1) := by decide +kernel
theorem dX10_read_25 : decode cX10_read 25 = .ok (.getfield 171, 3) := by decide +kernel
theorem dX10_read_28 : decode cX10_read 28 = .ok (.ifCond .ne 7, 3) := by decide +kernel
theorem dX10_read_31 : decode cX10_read 31 = .ok (.aload_n 0, 1) := by decide +kernel
theorem dX10_read_32 : decode cX10_read 32 = .ok (.invokevirtual 214, 3) := by decide +kernel
theorem dX10_read_35 : decode cX10_read 35 = .ok (.aload_n 0, 1) := by decide +kernel
theorem dX10_read_36 : decode cX10_read 36 = .ok (.getfield 171, 3) := by decide +kernel
theorem dX10_read_39 : decode cX10_read 39 = .ok (.ifCond .ne 7, 3) := by decide +kernel
theorem dX10_read_42 : decode cX10_read 42 = .ok (.aload_n 0, 1) := by decide +kernel
theorem dX10_read_43 : decode cX10_read 43 = .ok (.invokevirtual 217, 3) := by decide +kernel
theorem dX10_read_46 : decode cX10_read 46 = .ok (.aload_n 0, 1) := by decide +kernel
theorem dX10_read_47 : decode cX10_read 47 = .ok (.aload_n 0, 1) := by decide +kernel
theorem dX10_read_48 : decode cX10_read 48 = .ok (.getfield 171, 3) := by decide +kernel
theorem dX10_read_51 : decode cX10_read 51 = .ok (.ifCond .ne 7, 3) := by decide +kernel
theorem dX10_read_54 : decode cX10_read 54 = .ok (.iconst (-1), 1) := by decide +kernel
theorem dX10_read_55 : decode cX10_read 55 = .ok (.goto 7, 3) := by decide +kernel
theorem dX10_read_58 : decode cX10_read 58 = .ok (.aload_n 0, 1) := by decide +kernel
theorem dX10_read_59 : decode cX10_read 59 = .ok (.getfield 174, 3) := by decide +kernel
theorem dX10_read_62 : decode cX10_read 62 = .ok (.putfield 44, 3) := by decide +kernel
theorem dX10_read_65 : decode cX10_read 65 = .ok (.aload_n 0, 1) := by decide +kernel
theorem dX10_read_66 : decode cX10_read 66 = .ok (.iconst 0, 1) := by decide +kernel
theorem dX10_read_67 : decode cX10_read 67 = .ok (.putfield 106, 3) := by decide +kernel
theorem dX10_read_70 : decode cX10_read 70 = .ok (.aload_n 0, 1) := by decide +kernel
theorem dX10_read_71 : decode cX10_read 71 = .ok (.getfield 171, 3) := by decide +kernel
theorem dX10_read_74 : decode cX10_read 74 = .ok (.ifCond .le 11, 3) := by decide +kernel
theorem dX10_read_77 : decode cX10_read 77 = .ok (.bipush (-10), 2) := by decide +kernel
theorem dX10_read_79 : decode cX10_read 79 = .ok (.aload_n 0, 1) := by decide +kernel
theorem dX10_read_80 : decode cX10_read 80 = .ok (.getfield 171, 3) := by decide +kernel
theorem dX10_read_83 : decode cX10_read 83 = .ok (.isub, 1) := by decide +kernel
theorem dX10_read_84 : decode cX10_read 84 = .ok (.ireturn, 1) := by decide +kernel
theorem dX10_read_85 : decode cX10_read 85 = .ok (.aload_n 0, 1) := by decide +kernel
theorem dX10_read_86 : decode cX10_read 86 = .ok (.aload_n 0, 1) := by decide +kernel
theorem dX10_read_87 : decode cX10_read 87 = .ok (.getfield 208, 3) := by decide +kernel
theorem dX10_read_90 : decode cX10_read 90 = .ok (.putfield 81, 3) := by decide +kernel
theorem dX10_read_93 : decode cX10_read 93 = .ok (.iconst 0, 1) := by decide +kernel
theorem dX10_read_94 : decode cX10_read 94 = .ok (.istore_n 1, 1) := by decide +kernel
theorem dX10_read_95 : decode cX10_read 95 = .ok (.iload_n 1, 1) := by decide +kernel
theorem dX10_read_96 : decode cX10_read 96 = .ok (.aload_n 0, 1) := by decide +kernel
theorem dX10_read_97 : decode cX10_read 97 = .ok (.getfield 81, 3) := by decide +kernel
theorem dX10_read_100 : decode cX10_read 100 = .ok (.if_icmp .ge 79, 3) := by decide +kernel
theorem dX10_read_103 : decode cX10_read 103 = .ok (.aload_n 0, 1) := by decide +kernel
theorem dX10_read_104 : decode cX10_read 104 = .ok (.getfield 20, 3) := by decide +kernel
theorem dX10_read_107 : decode cX10_read 107 = .ok (.iload_n 1, 1) := by decide +kernel
theorem dX10_read_108 : decode cX10_read 108 = .ok (.aload_n 0, 1) := by decide +kernel
theorem dX10_read_109 : decode cX10_read 109 = .ok (.getfield 69, 3) := by decide +kernel
theorem dX10_read_112 : decode cX10_read 112 = .ok (.iload_n 1, 1) := by decide +kernel
theorem dX10_read_113 : decode cX10_read 113 = .ok (.iaload, 1) := by decide +kernel
theorem dX10_read_114 : decode cX10_read 114 = .ok (.iastore, 1) := by decide +kernel
theorem dX10_read_115 : decode cX10_read 115 = .ok (.iconst 0, 1) := by decide +kernel
theorem dX10_read_116 : decode cX10_read 116 = .ok (.istore_n 2, 1) := by decide +kernel
theorem dX10_read_117 : decode cX10_read 117 = .ok (.iload_n 2, 1) := by decide +kernel
theorem dX10_read_118 : decode cX10_read 118 = .ok (.aload_n 0, 1) := by decide +kernel
theorem dX10_read_119 : decode cX10_read 119 = .ok (.getfield 69, 3) := by decide +kernel
theorem dX10_read_122 : decode cX10_read 122 = .ok (.iload_n 1, 1) := by decide +kernel
theorem dX10_read_123 : decode cX10_read 123 = .ok (.iaload, 1) := by decide +kernel
theorem dX10_read_124 : decode cX10_read 124 = .ok (.if_icmp .ge 49, 3) := by decide +kernel
theorem dX10_read_127 : decode cX10_read 127 = .ok (.aload_n 0, 1) := by decide +kernel
theorem dX10_read_128 : decode cX10_read 128 = .ok (.getfield 23, 3) := by decide +kernel
theorem dX10_read_131 : decode cX10_read 131 = .ok (.iconst 4, 1) := by decide +kernel
theorem dX10_read_132 : decode cX10_read 132 = .ok (.iload_n 1, 1) := by decide +kernel
theorem dX10_read_133 : decode cX10_read 133 = .ok (.imul, 1) := by decide +kernel
theorem dX10_read_134 : decode cX10_read 134 = .ok (.iload_n 2, 1) := by decide +kernel
theorem dX10_read_135 : decode cX10_read 135 = .ok (.iadd, 1) := by decide +kernel
theorem dX10_read_136 : decode cX10_read 136 = .ok (.aload_n 0, 1) := by decide +kernel
theorem dX10_read_137 : decode cX10_read 137 = .ok (.getfield 72, 3) := by decide +kernel
theorem dX10_read_140 : decode cX10_read 140 = .ok (.iconst 4, 1) := by decide +kernel
theorem dX10_read_141 : decode cX10_read 141 = .ok (.iload_n 1, 1) := by decide +kernel
theorem dX10_read_142 : decode cX10_read 142 = .ok (.imul, 1) := by decide +kernel
theorem dX10_read_143 : decode cX10_read 143 = .ok (.iload_n 2, 1) := by decide +kernel
theorem dX10_read_144 : decode cX10_read 144 = .ok (.iadd, 1) := by decide +kernel
theorem dX10_read_145 : decode cX10_read 145 = .ok (.iaload, 1) := by decide +kernel
theorem dX10_read_146 : decode cX10_read 146 = .ok (.iastore, 1) := by decide +kernel
theorem dX10_read_147 : decode cX10_read 147 = .ok (.aload_n 0, 1) := by decide +kernel
theorem dX10_read_148 : decode cX10_read 148 = .ok (.getfield 26, 3) := by decide +kernel
theorem dX10_read_151 : decode cX10_read 151 = .ok (.iconst 4, 1) := by decide +kernel
theorem dX10_read_152 : decode cX10_read 152 = .ok (.iload_n 1, 1) := by decide +kernel
theorem dX10_read_153 : decode cX10_read 153 = .ok (.imul, 1) := by decide +kernel
theorem dX10_read_154 : decode cX10_read 154 = .ok (.iload_n 2, 1) := by decide +kernel
theorem dX10_read_155 : decode cX10_read 155 = .ok (.iadd, 1) := by decide +kernel
theorem dX10_read_156 : decode cX10_read 156 = .ok (.aload_n 0, 1) := by decide +kernel
theorem dX10_read_157 : decode cX10_read 157 = .ok (.getfield 75, 3) := by decide +kernel
theorem dX10_read_160 : decode cX10_read 160 = .ok (.iconst 4, 1) := by decide +kernel
theorem dX10_read_161 : decode cX10_read 161 = .ok (.iload_n 1, 1) := by decide +kernel
theorem dX10_read_162 : decode cX10_read 162 = .ok (.imul, 1) := by decide +kernel
theorem dX10_read_163 : decode cX10_read 163 = .ok (.iload_n 2, 1) := by decide +kernel
theorem dX10_read_164 : decode cX10_read 164 = .ok (.iadd, 1) := by decide +kernel
theorem dX10_read_165 : decode cX10_read 165 = .ok (.iaload, 1) := by decide +kernel
theorem dX10_read_166 : decode cX10_read 166 = .ok (.iastore, 1) := by decide +kernel
theorem dX10_read_167 : decode cX10_read 167 = .ok (.iinc 2 1, 3) := by decide +kernel
theorem dX10_read_170 : decode cX10_read 170 = .ok (.goto (-53), 3) := by decide +kernel
theorem dX10_read_173 : decode cX10_read 173 = .ok (.iinc 1 1, 3) := by decide +kernel
theorem dX10_read_176 : decode cX10_read 176 = .ok (.goto (-81), 3) := by decide +kernel
theorem dX10_read_179 : decode cX10_read 179 = .ok (.aload_n 0, 1) := by decide +kernel
theorem dX10_read_180 : decode cX10_read 180 = .ok (.iconst 0, 1) := by decide +kernel
theorem dX10_read_181 : decode cX10_read 181 = .ok (.putfield 88, 3) := by decide +kernel
theorem dX10_read_184 : decode cX10_read 184 = .ok (.aload_n 0, 1) := by decide +kernel
theorem dX10_read_185 : decode cX10_read 185 = .ok (.getfield 81, 3) := by decide +kernel
theorem dX10_read_188 : decode cX10_read 188 = .ok (.ireturn, 1) := by decide +kernel
theorem dX10_place_0 : decode cX10_place 0 = .ok (.aload_n 0, 1) := by decide +kernel
theorem dX10_place_1 : decode cX10_place 1 = .ok (.getfield 44, 3) := by decide +kernel
theorem dX10_place_4 : decode cX10_place 4 = .ok (.ireturn, 1) := by decide +kernel
theorem dL_law_0 : decode cL_law 0 = .ok (.new 7, 3) := by decide +kernel
theorem dL_law_3 : decode cL_law 3 = .ok (.dup, 1) := by decide +kernel
theorem dL_law_4 : decode cL_law 4 = .ok (.invokespecial 9, 3) := by decide +kernel
theorem dL_law_7 : decode cL_law 7 = .ok (.astore_n 1, 1) := by decide +kernel
theorem dL_law_8 : decode cL_law 8 = .ok (.new 10, 3) := by decide +kernel
theorem dL_law_11 : decode cL_law 11 = .ok (.dup, 1) := by decide +kernel
theorem dL_law_12 : decode cL_law 12 = .ok (.invokespecial 12, 3) := by decide +kernel
theorem dL_law_15 : decode cL_law 15 = .ok (.astore_n 2, 1) := by decide +kernel
theorem dL_law_16 : decode cL_law 16 = .ok (.iconst 0, 1) := by decide +kernel
theorem dL_law_17 : decode cL_law 17 = .ok (.istore_n 3, 1) := by decide +kernel
theorem dL_law_18 : decode cL_law 18 = .ok (.iload_n 3, 1) := by decide +kernel
theorem dL_law_19 : decode cL_law 19 = .ok (.aload_n 0, 1) := by decide +kernel
theorem dL_law_20 : decode cL_law 20 = .ok (.arraylength, 1) := by decide +kernel
theorem dL_law_21 : decode cL_law 21 = .ok (.iconst 4, 1) := by decide +kernel
theorem dL_law_22 : decode cL_law 22 = .ok (.isub, 1) := by decide +kernel
theorem dL_law_23 : decode cL_law 23 = .ok (.if_icmp .gt 689, 3) := by decide +kernel
theorem dL_law_26 : decode cL_law 26 = .ok (.aload_n 0, 1) := by decide +kernel
theorem dL_law_27 : decode cL_law 27 = .ok (.iload_n 3, 1) := by decide +kernel
theorem dL_law_28 : decode cL_law 28 = .ok (.iaload, 1) := by decide +kernel
theorem dL_law_29 : decode cL_law 29 = .ok (.bipush 31, 2) := by decide +kernel
theorem dL_law_31 : decode cL_law 31 = .ok (.iand, 1) := by decide +kernel
theorem dL_law_32 : decode cL_law 32 = .ok (.tableswitch 674 0 23 #[112, 135, 148, 171, 194, 227, 250, 273, 316, 329, 352, 385, 418, 451, 474, 517, 530, 563, 576, 599, 622, 635, 648, 661], 112) := by decide +kernel
theorem dL_law_144 : decode cL_law 144 = .ok (.aload_n 1, 1) := by decide +kernel
theorem dL_law_145 : decode cL_law 145 = .ok (.aload_n 0, 1) := by decide +kernel
theorem dL_law_146 : decode cL_law 146 = .ok (.iload_n 3, 1) := by decide +kernel
theorem dL_law_147 : decode cL_law 147 = .ok (.iconst 1, 1) := by decide +kernel
theorem dL_law_148 : decode cL_law 148 = .ok (.iadd, 1) := by decide +kernel
theorem dL_law_149 : decode cL_law 149 = .ok (.iaload, 1) := by decide +kernel
theorem dL_law_150 : decode cL_law 150 = .ok (.invokevirtual 13, 3) := by decide +kernel
theorem dL_law_153 : decode cL_law 153 = .ok (.aload_n 2, 1) := by decide +kernel
theorem dL_law_154 : decode cL_law 154 = .ok (.aload_n 0, 1) := by decide +kernel
theorem dL_law_155 : decode cL_law 155 = .ok (.iload_n 3, 1) := by decide +kernel
theorem dL_law_156 : decode cL_law 156 = .ok (.iconst 1, 1) := by decide +kernel
theorem dL_law_157 : decode cL_law 157 = .ok (.iadd, 1) := by decide +kernel
theorem dL_law_158 : decode cL_law 158 = .ok (.iaload, 1) := by decide +kernel
theorem dL_law_159 : decode cL_law 159 = .ok (.invokevirtual 17, 3) := by decide +kernel
theorem dL_law_162 : decode cL_law 162 = .ok (.if_icmp .eq 544, 3) := by decide +kernel
theorem dL_law_165 : decode cL_law 165 = .ok (.iconst 0, 1) := by decide +kernel
theorem dL_law_166 : decode cL_law 166 = .ok (.ireturn, 1) := by decide +kernel
theorem dL_law_167 : decode cL_law 167 = .ok (.aload_n 1, 1) := by decide +kernel
theorem dL_law_168 : decode cL_law 168 = .ok (.invokevirtual 18, 3) := by decide +kernel
theorem dL_law_171 : decode cL_law 171 = .ok (.aload_n 2, 1) := by decide +kernel
theorem dL_law_172 : decode cL_law 172 = .ok (.invokevirtual 22, 3) := by decide +kernel
theorem dL_law_175 : decode cL_law 175 = .ok (.if_icmp .eq 531, 3) := by decide +kernel
theorem dL_law_178 : decode cL_law 178 = .ok (.iconst 0, 1) := by decide +kernel
theorem dL_law_179 : decode cL_law 179 = .ok (.ireturn, 1) := by decide +kernel
theorem dL_law_180 : decode cL_law 180 = .ok (.aload_n 1, 1) := by decide +kernel
theorem dL_law_181 : decode cL_law 181 = .ok (.aload_n 0, 1) := by decide +kernel
theorem dL_law_182 : decode cL_law 182 = .ok (.iload_n 3, 1) := by decide +kernel
theorem dL_law_183 : decode cL_law 183 = .ok (.iconst 1, 1) := by decide +kernel
theorem dL_law_184 : decode cL_law 184 = .ok (.iadd, 1) := by decide +kernel
theorem dL_law_185 : decode cL_law 185 = .ok (.iaload, 1) := by decide +kernel
theorem dL_law_186 : decode cL_law 186 = .ok (.invokevirtual 23, 3) := by decide +kernel
theorem dL_law_189 : decode cL_law 189 = .ok (.aload_n 2, 1) := by decide +kernel
theorem dL_law_190 : decode cL_law 190 = .ok (.aload_n 0, 1) := by decide +kernel
theorem dL_law_191 : decode cL_law 191 = .ok (.iload_n 3, 1) := by decide +kernel
theorem dL_law_192 : decode cL_law 192 = .ok (.iconst 1, 1) := by decide +kernel
theorem dL_law_193 : decode cL_law 193 = .ok (.iadd, 1) := by decide +kernel
theorem dL_law_194 : decode cL_law 194 = .ok (.iaload, 1) := by decide +kernel
theorem dL_law_195 : decode cL_law 195 = .ok (.invokevirtual 26, 3) := by decide +kernel
theorem dL_law_198 : decode cL_law 198 = .ok (.if_icmp .eq 508, 3) := by decide +kernel
theorem dL_law_201 : decode cL_law 201 = .ok (.iconst 0, 1) := by decide +kernel
theorem dL_law_202 : decode cL_law 202 = .ok (.ireturn, 1) := by decide +kernel
theorem dL_law_203 : decode cL_law 203 = .ok (.aload_n 1, 1) := by decide +kernel
theorem dL_law_204 : decode cL_law 204 = .ok (.aload_n 0, 1) := by decide +kernel
theorem dL_law_205 : decode cL_law 205 = .ok (.iload_n 3, 1) := by decide +kernel
theorem dL_law_206 : decode cL_law 206 = .ok (.iconst 1, 1) := by decide +kernel
theorem dL_law_207 : decode cL_law 207 = .ok (.iadd, 1) := by decide +kernel
theorem dL_law_208 : decode cL_law 208 = .ok (.iaload, 1) := by decide +kernel
theorem dL_law_209 : decode cL_law 209 = .ok (.invokevirtual 27, 3) := by decide +kernel
theorem dL_law_212 : decode cL_law 212 = .ok (.aload_n 2, 1) := by decide +kernel
theorem dL_law_213 : decode cL_law 213 = .ok (.aload_n 0, 1) := by decide +kernel
theorem dL_law_214 : decode cL_law 214 = .ok (.iload_n 3, 1) := by decide +kernel
theorem dL_law_215 : decode cL_law 215 = .ok (.iconst 1, 1) := by decide +kernel
theorem dL_law_216 : decode cL_law 216 = .ok (.iadd, 1) := by decide +kernel
theorem dL_law_217 : decode cL_law 217 = .ok (.iaload, 1) := by decide +kernel
theorem dL_law_218 : decode cL_law 218 = .ok (.invokevirtual 30, 3) := by decide +kernel
theorem dL_law_221 : decode cL_law 221 = .ok (.if_icmp .eq 485, 3) := by decide +kernel
theorem dL_law_224 : decode cL_law 224 = .ok (.iconst 0, 1) := by decide +kernel
theorem dL_law_225 : decode cL_law 225 = .ok (.ireturn, 1) := by decide +kernel
theorem dL_law_226 : decode cL_law 226 = .ok (.aload_n 1, 1) := by decide +kernel
theorem dL_law_227 : decode cL_law 227 = .ok (.aload_n 0, 1) := by decide +kernel
theorem dL_law_228 : decode cL_law 228 = .ok (.iload_n 3, 1) := by decide +kernel
theorem dL_law_229 : decode cL_law 229 = .ok (.iconst 1, 1) := by decide +kernel
theorem dL_law_230 : decode cL_law 230 = .ok (.iadd, 1) := by decide +kernel
theorem dL_law_231 : decode cL_law 231 = .ok (.iaload, 1) := by decide +kernel
theorem dL_law_232 : decode cL_law 232 = .ok (.aload_n 0, 1) := by decide +kernel
theorem dL_law_233 : decode cL_law 233 = .ok (.iload_n 3, 1) := by decide +kernel
theorem dL_law_234 : decode cL_law 234 = .ok (.iconst 2, 1) := by decide +kernel
theorem dL_law_235 : decode cL_law 235 = .ok (.iadd, 1) := by decide +kernel
theorem dL_law_236 : decode cL_law 236 = .ok (.iaload, 1) := by decide +kernel
theorem dL_law_237 : decode cL_law 237 = .ok (.invokevirtual 31, 3) := by decide +kernel
theorem dL_law_240 : decode cL_law 240 = .ok (.aload_n 2, 1) := by decide +kernel
theorem dL_law_241 : decode cL_law 241 = .ok (.aload_n 0, 1) := by decide +kernel
theorem dL_law_242 : decode cL_law 242 = .ok (.iload_n 3, 1) := by decide +kernel
theorem dL_law_243 : decode cL_law 243 = .ok (.iconst 1, 1) := by decide +kernel
theorem dL_law_244 : decode cL_law 244 = .ok (.iadd, 1) := by decide +kernel
theorem dL_law_245 : decode cL_law 245 = .ok (.iaload, 1) := by decide +kernel
theorem dL_law_246 : decode cL_law 246 = .ok (.aload_n 0, 1) := by decide +kernel
theorem dL_law_247 : decode cL_law 247 = .ok (.iload_n 3, 1) := by decide +kernel
theorem dL_law_248 : decode cL_law 248 = .ok (.iconst 2, 1) := by decide +kernel
theorem dL_law_249 : decode cL_law 249 = .ok (.iadd, 1) := by decide +kernel
theorem dL_law_250 : decode cL_law 250 = .ok (.iaload, 1) := by decide +kernel
theorem dL_law_251 : decode cL_law 251 = .ok (.invokevirtual 35, 3) := by decide +kernel
theorem dL_law_254 : decode cL_law 254 = .ok (.if_icmp .eq 452, 3) := by decide +kernel
theorem dL_law_257 : decode cL_law 257 = .ok (.iconst 0, 1) := by decide +kernel
theorem dL_law_258 : decode cL_law 258 = .ok (.ireturn, 1) := by decide +kernel
theorem dL_law_259 : decode cL_law 259 = .ok (.aload_n 1, 1) := by decide +kernel
theorem dL_law_260 : decode cL_law 260 = .ok (.aload_n 0, 1) := by decide +kernel
theorem dL_law_261 : decode cL_law 261 = .ok (.iload_n 3, 1) := by decide +kernel
theorem dL_law_262 : decode cL_law 262 = .ok (.iconst 1, 1) := by decide +kernel
theorem dL_law_263 : decode cL_law 263 = .ok (.iadd, 1) := by decide +kernel
theorem dL_law_264 : decode cL_law 264 = .ok (.iaload, 1) := by decide +kernel
theorem dL_law_265 : decode cL_law 265 = .ok (.invokevirtual 36, 3) := by decide +kernel
theorem dL_law_268 : decode cL_law 268 = .ok (.aload_n 2, 1) := by decide +kernel
theorem dL_law_269 : decode cL_law 269 = .ok (.aload_n 0, 1) := by decide +kernel
theorem dL_law_270 : decode cL_law 270 = .ok (.iload_n 3, 1) := by decide +kernel
theorem dL_law_271 : decode cL_law 271 = .ok (.iconst 1, 1) := by decide +kernel
theorem dL_law_272 : decode cL_law 272 = .ok (.iadd, 1) := by decide +kernel
theorem dL_law_273 : decode cL_law 273 = .ok (.iaload, 1) := by decide +kernel
theorem dL_law_274 : decode cL_law 274 = .ok (.invokevirtual 39, 3) := by decide +kernel
theorem dL_law_277 : decode cL_law 277 = .ok (.if_icmp .eq 429, 3) := by decide +kernel
theorem dL_law_280 : decode cL_law 280 = .ok (.iconst 0, 1) := by decide +kernel
theorem dL_law_281 : decode cL_law 281 = .ok (.ireturn, 1) := by decide +kernel
theorem dL_law_282 : decode cL_law 282 = .ok (.aload_n 1, 1) := by decide +kernel
theorem dL_law_283 : decode cL_law 283 = .ok (.aload_n 0, 1) := by decide +kernel
theorem dL_law_284 : decode cL_law 284 = .ok (.iload_n 3, 1) := by decide +kernel
theorem dL_law_285 : decode cL_law 285 = .ok (.iconst 1, 1) := by decide +kernel
theorem dL_law_286 : decode cL_law 286 = .ok (.iadd, 1) := by decide +kernel
theorem dL_law_287 : decode cL_law 287 = .ok (.iaload, 1) := by decide +kernel
theorem dL_law_288 : decode cL_law 288 = .ok (.invokevirtual 40, 3) := by decide +kernel
theorem dL_law_291 : decode cL_law 291 = .ok (.aload_n 2, 1) := by decide +kernel
theorem dL_law_292 : decode cL_law 292 = .ok (.aload_n 0, 1) := by decide +kernel
theorem dL_law_293 : decode cL_law 293 = .ok (.iload_n 3, 1) := by decide +kernel
theorem dL_law_294 : decode cL_law 294 = .ok (.iconst 1, 1) := by decide +kernel
theorem dL_law_295 : decode cL_law 295 = .ok (.iadd, 1) := by decide +kernel
theorem dL_law_296 : decode cL_law 296 = .ok (.iaload, 1) := by decide +kernel
theorem dL_law_297 : decode cL_law 297 = .ok (.invokevirtual 43, 3) := by decide +kernel
theorem dL_law_300 : decode cL_law 300 = .ok (.if_icmp .eq 406, 3) := by decide +kernel
theorem dL_law_303 : decode cL_law 303 = .ok (.iconst 0, 1) := by decide +kernel
theorem dL_law_304 : decode cL_law 304 = .ok (.ireturn, 1) := by decide +kernel
theorem dL_law_305 : decode cL_law 305 = .ok (.aload_n 1, 1) := by decide +kernel
theorem dL_law_306 : decode cL_law 306 = .ok (.aload_n 0, 1) := by decide +kernel
theorem dL_law_307 : decode cL_law 307 = .ok (.iload_n 3, 1) := by decide +kernel
theorem dL_law_308 : decode cL_law 308 = .ok (.iconst 1, 1) := by decide +kernel
theorem dL_law_309 : decode cL_law 309 = .ok (.iadd, 1) := by decide +kernel
theorem dL_law_310 : decode cL_law 310 = .ok (.iaload, 1) := by decide +kernel
theorem dL_law_311 : decode cL_law 311 = .ok (.aload_n 0, 1) := by decide +kernel
theorem dL_law_312 : decode cL_law 312 = .ok (.iload_n 3, 1) := by decide +kernel
theorem dL_law_313 : decode cL_law 313 = .ok (.iconst 2, 1) := by decide +kernel
theorem dL_law_314 : decode cL_law 314 = .ok (.iadd, 1) := by decide +kernel
theorem dL_law_315 : decode cL_law 315 = .ok (.iaload, 1) := by decide +kernel
theorem dL_law_316 : decode cL_law 316 = .ok (.aload_n 0, 1) := by decide +kernel
theorem dL_law_317 : decode cL_law 317 = .ok (.iload_n 3, 1) := by decide +kernel
theorem dL_law_318 : decode cL_law 318 = .ok (.iconst 3, 1) := by decide +kernel
theorem dL_law_319 : decode cL_law 319 = .ok (.iadd, 1) := by decide +kernel
theorem dL_law_320 : decode cL_law 320 = .ok (.iaload, 1) := by decide +kernel
theorem dL_law_321 : decode cL_law 321 = .ok (.invokevirtual 44, 3) := by decide +kernel
theorem dL_law_324 : decode cL_law 324 = .ok (.aload_n 2, 1) := by decide +kernel
theorem dL_law_325 : decode cL_law 325 = .ok (.aload_n 0, 1) := by decide +kernel
theorem dL_law_326 : decode cL_law 326 = .ok (.iload_n 3, 1) := by decide +kernel
theorem dL_law_327 : decode cL_law 327 = .ok (.iconst 1, 1) := by decide +kernel
theorem dL_law_328 : decode cL_law 328 = .ok (.iadd, 1) := by decide +kernel
theorem dL_law_329 : decode cL_law 329 = .ok (.iaload, 1) := by decide +kernel
theorem dL_law_330 : decode cL_law 330 = .ok (.aload_n 0, 1) := by decide +kernel
theorem dL_law_331 : decode cL_law 331 = .ok (.iload_n 3, 1) := by decide +kernel
theorem dL_law_332 : decode cL_law 332 = .ok (.iconst 2, 1) := by decide +kernel
theorem dL_law_333 : decode cL_law 333 = .ok (.iadd, 1) := by decide +kernel
theorem dL_law_334 : decode cL_law 334 = .ok (.iaload, 1) := by decide +kernel
theorem dL_law_335 : decode cL_law 335 = .ok (.aload_n 0, 1) := by decide +kernel
theorem dL_law_336 : decode cL_law 336 = .ok (.iload_n 3, 1) := by decide +kernel
theorem dL_law_337 : decode cL_law 337 = .ok (.iconst 3, 1) := by decide +kernel
theorem dL_law_338 : decode cL_law 338 = .ok (.iadd, 1) := by decide +kernel
theorem dL_law_339 : decode cL_law 339 = .ok (.iaload, 1) := by decide +kernel
theorem dL_law_340 : decode cL_law 340 = .ok (.invokevirtual 48, 3) := by decide +kernel
theorem dL_law_343 : decode cL_law 343 = .ok (.if_icmp .eq 363, 3) := by decide +kernel
theorem dL_law_346 : decode cL_law 346 = .ok (.iconst 0, 1) := by decide +kernel
theorem dL_law_347 : decode cL_law 347 = .ok (.ireturn, 1) := by decide +kernel
theorem dL_law_348 : decode cL_law 348 = .ok (.aload_n 1, 1) := by decide +kernel
theorem dL_law_349 : decode cL_law 349 = .ok (.invokevirtual 49, 3) := by decide +kernel
theorem dL_law_352 : decode cL_law 352 = .ok (.aload_n 2, 1) := by decide +kernel
theorem dL_law_353 : decode cL_law 353 = .ok (.invokevirtual 52, 3) := by decide +kernel
theorem dL_law_356 : decode cL_law 356 = .ok (.if_icmp .eq 350, 3) := by decide +kernel
theorem dL_law_359 : decode cL_law 359 = .ok (.iconst 0, 1) := by decide +kernel
theorem dL_law_360 : decode cL_law 360 = .ok (.ireturn, 1) := by decide +kernel
theorem dL_law_361 : decode cL_law 361 = .ok (.aload_n 1, 1) := by decide +kernel
theorem dL_law_362 : decode cL_law 362 = .ok (.aload_n 0, 1) := by decide +kernel
theorem dL_law_363 : decode cL_law 363 = .ok (.iload_n 3, 1) := by decide +kernel
theorem dL_law_364 : decode cL_law 364 = .ok (.iconst 1, 1) := by decide +kernel
theorem dL_law_365 : decode cL_law 365 = .ok (.iadd, 1) := by decide +kernel
theorem dL_law_366 : decode cL_law 366 = .ok (.iaload, 1) := by decide +kernel
theorem dL_law_367 : decode cL_law 367 = .ok (.invokevirtual 53, 3) := by decide +kernel
theorem dL_law_370 : decode cL_law 370 = .ok (.aload_n 2, 1) := by decide +kernel
theorem dL_law_371 : decode cL_law 371 = .ok (.aload_n 0, 1) := by decide +kernel
theorem dL_law_372 : decode cL_law 372 = .ok (.iload_n 3, 1) := by decide +kernel
theorem dL_law_373 : decode cL_law 373 = .ok (.iconst 1, 1) := by decide +kernel
theorem dL_law_374 : decode cL_law 374 = .ok (.iadd, 1) := by decide +kernel
theorem dL_law_375 : decode cL_law 375 = .ok (.iaload, 1) := by decide +kernel
theorem dL_law_376 : decode cL_law 376 = .ok (.invokevirtual 56, 3) := by decide +kernel
theorem dL_law_379 : decode cL_law 379 = .ok (.if_icmp .eq 327, 3) := by decide +kernel
theorem dL_law_382 : decode cL_law 382 = .ok (.iconst 0, 1) := by decide +kernel
theorem dL_law_383 : decode cL_law 383 = .ok (.ireturn, 1) := by decide +kernel
theorem dL_law_384 : decode cL_law 384 = .ok (.aload_n 1, 1) := by decide +kernel
theorem dL_law_385 : decode cL_law 385 = .ok (.aload_n 0, 1) := by decide +kernel
theorem dL_law_386 : decode cL_law 386 = .ok (.iload_n 3, 1) := by decide +kernel
theorem dL_law_387 : decode cL_law 387 = .ok (.iconst 1, 1) := by decide +kernel
theorem dL_law_388 : decode cL_law 388 = .ok (.iadd, 1) := by decide +kernel
theorem dL_law_389 : decode cL_law 389 = .ok (.iaload, 1) := by decide +kernel
theorem dL_law_390 : decode cL_law 390 = .ok (.aload_n 0, 1) := by decide +kernel
theorem dL_law_391 : decode cL_law 391 = .ok (.iload_n 3, 1) := by decide +kernel
theorem dL_law_392 : decode cL_law 392 = .ok (.iconst 2, 1) := by decide +kernel
theorem dL_law_393 : decode cL_law 393 = .ok (.iadd, 1) := by decide +kernel
theorem dL_law_394 : decode cL_law 394 = .ok (.iaload, 1) := by decide +kernel
theorem dL_law_395 : decode cL_law 395 = .ok (.invokevirtual 57, 3) := by decide +kernel
theorem dL_law_398 : decode cL_law 398 = .ok (.aload_n 2, 1) := by decide +kernel
theorem dL_law_399 : decode cL_law 399 = .ok (.aload_n 0, 1) := by decide +kernel
theorem dL_law_400 : decode cL_law 400 = .ok (.iload_n 3, 1) := by decide +kernel
theorem dL_law_401 : decode cL_law 401 = .ok (.iconst 1, 1) := by decide +kernel
theorem dL_law_402 : decode cL_law 402 = .ok (.iadd, 1) := by decide +kernel
theorem dL_law_403 : decode cL_law 403 = .ok (.iaload, 1) := by decide +kernel
theorem dL_law_404 : decode cL_law 404 = .ok (.aload_n 0, 1) := by decide +kernel
theorem dL_law_405 : decode cL_law 405 = .ok (.iload_n 3, 1) := by decide +kernel
theorem dL_law_406 : decode cL_law 406 = .ok (.iconst 2, 1) := by decide +kernel
theorem dL_law_407 : decode cL_law 407 = .ok (.iadd, 1) := by decide +kernel
theorem dL_law_408 : decode cL_law 408 = .ok (.iaload, 1) := by decide +kernel
theorem dL_law_409 : decode cL_law 409 = .ok (.invokevirtual 60, 3) := by decide +kernel
theorem dL_law_412 : decode cL_law 412 = .ok (.if_icmp .eq 294, 3) := by decide +kernel
theorem dL_law_415 : decode cL_law 415 = .ok (.iconst 0, 1) := by decide +kernel
theorem dL_law_416 : decode cL_law 416 = .ok (.ireturn, 1) := by decide +kernel
theorem dL_law_417 : decode cL_law 417 = .ok (.aload_n 1, 1) := by decide +kernel
theorem dL_law_418 : decode cL_law 418 = .ok (.aload_n 0, 1) := by decide +kernel
theorem dL_law_419 : decode cL_law 419 = .ok (.iload_n 3, 1) := by decide +kernel
theorem dL_law_420 : decode cL_law 420 = .ok (.iconst 1, 1) := by decide +kernel
theorem dL_law_421 : decode cL_law 421 = .ok (.iadd, 1) := by decide +kernel
theorem dL_law_422 : decode cL_law 422 = .ok (.iaload, 1) := by decide +kernel
theorem dL_law_423 : decode cL_law 423 = .ok (.aload_n 0, 1) := by decide +kernel
theorem dL_law_424 : decode cL_law 424 = .ok (.iload_n 3, 1) := by decide +kernel
theorem dL_law_425 : decode cL_law 425 = .ok (.iconst 2, 1) := by decide +kernel
theorem dL_law_426 : decode cL_law 426 = .ok (.iadd, 1) := by decide +kernel
theorem dL_law_427 : decode cL_law 427 = .ok (.iaload, 1) := by decide +kernel
theorem dL_law_428 : decode cL_law 428 = .ok (.invokevirtual 61, 3) := by decide +kernel
theorem dL_law_431 : decode cL_law 431 = .ok (.aload_n 2, 1) := by decide +kernel
theorem dL_law_432 : decode cL_law 432 = .ok (.aload_n 0, 1) := by decide +kernel
theorem dL_law_433 : decode cL_law 433 = .ok (.iload_n 3, 1) := by decide +kernel
theorem dL_law_434 : decode cL_law 434 = .ok (.iconst 1, 1) := by decide +kernel
theorem dL_law_435 : decode cL_law 435 = .ok (.iadd, 1) := by decide +kernel
theorem dL_law_436 : decode cL_law 436 = .ok (.iaload, 1) := by decide +kernel
theorem dL_law_437 : decode cL_law 437 = .ok (.aload_n 0, 1) := by decide +kernel
theorem dL_law_438 : decode cL_law 438 = .ok (.iload_n 3, 1) := by decide +kernel
theorem dL_law_439 : decode cL_law 439 = .ok (.iconst 2, 1) := by decide +kernel
theorem dL_law_440 : decode cL_law 440 = .ok (.iadd, 1) := by decide +kernel
theorem dL_law_441 : decode cL_law 441 = .ok (.iaload, 1) := by decide +kernel
theorem dL_law_442 : decode cL_law 442 = .ok (.invokevirtual 64, 3) := by decide +kernel
theorem dL_law_445 : decode cL_law 445 = .ok (.if_icmp .eq 261, 3) := by decide +kernel
theorem dL_law_448 : decode cL_law 448 = .ok (.iconst 0, 1) := by decide +kernel
theorem dL_law_449 : decode cL_law 449 = .ok (.ireturn, 1) := by decide +kernel
theorem dL_law_450 : decode cL_law 450 = .ok (.aload_n 1, 1) := by decide +kernel
theorem dL_law_451 : decode cL_law 451 = .ok (.aload_n 0, 1) := by decide +kernel
theorem dL_law_452 : decode cL_law 452 = .ok (.iload_n 3, 1) := by decide +kernel
theorem dL_law_453 : decode cL_law 453 = .ok (.iconst 1, 1) := by decide +kernel
theorem dL_law_454 : decode cL_law 454 = .ok (.iadd, 1) := by decide +kernel
theorem dL_law_455 : decode cL_law 455 = .ok (.iaload, 1) := by decide +kernel
theorem dL_law_456 : decode cL_law 456 = .ok (.aload_n 0, 1) := by decide +kernel
theorem dL_law_457 : decode cL_law 457 = .ok (.iload_n 3, 1) := by decide +kernel
theorem dL_law_458 : decode cL_law 458 = .ok (.iconst 2, 1) := by decide +kernel
theorem dL_law_459 : decode cL_law 459 = .ok (.iadd, 1) := by decide +kernel
theorem dL_law_460 : decode cL_law 460 = .ok (.iaload, 1) := by decide +kernel
theorem dL_law_461 : decode cL_law 461 = .ok (.invokevirtual 65, 3) := by decide +kernel
theorem dL_law_464 : decode cL_law 464 = .ok (.aload_n 2, 1) := by decide +kernel
theorem dL_law_465 : decode cL_law 465 = .ok (.aload_n 0, 1) := by decide +kernel
theorem dL_law_466 : decode cL_law 466 = .ok (.iload_n 3, 1) := by decide +kernel
theorem dL_law_467 : decode cL_law 467 = .ok (.iconst 1, 1) := by decide +kernel
theorem dL_law_468 : decode cL_law 468 = .ok (.iadd, 1) := by decide +kernel
theorem dL_law_469 : decode cL_law 469 = .ok (.iaload, 1) := by decide +kernel
theorem dL_law_470 : decode cL_law 470 = .ok (.aload_n 0, 1) := by decide +kernel
theorem dL_law_471 : decode cL_law 471 = .ok (.iload_n 3, 1) := by decide +kernel
theorem dL_law_472 : decode cL_law 472 = .ok (.iconst 2, 1) := by decide +kernel
theorem dL_law_473 : decode cL_law 473 = .ok (.iadd, 1) := by decide +kernel
theorem dL_law_474 : decode cL_law 474 = .ok (.iaload, 1) := by decide +kernel
theorem dL_law_475 : decode cL_law 475 = .ok (.invokevirtual 68, 3) := by decide +kernel
theorem dL_law_478 : decode cL_law 478 = .ok (.if_icmp .eq 228, 3) := by decide +kernel
theorem dL_law_481 : decode cL_law 481 = .ok (.iconst 0, 1) := by decide +kernel
theorem dL_law_482 : decode cL_law 482 = .ok (.ireturn, 1) := by decide +kernel
theorem dL_law_483 : decode cL_law 483 = .ok (.aload_n 1, 1) := by decide +kernel
theorem dL_law_484 : decode cL_law 484 = .ok (.aload_n 0, 1) := by decide +kernel
theorem dL_law_485 : decode cL_law 485 = .ok (.iload_n 3, 1) := by decide +kernel
theorem dL_law_486 : decode cL_law 486 = .ok (.iconst 1, 1) := by decide +kernel
theorem dL_law_487 : decode cL_law 487 = .ok (.iadd, 1) := by decide +kernel
theorem dL_law_488 : decode cL_law 488 = .ok (.iaload, 1) := by decide +kernel
theorem dL_law_489 : decode cL_law 489 = .ok (.invokevirtual 69, 3) := by decide +kernel
theorem dL_law_492 : decode cL_law 492 = .ok (.aload_n 2, 1) := by decide +kernel
theorem dL_law_493 : decode cL_law 493 = .ok (.aload_n 0, 1) := by decide +kernel
theorem dL_law_494 : decode cL_law 494 = .ok (.iload_n 3, 1) := by decide +kernel
theorem dL_law_495 : decode cL_law 495 = .ok (.iconst 1, 1) := by decide +kernel
theorem dL_law_496 : decode cL_law 496 = .ok (.iadd, 1) := by decide +kernel
theorem dL_law_497 : decode cL_law 497 = .ok (.iaload, 1) := by decide +kernel
theorem dL_law_498 : decode cL_law 498 = .ok (.invokevirtual 72, 3) := by decide +kernel
theorem dL_law_501 : decode cL_law 501 = .ok (.if_icmp .eq 205, 3) := by decide +kernel
theorem dL_law_504 : decode cL_law 504 = .ok (.iconst 0, 1) := by decide +kernel
theorem dL_law_505 : decode cL_law 505 = .ok (.ireturn, 1) := by decide +kernel
theorem dL_law_506 : decode cL_law 506 = .ok (.aload_n 1, 1) := by decide +kernel
theorem dL_law_507 : decode cL_law 507 = .ok (.aload_n 0, 1) := by decide +kernel
theorem dL_law_508 : decode cL_law 508 = .ok (.iload_n 3, 1) := by decide +kernel
theorem dL_law_509 : decode cL_law 509 = .ok (.iconst 1, 1) := by decide +kernel
theorem dL_law_510 : decode cL_law 510 = .ok (.iadd, 1) := by decide +kernel
theorem dL_law_511 : decode cL_law 511 = .ok (.iaload, 1) := by decide +kernel
theorem dL_law_512 : decode cL_law 512 = .ok (.aload_n 0, 1) := by decide +kernel
theorem dL_law_513 : decode cL_law 513 = .ok (.iload_n 3, 1) := by decide +kernel
theorem dL_law_514 : decode cL_law 514 = .ok (.iconst 2, 1) := by decide +kernel
theorem dL_law_515 : decode cL_law 515 = .ok (.iadd, 1) := by decide +kernel
theorem dL_law_516 : decode cL_law 516 = .ok (.iaload, 1) := by decide +kernel
theorem dL_law_517 : decode cL_law 517 = .ok (.aload_n 0, 1) := by decide +kernel
theorem dL_law_518 : decode cL_law 518 = .ok (.iload_n 3, 1) := by decide +kernel
theorem dL_law_519 : decode cL_law 519 = .ok (.iconst 3, 1) := by decide +kernel
theorem dL_law_520 : decode cL_law 520 = .ok (.iadd, 1) := by decide +kernel
theorem dL_law_521 : decode cL_law 521 = .ok (.iaload, 1) := by decide +kernel
theorem dL_law_522 : decode cL_law 522 = .ok (.invokevirtual 73, 3) := by decide +kernel
theorem dL_law_525 : decode cL_law 525 = .ok (.aload_n 2, 1) := by decide +kernel
theorem dL_law_526 : decode cL_law 526 = .ok (.aload_n 0, 1) := by decide +kernel
theorem dL_law_527 : decode cL_law 527 = .ok (.iload_n 3, 1) := by decide +kernel
theorem dL_law_528 : decode cL_law 528 = .ok (.iconst 1, 1) := by decide +kernel
theorem dL_law_529 : decode cL_law 529 = .ok (.iadd, 1) := by decide +kernel
theorem dL_law_530 : decode cL_law 530 = .ok (.iaload, 1) := by decide +kernel
theorem dL_law_531 : decode cL_law 531 = .ok (.aload_n 0, 1) := by decide +kernel
theorem dL_law_532 : decode cL_law 532 = .ok (.iload_n 3, 1) := by decide +kernel
theorem dL_law_533 : decode cL_law 533 = .ok (.iconst 2, 1) := by decide +kernel
theorem dL_law_534 : decode cL_law 534 = .ok (.iadd, 1) := by decide +kernel
theorem dL_law_535 : decode cL_law 535 = .ok (.iaload, 1) := by decide +kernel
theorem dL_law_536 : decode cL_law 536 = .ok (.aload_n 0, 1) := by decide +kernel
theorem dL_law_537 : decode cL_law 537 = .ok (.iload_n 3, 1) := by decide +kernel
theorem dL_law_538 : decode cL_law 538 = .ok (.iconst 3, 1) := by decide +kernel
theorem dL_law_539 : decode cL_law 539 = .ok (.iadd, 1) := by decide +kernel
theorem dL_law_540 : decode cL_law 540 = .ok (.iaload, 1) := by decide +kernel
theorem dL_law_541 : decode cL_law 541 = .ok (.invokevirtual 76, 3) := by decide +kernel
theorem dL_law_544 : decode cL_law 544 = .ok (.if_icmp .eq 162, 3) := by decide +kernel
theorem dL_law_547 : decode cL_law 547 = .ok (.iconst 0, 1) := by decide +kernel
theorem dL_law_548 : decode cL_law 548 = .ok (.ireturn, 1) := by decide +kernel
theorem dL_law_549 : decode cL_law 549 = .ok (.aload_n 1, 1) := by decide +kernel
theorem dL_law_550 : decode cL_law 550 = .ok (.invokevirtual 77, 3) := by decide +kernel
theorem dL_law_553 : decode cL_law 553 = .ok (.aload_n 2, 1) := by decide +kernel
theorem dL_law_554 : decode cL_law 554 = .ok (.invokevirtual 80, 3) := by decide +kernel
theorem dL_law_557 : decode cL_law 557 = .ok (.if_icmp .eq 149, 3) := by decide +kernel
theorem dL_law_560 : decode cL_law 560 = .ok (.iconst 0, 1) := by decide +kernel
theorem dL_law_561 : decode cL_law 561 = .ok (.ireturn, 1) := by decide +kernel
theorem dL_law_562 : decode cL_law 562 = .ok (.aload_n 1, 1) := by decide +kernel
theorem dL_law_563 : decode cL_law 563 = .ok (.aload_n 0, 1) := by decide +kernel
theorem dL_law_564 : decode cL_law 564 = .ok (.iload_n 3, 1) := by decide +kernel
theorem dL_law_565 : decode cL_law 565 = .ok (.iconst 1, 1) := by decide +kernel
theorem dL_law_566 : decode cL_law 566 = .ok (.iadd, 1) := by decide +kernel
theorem dL_law_567 : decode cL_law 567 = .ok (.iaload, 1) := by decide +kernel
theorem dL_law_568 : decode cL_law 568 = .ok (.aload_n 0, 1) := by decide +kernel
theorem dL_law_569 : decode cL_law 569 = .ok (.iload_n 3, 1) := by decide +kernel
theorem dL_law_570 : decode cL_law 570 = .ok (.iconst 2, 1) := by decide +kernel
theorem dL_law_571 : decode cL_law 571 = .ok (.iadd, 1) := by decide +kernel
theorem dL_law_572 : decode cL_law 572 = .ok (.iaload, 1) := by decide +kernel
theorem dL_law_573 : decode cL_law 573 = .ok (.invokevirtual 81, 3) := by decide +kernel
theorem dL_law_576 : decode cL_law 576 = .ok (.aload_n 2, 1) := by decide +kernel
theorem dL_law_577 : decode cL_law 577 = .ok (.aload_n 0, 1) := by decide +kernel
theorem dL_law_578 : decode cL_law 578 = .ok (.iload_n 3, 1) := by decide +kernel
theorem dL_law_579 : decode cL_law 579 = .ok (.iconst 1, 1) := by decide +kernel
theorem dL_law_580 : decode cL_law 580 = .ok (.iadd, 1) := by decide +kernel
theorem dL_law_581 : decode cL_law 581 = .ok (.iaload, 1) := by decide +kernel
theorem dL_law_582 : decode cL_law 582 = .ok (.aload_n 0, 1) := by decide +kernel
theorem dL_law_583 : decode cL_law 583 = .ok (.iload_n 3, 1) := by decide +kernel
theorem dL_law_584 : decode cL_law 584 = .ok (.iconst 2, 1) := by decide +kernel
theorem dL_law_585 : decode cL_law 585 = .ok (.iadd, 1) := by decide +kernel
theorem dL_law_586 : decode cL_law 586 = .ok (.iaload, 1) := by decide +kernel
theorem dL_law_587 : decode cL_law 587 = .ok (.invokevirtual 84, 3) := by decide +kernel
theorem dL_law_590 : decode cL_law 590 = .ok (.if_icmp .eq 116, 3) := by decide +kernel
theorem dL_law_593 : decode cL_law 593 = .ok (.iconst 0, 1) := by decide +kernel
theorem dL_law_594 : decode cL_law 594 = .ok (.ireturn, 1) := by decide +kernel
theorem dL_law_595 : decode cL_law 595 = .ok (.aload_n 1, 1) := by decide +kernel
theorem dL_law_596 : decode cL_law 596 = .ok (.invokevirtual 85, 3) := by decide +kernel
theorem dL_law_599 : decode cL_law 599 = .ok (.aload_n 2, 1) := by decide +kernel
theorem dL_law_600 : decode cL_law 600 = .ok (.invokevirtual 88, 3) := by decide +kernel
theorem dL_law_603 : decode cL_law 603 = .ok (.if_icmp .eq 103, 3) := by decide +kernel
theorem dL_law_606 : decode cL_law 606 = .ok (.iconst 0, 1) := by decide +kernel
theorem dL_law_607 : decode cL_law 607 = .ok (.ireturn, 1) := by decide +kernel
theorem dL_law_608 : decode cL_law 608 = .ok (.aload_n 1, 1) := by decide +kernel
theorem dL_law_609 : decode cL_law 609 = .ok (.aload_n 0, 1) := by decide +kernel
theorem dL_law_610 : decode cL_law 610 = .ok (.iload_n 3, 1) := by decide +kernel
theorem dL_law_611 : decode cL_law 611 = .ok (.iconst 1, 1) := by decide +kernel
theorem dL_law_612 : decode cL_law 612 = .ok (.iadd, 1) := by decide +kernel
theorem dL_law_613 : decode cL_law 613 = .ok (.iaload, 1) := by decide +kernel
theorem dL_law_614 : decode cL_law 614 = .ok (.invokevirtual 89, 3) := by decide +kernel
theorem dL_law_617 : decode cL_law 617 = .ok (.aload_n 2, 1) := by decide +kernel
theorem dL_law_618 : decode cL_law 618 = .ok (.aload_n 0, 1) := by decide +kernel
theorem dL_law_619 : decode cL_law 619 = .ok (.iload_n 3, 1) := by decide +kernel
theorem dL_law_620 : decode cL_law 620 = .ok (.iconst 1, 1) := by decide +kernel
theorem dL_law_621 : decode cL_law 621 = .ok (.iadd, 1) := by decide +kernel
theorem dL_law_622 : decode cL_law 622 = .ok (.iaload, 1) := by decide +kernel
theorem dL_law_623 : decode cL_law 623 = .ok (.invokevirtual 92, 3) := by decide +kernel
theorem dL_law_626 : decode cL_law 626 = .ok (.if_icmp .eq 80, 3) := by decide +kernel
theorem dL_law_629 : decode cL_law 629 = .ok (.iconst 0, 1) := by decide +kernel
theorem dL_law_630 : decode cL_law 630 = .ok (.ireturn, 1) := by decide +kernel
theorem dL_law_631 : decode cL_law 631 = .ok (.aload_n 1, 1) := by decide +kernel
theorem dL_law_632 : decode cL_law 632 = .ok (.aload_n 0, 1) := by decide +kernel
theorem dL_law_633 : decode cL_law 633 = .ok (.iload_n 3, 1) := by decide +kernel
theorem dL_law_634 : decode cL_law 634 = .ok (.iconst 1, 1) := by decide +kernel
theorem dL_law_635 : decode cL_law 635 = .ok (.iadd, 1) := by decide +kernel
theorem dL_law_636 : decode cL_law 636 = .ok (.iaload, 1) := by decide +kernel
theorem dL_law_637 : decode cL_law 637 = .ok (.invokevirtual 93, 3) := by decide +kernel
theorem dL_law_640 : decode cL_law 640 = .ok (.aload_n 2, 1) := by decide +kernel
theorem dL_law_641 : decode cL_law 641 = .ok (.aload_n 0, 1) := by decide +kernel
theorem dL_law_642 : decode cL_law 642 = .ok (.iload_n 3, 1) := by decide +kernel
theorem dL_law_643 : decode cL_law 643 = .ok (.iconst 1, 1) := by decide +kernel
theorem dL_law_644 : decode cL_law 644 = .ok (.iadd, 1) := by decide +kernel
theorem dL_law_645 : decode cL_law 645 = .ok (.iaload, 1) := by decide +kernel
theorem dL_law_646 : decode cL_law 646 = .ok (.invokevirtual 96, 3) := by decide +kernel
theorem dL_law_649 : decode cL_law 649 = .ok (.if_icmp .eq 57, 3) := by decide +kernel
theorem dL_law_652 : decode cL_law 652 = .ok (.iconst 0, 1) := by decide +kernel
theorem dL_law_653 : decode cL_law 653 = .ok (.ireturn, 1) := by decide +kernel
theorem dL_law_654 : decode cL_law 654 = .ok (.aload_n 1, 1) := by decide +kernel
theorem dL_law_655 : decode cL_law 655 = .ok (.invokevirtual 97, 3) := by decide +kernel
theorem dL_law_658 : decode cL_law 658 = .ok (.aload_n 2, 1) := by decide +kernel
theorem dL_law_659 : decode cL_law 659 = .ok (.invokevirtual 100, 3) := by decide +kernel
theorem dL_law_662 : decode cL_law 662 = .ok (.if_icmp .eq 44, 3) := by decide +kernel
theorem dL_law_665 : decode cL_law 665 = .ok (.iconst 0, 1) := by decide +kernel
theorem dL_law_666 : decode cL_law 666 = .ok (.ireturn, 1) := by decide +kernel
theorem dL_law_667 : decode cL_law 667 = .ok (.aload_n 1, 1) := by decide +kernel
theorem dL_law_668 : decode cL_law 668 = .ok (.invokevirtual 101, 3) := by decide +kernel
theorem dL_law_671 : decode cL_law 671 = .ok (.aload_n 2, 1) := by decide +kernel
theorem dL_law_672 : decode cL_law 672 = .ok (.invokevirtual 104, 3) := by decide +kernel
theorem dL_law_675 : decode cL_law 675 = .ok (.if_icmp .eq 31, 3) := by decide +kernel
theorem dL_law_678 : decode cL_law 678 = .ok (.iconst 0, 1) := by decide +kernel
theorem dL_law_679 : decode cL_law 679 = .ok (.ireturn, 1) := by decide +kernel
theorem dL_law_680 : decode cL_law 680 = .ok (.aload_n 1, 1) := by decide +kernel
theorem dL_law_681 : decode cL_law 681 = .ok (.invokevirtual 105, 3) := by decide +kernel
theorem dL_law_684 : decode cL_law 684 = .ok (.aload_n 2, 1) := by decide +kernel
theorem dL_law_685 : decode cL_law 685 = .ok (.invokevirtual 108, 3) := by decide +kernel
theorem dL_law_688 : decode cL_law 688 = .ok (.if_icmp .eq 18, 3) := by decide +kernel
theorem dL_law_691 : decode cL_law 691 = .ok (.iconst 0, 1) := by decide +kernel
theorem dL_law_692 : decode cL_law 692 = .ok (.ireturn, 1) := by decide +kernel
theorem dL_law_693 : decode cL_law 693 = .ok (.aload_n 1, 1) := by decide +kernel
theorem dL_law_694 : decode cL_law 694 = .ok (.invokevirtual 109, 3) := by decide +kernel
theorem dL_law_697 : decode cL_law 697 = .ok (.aload_n 2, 1) := by decide +kernel
theorem dL_law_698 : decode cL_law 698 = .ok (.invokevirtual 112, 3) := by decide +kernel
theorem dL_law_701 : decode cL_law 701 = .ok (.if_icmp .eq 5, 3) := by decide +kernel
theorem dL_law_704 : decode cL_law 704 = .ok (.iconst 0, 1) := by decide +kernel
theorem dL_law_705 : decode cL_law 705 = .ok (.ireturn, 1) := by decide +kernel
theorem dL_law_706 : decode cL_law 706 = .ok (.iinc 3 4, 3) := by decide +kernel
theorem dL_law_709 : decode cL_law 709 = .ok (.goto (-691), 3) := by decide +kernel
theorem dL_law_712 : decode cL_law 712 = .ok (.iconst 1, 1) := by decide +kernel
theorem dL_law_713 : decode cL_law 713 = .ok (.ireturn, 1) := by decide +kernel
