theorem dX0_init_0 : decode cX0_init 0 = .ok (.aload_n 0, 1) := by decide +kernel
theorem dX0_init_1 : decode cX0_init 1 = .ok (.invokespecial 3, 3) := by decide +kernel
theorem dX0_init_4 : decode cX0_init 4 = .ok (.aload_n 0, 1) := by decide +kernel
theorem dX0_init_5 : decode cX0_init 5 = .ok (.bipush 28, 2) := by decide +kernel
theorem dX0_init_7 : decode cX0_init 7 = .ok (.newarray .int, 2) := by decide +kernel
theorem dX0_init_9 : decode cX0_init 9 = .ok (.putfield 9, 3) := by decide +kernel
theorem dX0_init_12 : decode cX0_init 12 = .ok (.aload_n 0, 1) := by decide +kernel
theorem dX0_init_13 : decode cX0_init 13 = .ok (.bipush 7, 2) := by decide +kernel
theorem dX0_init_15 : decode cX0_init 15 = .ok (.newarray .int, 2) := by decide +kernel
theorem dX0_init_17 : decode cX0_init 17 = .ok (.putfield 15, 3) := by decide +kernel
theorem dX0_init_20 : decode cX0_init 20 = .ok (.aload_n 0, 1) := by decide +kernel
theorem dX0_init_21 : decode cX0_init 21 = .ok (.aload_n 1, 1) := by decide +kernel
theorem dX0_init_22 : decode cX0_init 22 = .ok (.putfield 18, 3) := by decide +kernel
theorem dX0_init_25 : decode cX0_init 25 = .ok (.return_, 1) := by decide +kernel
theorem dX0_partCost_0 : decode cX0_partCost 0 = .ok (.aload_n 0, 1) := by decide +kernel
theorem dX0_partCost_1 : decode cX0_partCost 1 = .ok (.getfield 18, 3) := by decide +kernel
theorem dX0_partCost_4 : decode cX0_partCost 4 = .ok (.iload_n 1, 1) := by decide +kernel
theorem dX0_partCost_5 : decode cX0_partCost 5 = .ok (.iload_n 2, 1) := by decide +kernel
theorem dX0_partCost_6 : decode cX0_partCost 6 = .ok (.iload_n 3, 1) := by decide +kernel
theorem dX0_partCost_7 : decode cX0_partCost 7 = .ok (.invokevirtual 22, 3) := by decide +kernel
theorem dX0_partCost_10 : decode cX0_partCost 10 = .ok (.ifCond .eq 5, 3) := by decide +kernel
theorem dX0_partCost_13 : decode cX0_partCost 13 = .ok (.iconst 0, 1) := by decide +kernel
theorem dX0_partCost_14 : decode cX0_partCost 14 = .ok (.ireturn, 1) := by decide +kernel
theorem dX0_partCost_15 : decode cX0_partCost 15 = .ok (.aload_n 0, 1) := by decide +kernel
theorem dX0_partCost_16 : decode cX0_partCost 16 = .ok (.getfield 18, 3) := by decide +kernel
theorem dX0_partCost_19 : decode cX0_partCost 19 = .ok (.getfield 28, 3) := by decide +kernel
theorem dX0_partCost_22 : decode cX0_partCost 22 = .ok (.iload_n 2, 1) := by decide +kernel
theorem dX0_partCost_23 : decode cX0_partCost 23 = .ok (.invokestatic 32, 3) := by decide +kernel
theorem dX0_partCost_26 : decode cX0_partCost 26 = .ok (.ifCond .ne 15, 3) := by decide +kernel
theorem dX0_partCost_29 : decode cX0_partCost 29 = .ok (.aload_n 0, 1) := by decide +kernel
theorem dX0_partCost_30 : decode cX0_partCost 30 = .ok (.getfield 18, 3) := by decide +kernel
theorem dX0_partCost_33 : decode cX0_partCost 33 = .ok (.iload_n 1, 1) := by decide +kernel
theorem dX0_partCost_34 : decode cX0_partCost 34 = .ok (.iload_n 2, 1) := by decide +kernel
theorem dX0_partCost_35 : decode cX0_partCost 35 = .ok (.invokevirtual 36, 3) := by decide +kernel
theorem dX0_partCost_38 : decode cX0_partCost 38 = .ok (.ifCond .ne 6, 3) := by decide +kernel
theorem dX0_partCost_41 : decode cX0_partCost 41 = .ok (.bipush (-9), 2) := by decide +kernel
theorem dX0_partCost_43 : decode cX0_partCost 43 = .ok (.ireturn, 1) := by decide +kernel
theorem dX0_partCost_44 : decode cX0_partCost 44 = .ok (.aload_n 0, 1) := by decide +kernel
theorem dX0_partCost_45 : decode cX0_partCost 45 = .ok (.getfield 18, 3) := by decide +kernel
theorem dX0_partCost_48 : decode cX0_partCost 48 = .ok (.getfield 39, 3) := by decide +kernel
theorem dX0_partCost_51 : decode cX0_partCost 51 = .ok (.iload_n 1, 1) := by decide +kernel
theorem dX0_partCost_52 : decode cX0_partCost 52 = .ok (.aaload, 1) := by decide +kernel
theorem dX0_partCost_53 : decode cX0_partCost 53 = .ok (.astore 4, 2) := by decide +kernel
theorem dX0_partCost_55 : decode cX0_partCost 55 = .ok (.aload_n 0, 1) := by decide +kernel
theorem dX0_partCost_56 : decode cX0_partCost 56 = .ok (.getfield 18, 3) := by decide +kernel
theorem dX0_partCost_59 : decode cX0_partCost 59 = .ok (.getfield 43, 3) := by decide +kernel
theorem dX0_partCost_62 : decode cX0_partCost 62 = .ok (.iload_n 2, 1) := by decide +kernel
theorem dX0_partCost_63 : decode cX0_partCost 63 = .ok (.aaload, 1) := by decide +kernel
theorem dX0_partCost_64 : decode cX0_partCost 64 = .ok (.iconst 1, 1) := by decide +kernel
theorem dX0_partCost_65 : decode cX0_partCost 65 = .ok (.iaload, 1) := by decide +kernel
theorem dX0_partCost_66 : decode cX0_partCost 66 = .ok (.istore 5, 2) := by decide +kernel
theorem dX0_partCost_68 : decode cX0_partCost 68 = .ok (.iconst 1, 1) := by decide +kernel
theorem dX0_partCost_69 : decode cX0_partCost 69 = .ok (.aload 4, 2) := by decide +kernel
theorem dX0_partCost_71 : decode cX0_partCost 71 = .ok (.iconst 2, 1) := by decide +kernel
theorem dX0_partCost_72 : decode cX0_partCost 72 = .ok (.iaload, 1) := by decide +kernel
theorem dX0_partCost_73 : decode cX0_partCost 73 = .ok (.invokestatic 46, 3) := by decide +kernel
theorem dX0_partCost_76 : decode cX0_partCost 76 = .ok (.istore 6, 2) := by decide +kernel
theorem dX0_partCost_78 : decode cX0_partCost 78 = .ok (.iload_n 3, 1) := by decide +kernel
theorem dX0_partCost_79 : decode cX0_partCost 79 = .ok (.iconst 4, 1) := by decide +kernel
theorem dX0_partCost_80 : decode cX0_partCost 80 = .ok (.irem, 1) := by decide +kernel
theorem dX0_partCost_81 : decode cX0_partCost 81 = .ok (.istore 7, 2) := by decide +kernel
theorem dX0_partCost_83 : decode cX0_partCost 83 = .ok (.aload_n 0, 1) := by decide +kernel
theorem dX0_partCost_84 : decode cX0_partCost 84 = .ok (.getfield 18, 3) := by decide +kernel
theorem dX0_partCost_87 : decode cX0_partCost 87 = .ok (.getfield 43, 3) := by decide +kernel
theorem dX0_partCost_90 : decode cX0_partCost 90 = .ok (.iload_n 2, 1) := by decide +kernel
theorem dX0_partCost_91 : decode cX0_partCost 91 = .ok (.aaload, 1) := by decide +kernel
theorem dX0_partCost_92 : decode cX0_partCost 92 = .ok (.iconst 0, 1) := by decide +kernel
theorem dX0_partCost_93 : decode cX0_partCost 93 = .ok (.iaload, 1) := by decide +kernel
theorem dX0_partCost_94 : decode cX0_partCost 94 = .ok (.tableswitch 105 1 5 #[34, 47, 79, 105, 92], 34) := by decide +kernel
theorem dX0_partCost_128 : decode cX0_partCost 128 = .ok (.iconst 2, 1) := by decide +kernel
theorem dX0_partCost_129 : decode cX0_partCost 129 = .ok (.iload 5, 2) := by decide +kernel
theorem dX0_partCost_131 : decode cX0_partCost 131 = .ok (.imul, 1) := by decide +kernel
theorem dX0_partCost_132 : decode cX0_partCost 132 = .ok (.iload 6, 2) := by decide +kernel
theorem dX0_partCost_134 : decode cX0_partCost 134 = .ok (.iadd, 1) := by decide +kernel
theorem dX0_partCost_135 : decode cX0_partCost 135 = .ok (.iconst 1, 1) := by decide +kernel
theorem dX0_partCost_136 : decode cX0_partCost 136 = .ok (.isub, 1) := by decide +kernel
theorem dX0_partCost_137 : decode cX0_partCost 137 = .ok (.iload 6, 2) := by decide +kernel
theorem dX0_partCost_139 : decode cX0_partCost 139 = .ok (.idiv, 1) := by decide +kernel
theorem dX0_partCost_140 : decode cX0_partCost 140 = .ok (.ireturn, 1) := by decide +kernel
theorem dX0_partCost_141 : decode cX0_partCost 141 = .ok (.aload_n 0, 1) := by decide +kernel
theorem dX0_partCost_142 : decode cX0_partCost 142 = .ok (.getfield 18, 3) := by decide +kernel
theorem dX0_partCost_145 : decode cX0_partCost 145 = .ok (.getfield 52, 3) := by decide +kernel
theorem dX0_partCost_148 : decode cX0_partCost 148 = .ok (.aload 4, 2) := by decide +kernel
theorem dX0_partCost_150 : decode cX0_partCost 150 = .ok (.iconst 0, 1) := by decide +kernel
theorem dX0_partCost_151 : decode cX0_partCost 151 = .ok (.iaload, 1) := by decide +kernel
theorem dX0_partCost_152 : decode cX0_partCost 152 = .ok (.iaload, 1) := by decide +kernel
theorem dX0_partCost_153 : decode cX0_partCost 153 = .ok (.iload_n 3, 1) := by decide +kernel
theorem dX0_partCost_154 : decode cX0_partCost 154 = .ok (.iload 7, 2) := by decide +kernel
theorem dX0_partCost_156 : decode cX0_partCost 156 = .ok (.isub, 1) := by decide +kernel
theorem dX0_partCost_157 : decode cX0_partCost 157 = .ok (.ishr, 1) := by decide +kernel
theorem dX0_partCost_158 : decode cX0_partCost 158 = .ok (.bipush 15, 2) := by decide +kernel
theorem dX0_partCost_160 : decode cX0_partCost 160 = .ok (.iand, 1) := by decide +kernel
theorem dX0_partCost_161 : decode cX0_partCost 161 = .ok (.ifCond .eq 7, 3) := by decide +kernel
theorem dX0_partCost_164 : decode cX0_partCost 164 = .ok (.iconst 0, 1) := by decide +kernel
theorem dX0_partCost_165 : decode cX0_partCost 165 = .ok (.goto 7, 3) := by decide +kernel
theorem dX0_partCost_168 : decode cX0_partCost 168 = .ok (.iconst 2, 1) := by decide +kernel
theorem dX0_partCost_169 : decode cX0_partCost 169 = .ok (.iload 5, 2) := by decide +kernel
theorem dX0_partCost_171 : decode cX0_partCost 171 = .ok (.imul, 1) := by decide +kernel
theorem dX0_partCost_172 : decode cX0_partCost 172 = .ok (.ireturn, 1) := by decide +kernel
theorem dX0_partCost_173 : decode cX0_partCost 173 = .ok (.iload 5, 2) := by decide +kernel
theorem dX0_partCost_175 : decode cX0_partCost 175 = .ok (.aload_n 0, 1) := by decide +kernel
theorem dX0_partCost_176 : decode cX0_partCost 176 = .ok (.getfield 18, 3) := by decide +kernel
theorem dX0_partCost_179 : decode cX0_partCost 179 = .ok (.getfield 55, 3) := by decide +kernel
theorem dX0_partCost_182 : decode cX0_partCost 182 = .ok (.iload_n 3, 1) := by decide +kernel
theorem dX0_partCost_183 : decode cX0_partCost 183 = .ok (.iaload, 1) := by decide +kernel
theorem dX0_partCost_184 : decode cX0_partCost 184 = .ok (.imul, 1) := by decide +kernel
theorem dX0_partCost_185 : decode cX0_partCost 185 = .ok (.ireturn, 1) := by decide +kernel
theorem dX0_partCost_186 : decode cX0_partCost 186 = .ok (.iload 7, 2) := by decide +kernel
theorem dX0_partCost_188 : decode cX0_partCost 188 = .ok (.iconst 3, 1) := by decide +kernel
theorem dX0_partCost_189 : decode cX0_partCost 189 = .ok (.if_icmp .ne 7, 3) := by decide +kernel
theorem dX0_partCost_192 : decode cX0_partCost 192 = .ok (.iconst 0, 1) := by decide +kernel
theorem dX0_partCost_193 : decode cX0_partCost 193 = .ok (.goto 5, 3) := by decide +kernel
theorem dX0_partCost_196 : decode cX0_partCost 196 = .ok (.iload 5, 2) := by decide +kernel
theorem dX0_partCost_198 : decode cX0_partCost 198 = .ok (.ireturn, 1) := by decide +kernel
theorem dX0_partCost_199 : decode cX0_partCost 199 = .ok (.iload 5, 2) := by decide +kernel
theorem dX0_partCost_201 : decode cX0_partCost 201 = .ok (.ireturn, 1) := by decide +kernel
theorem dX0_hourCost_0 : decode cX0_hourCost 0 = .ok (.iconst 0, 1) := by decide +kernel
theorem dX0_hourCost_1 : decode cX0_hourCost 1 = .ok (.istore_n 3, 1) := by decide +kernel
theorem dX0_hourCost_2 : decode cX0_hourCost 2 = .ok (.iconst 0, 1) := by decide +kernel
theorem dX0_hourCost_3 : decode cX0_hourCost 3 = .ok (.istore 4, 2) := by decide +kernel
theorem dX0_hourCost_5 : decode cX0_hourCost 5 = .ok (.iload 4, 2) := by decide +kernel
theorem dX0_hourCost_7 : decode cX0_hourCost 7 = .ok (.aload_n 0, 1) := by decide +kernel
theorem dX0_hourCost_8 : decode cX0_hourCost 8 = .ok (.getfield 18, 3) := by decide +kernel
theorem dX0_hourCost_11 : decode cX0_hourCost 11 = .ok (.getfield 55, 3) := by decide +kernel
theorem dX0_hourCost_14 : decode cX0_hourCost 14 = .ok (.iload_n 2, 1) := by decide +kernel
theorem dX0_hourCost_15 : decode cX0_hourCost 15 = .ok (.iaload, 1) := by decide +kernel
theorem dX0_hourCost_16 : decode cX0_hourCost 16 = .ok (.if_icmp .ge 44, 3) := by decide +kernel
theorem dX0_hourCost_19 : decode cX0_hourCost 19 = .ok (.aload_n 0, 1) := by decide +kernel
theorem dX0_hourCost_20 : decode cX0_hourCost 20 = .ok (.iload_n 1, 1) := by decide +kernel
theorem dX0_hourCost_21 : decode cX0_hourCost 21 = .ok (.aload_n 0, 1) := by decide +kernel
theorem dX0_hourCost_22 : decode cX0_hourCost 22 = .ok (.getfield 18, 3) := by decide +kernel
theorem dX0_hourCost_25 : decode cX0_hourCost 25 = .ok (.getfield 58, 3) := by decide +kernel
theorem dX0_hourCost_28 : decode cX0_hourCost 28 = .ok (.iload_n 2, 1) := by decide +kernel
theorem dX0_hourCost_29 : decode cX0_hourCost 29 = .ok (.aaload, 1) := by decide +kernel
theorem dX0_hourCost_30 : decode cX0_hourCost 30 = .ok (.iload 4, 2) := by decide +kernel
theorem dX0_hourCost_32 : decode cX0_hourCost 32 = .ok (.iaload, 1) := by decide +kernel
theorem dX0_hourCost_33 : decode cX0_hourCost 33 = .ok (.iload_n 2, 1) := by decide +kernel
theorem dX0_hourCost_34 : decode cX0_hourCost 34 = .ok (.invokevirtual 61, 3) := by decide +kernel
theorem dX0_hourCost_37 : decode cX0_hourCost 37 = .ok (.istore 5, 2) := by decide +kernel
theorem dX0_hourCost_39 : decode cX0_hourCost 39 = .ok (.iload 5, 2) := by decide +kernel
theorem dX0_hourCost_41 : decode cX0_hourCost 41 = .ok (.bipush (-9), 2) := by decide +kernel
theorem dX0_hourCost_43 : decode cX0_hourCost 43 = .ok (.if_icmp .ne 6, 3) := by decide +kernel
theorem dX0_hourCost_46 : decode cX0_hourCost 46 = .ok (.bipush (-9), 2) := by decide +kernel
theorem dX0_hourCost_48 : decode cX0_hourCost 48 = .ok (.ireturn, 1) := by decide +kernel
theorem dX0_hourCost_49 : decode cX0_hourCost 49 = .ok (.iload_n 3, 1) := by decide +kernel
theorem dX0_hourCost_50 : decode cX0_hourCost 50 = .ok (.iload 5, 2) := by decide +kernel
theorem dX0_hourCost_52 : decode cX0_hourCost 52 = .ok (.iadd, 1) := by decide +kernel
theorem dX0_hourCost_53 : decode cX0_hourCost 53 = .ok (.istore_n 3, 1) := by decide +kernel
theorem dX0_hourCost_54 : decode cX0_hourCost 54 = .ok (.iinc 4 1, 3) := by decide +kernel
theorem dX0_hourCost_57 : decode cX0_hourCost 57 = .ok (.goto (-52), 3) := by decide +kernel
theorem dX0_hourCost_60 : decode cX0_hourCost 60 = .ok (.iload_n 3, 1) := by decide +kernel
theorem dX0_hourCost_61 : decode cX0_hourCost 61 = .ok (.ireturn, 1) := by decide +kernel
theorem dX0_choose_0 : decode cX0_choose 0 = .ok (.aload_n 0, 1) := by decide +kernel
theorem dX0_choose_1 : decode cX0_choose 1 = .ok (.getfield 18, 3) := by decide +kernel
theorem dX0_choose_4 : decode cX0_choose 4 = .ok (.getfield 39, 3) := by decide +kernel
theorem dX0_choose_7 : decode cX0_choose 7 = .ok (.iload_n 1, 1) := by decide +kernel
theorem dX0_choose_8 : decode cX0_choose 8 = .ok (.aaload, 1) := by decide +kernel
theorem dX0_choose_9 : decode cX0_choose 9 = .ok (.astore_n 2, 1) := by decide +kernel
theorem dX0_choose_10 : decode cX0_choose 10 = .ok (.iconst 0, 1) := by decide +kernel
theorem dX0_choose_11 : decode cX0_choose 11 = .ok (.istore_n 3, 1) := by decide +kernel
theorem dX0_choose_12 : decode cX0_choose 12 = .ok (.iload_n 3, 1) := by decide +kernel
theorem dX0_choose_13 : decode cX0_choose 13 = .ok (.aload_n 2, 1) := by decide +kernel
theorem dX0_choose_14 : decode cX0_choose 14 = .ok (.iconst 3, 1) := by decide +kernel
theorem dX0_choose_15 : decode cX0_choose 15 = .ok (.iaload, 1) := by decide +kernel
theorem dX0_choose_16 : decode cX0_choose 16 = .ok (.if_icmp .gt 21, 3) := by decide +kernel
theorem dX0_choose_19 : decode cX0_choose 19 = .ok (.aload_n 0, 1) := by decide +kernel
theorem dX0_choose_20 : decode cX0_choose 20 = .ok (.getfield 9, 3) := by decide +kernel
theorem dX0_choose_23 : decode cX0_choose 23 = .ok (.iload_n 3, 1) := by decide +kernel
theorem dX0_choose_24 : decode cX0_choose 24 = .ok (.aload_n 0, 1) := by decide +kernel
theorem dX0_choose_25 : decode cX0_choose 25 = .ok (.iload_n 1, 1) := by decide +kernel
theorem dX0_choose_26 : decode cX0_choose 26 = .ok (.iload_n 3, 1) := by decide +kernel
theorem dX0_choose_27 : decode cX0_choose 27 = .ok (.invokevirtual 65, 3) := by decide +kernel
theorem dX0_choose_30 : decode cX0_choose 30 = .ok (.iastore, 1) := by decide +kernel
theorem dX0_choose_31 : decode cX0_choose 31 = .ok (.iinc 3 1, 3) := by decide +kernel
theorem dX0_choose_34 : decode cX0_choose 34 = .ok (.goto (-22), 3) := by decide +kernel
theorem dX0_choose_37 : decode cX0_choose 37 = .ok (.aload_n 0, 1) := by decide +kernel
theorem dX0_choose_38 : decode cX0_choose 38 = .ok (.iconst 0, 1) := by decide +kernel
theorem dX0_choose_39 : decode cX0_choose 39 = .ok (.putfield 68, 3) := by decide +kernel
theorem dX0_choose_42 : decode cX0_choose 42 = .ok (.aload_n 0, 1) := by decide +kernel
theorem dX0_choose_43 : decode cX0_choose 43 = .ok (.bipush (-9), 2) := by decide +kernel
theorem dX0_choose_45 : decode cX0_choose 45 = .ok (.putfield 71, 3) := by decide +kernel
theorem dX0_choose_48 : decode cX0_choose 48 = .ok (.aload_n 2, 1) := by decide +kernel
theorem dX0_choose_49 : decode cX0_choose 49 = .ok (.iconst 1, 1) := by decide +kernel
theorem dX0_choose_50 : decode cX0_choose 50 = .ok (.iaload, 1) := by decide +kernel
theorem dX0_choose_51 : decode cX0_choose 51 = .ok (.iconst 1, 1) := by decide +kernel
theorem dX0_choose_52 : decode cX0_choose 52 = .ok (.if_icmp .ne 16, 3) := by decide +kernel
theorem dX0_choose_55 : decode cX0_choose 55 = .ok (.aload_n 0, 1) := by decide +kernel
theorem dX0_choose_56 : decode cX0_choose 56 = .ok (.aload_n 2, 1) := by decide +kernel
theorem dX0_choose_57 : decode cX0_choose 57 = .ok (.iconst 2, 1) := by decide +kernel
theorem dX0_choose_58 : decode cX0_choose 58 = .ok (.iaload, 1) := by decide +kernel
theorem dX0_choose_59 : decode cX0_choose 59 = .ok (.aload_n 2, 1) := by decide +kernel
theorem dX0_choose_60 : decode cX0_choose 60 = .ok (.iconst 3, 1) := by decide +kernel
theorem dX0_choose_61 : decode cX0_choose 61 = .ok (.iaload, 1) := by decide +kernel
theorem dX0_choose_62 : decode cX0_choose 62 = .ok (.invokevirtual 74, 3) := by decide +kernel
theorem dX0_choose_65 : decode cX0_choose 65 = .ok (.goto 13, 3) := by decide +kernel
theorem dX0_choose_68 : decode cX0_choose 68 = .ok (.aload_n 0, 1) := by decide +kernel
theorem dX0_choose_69 : decode cX0_choose 69 = .ok (.aload_n 2, 1) := by decide +kernel
theorem dX0_choose_70 : decode cX0_choose 70 = .ok (.iconst 2, 1) := by decide +kernel
theorem dX0_choose_71 : decode cX0_choose 71 = .ok (.iaload, 1) := by decide +kernel
theorem dX0_choose_72 : decode cX0_choose 72 = .ok (.aload_n 2, 1) := by decide +kernel
theorem dX0_choose_73 : decode cX0_choose 73 = .ok (.iconst 3, 1) := by decide +kernel
theorem dX0_choose_74 : decode cX0_choose 74 = .ok (.iaload, 1) := by decide +kernel
theorem dX0_choose_75 : decode cX0_choose 75 = .ok (.invokevirtual 78, 3) := by decide +kernel
theorem dX0_choose_78 : decode cX0_choose 78 = .ok (.return_, 1) := by decide +kernel
theorem dX0_chooseRun_0 : decode cX0_chooseRun 0 = .ok (.iconst 0, 1) := by decide +kernel
theorem dX0_chooseRun_1 : decode cX0_chooseRun 1 = .ok (.istore_n 3, 1) := by decide +kernel
theorem dX0_chooseRun_2 : decode cX0_chooseRun 2 = .ok (.iload_n 3, 1) := by decide +kernel
theorem dX0_chooseRun_3 : decode cX0_chooseRun 3 = .ok (.iload_n 1, 1) := by decide +kernel
theorem dX0_chooseRun_4 : decode cX0_chooseRun 4 = .ok (.iadd, 1) := by decide +kernel
theorem dX0_chooseRun_5 : decode cX0_chooseRun 5 = .ok (.iconst 1, 1) := by decide +kernel
theorem dX0_chooseRun_6 : decode cX0_chooseRun 6 = .ok (.isub, 1) := by decide +kernel
theorem dX0_chooseRun_7 : decode cX0_chooseRun 7 = .ok (.iload_n 2, 1) := by decide +kernel
theorem dX0_chooseRun_8 : decode cX0_chooseRun 8 = .ok (.if_icmp .gt 57, 3) := by decide +kernel
theorem dX0_chooseRun_11 : decode cX0_chooseRun 11 = .ok (.aload_n 0, 1) := by decide +kernel
theorem dX0_chooseRun_12 : decode cX0_chooseRun 12 = .ok (.iload_n 3, 1) := by decide +kernel
theorem dX0_chooseRun_13 : decode cX0_chooseRun 13 = .ok (.iload_n 1, 1) := by decide +kernel
theorem dX0_chooseRun_14 : decode cX0_chooseRun 14 = .ok (.invokevirtual 81, 3) := by decide +kernel
theorem dX0_chooseRun_17 : decode cX0_chooseRun 17 = .ok (.istore 4, 2) := by decide +kernel
theorem dX0_chooseRun_19 : decode cX0_chooseRun 19 = .ok (.iload 4, 2) := by decide +kernel
theorem dX0_chooseRun_21 : decode cX0_chooseRun 21 = .ok (.bipush (-9), 2) := by decide +kernel
theorem dX0_chooseRun_23 : decode cX0_chooseRun 23 = .ok (.if_icmp .eq 36, 3) := by decide +kernel
theorem dX0_chooseRun_26 : decode cX0_chooseRun 26 = .ok (.aload_n 0, 1) := by decide +kernel
theorem dX0_chooseRun_27 : decode cX0_chooseRun 27 = .ok (.getfield 71, 3) := by decide +kernel
theorem dX0_chooseRun_30 : decode cX0_chooseRun 30 = .ok (.bipush (-9), 2) := by decide +kernel
theorem dX0_chooseRun_32 : decode cX0_chooseRun 32 = .ok (.if_icmp .eq 12, 3) := by decide +kernel
theorem dX0_chooseRun_35 : decode cX0_chooseRun 35 = .ok (.iload 4, 2) := by decide +kernel
theorem dX0_chooseRun_37 : decode cX0_chooseRun 37 = .ok (.aload_n 0, 1) := by decide +kernel
theorem dX0_chooseRun_38 : decode cX0_chooseRun 38 = .ok (.getfield 71, 3) := by decide +kernel
theorem dX0_chooseRun_41 : decode cX0_chooseRun 41 = .ok (.if_icmp .ge 18, 3) := by decide +kernel
theorem dX0_chooseRun_44 : decode cX0_chooseRun 44 = .ok (.aload_n 0, 1) := by decide +kernel
theorem dX0_chooseRun_45 : decode cX0_chooseRun 45 = .ok (.iload 4, 2) := by decide +kernel
theorem dX0_chooseRun_47 : decode cX0_chooseRun 47 = .ok (.putfield 71, 3) := by decide +kernel
theorem dX0_chooseRun_50 : decode cX0_chooseRun 50 = .ok (.aload_n 0, 1) := by decide +kernel
theorem dX0_chooseRun_51 : decode cX0_chooseRun 51 = .ok (.iload_n 3, 1) := by decide +kernel
theorem dX0_chooseRun_52 : decode cX0_chooseRun 52 = .ok (.iload_n 1, 1) := by decide +kernel
theorem dX0_chooseRun_53 : decode cX0_chooseRun 53 = .ok (.invokestatic 84, 3) := by decide +kernel
theorem dX0_chooseRun_56 : decode cX0_chooseRun 56 = .ok (.putfield 68, 3) := by decide +kernel
theorem dX0_chooseRun_59 : decode cX0_chooseRun 59 = .ok (.iinc 3 1, 3) := by decide +kernel
theorem dX0_chooseRun_62 : decode cX0_chooseRun 62 = .ok (.goto (-60), 3) := by decide +kernel
theorem dX0_chooseRun_65 : decode cX0_chooseRun 65 = .ok (.return_, 1) := by decide +kernel
theorem dX0_runCost_0 : decode cX0_runCost 0 = .ok (.iconst 0, 1) := by decide +kernel
theorem dX0_runCost_1 : decode cX0_runCost 1 = .ok (.istore_n 3, 1) := by decide +kernel
theorem dX0_runCost_2 : decode cX0_runCost 2 = .ok (.iload_n 1, 1) := by decide +kernel
theorem dX0_runCost_3 : decode cX0_runCost 3 = .ok (.istore 4, 2) := by decide +kernel
theorem dX0_runCost_5 : decode cX0_runCost 5 = .ok (.iload 4, 2) := by decide +kernel
theorem dX0_runCost_7 : decode cX0_runCost 7 = .ok (.iload_n 1, 1) := by decide +kernel
theorem dX0_runCost_8 : decode cX0_runCost 8 = .ok (.iload_n 2, 1) := by decide +kernel
theorem dX0_runCost_9 : decode cX0_runCost 9 = .ok (.iadd, 1) := by decide +kernel
theorem dX0_runCost_10 : decode cX0_runCost 10 = .ok (.if_icmp .ge 41, 3) := by decide +kernel
theorem dX0_runCost_13 : decode cX0_runCost 13 = .ok (.iload 4, 2) := by decide +kernel
theorem dX0_runCost_15 : decode cX0_runCost 15 = .ok (.bipush 28, 2) := by decide +kernel
theorem dX0_runCost_17 : decode cX0_runCost 17 = .ok (.if_icmp .ge 34, 3) := by decide +kernel
theorem dX0_runCost_20 : decode cX0_runCost 20 = .ok (.aload_n 0, 1) := by decide +kernel
theorem dX0_runCost_21 : decode cX0_runCost 21 = .ok (.getfield 9, 3) := by decide +kernel
theorem dX0_runCost_24 : decode cX0_runCost 24 = .ok (.iload 4, 2) := by decide +kernel
theorem dX0_runCost_26 : decode cX0_runCost 26 = .ok (.iaload, 1) := by decide +kernel
theorem dX0_runCost_27 : decode cX0_runCost 27 = .ok (.bipush (-9), 2) := by decide +kernel
theorem dX0_runCost_29 : decode cX0_runCost 29 = .ok (.if_icmp .ne 6, 3) := by decide +kernel
theorem dX0_runCost_32 : decode cX0_runCost 32 = .ok (.bipush (-9), 2) := by decide +kernel
theorem dX0_runCost_34 : decode cX0_runCost 34 = .ok (.ireturn, 1) := by decide +kernel
theorem dX0_runCost_35 : decode cX0_runCost 35 = .ok (.iload_n 3, 1) := by decide +kernel
theorem dX0_runCost_36 : decode cX0_runCost 36 = .ok (.aload_n 0, 1) := by decide +kernel
theorem dX0_runCost_37 : decode cX0_runCost 37 = .ok (.getfield 9, 3) := by decide +kernel
theorem dX0_runCost_40 : decode cX0_runCost 40 = .ok (.iload 4, 2) := by decide +kernel
theorem dX0_runCost_42 : decode cX0_runCost 42 = .ok (.iaload, 1) := by decide +kernel
theorem dX0_runCost_43 : decode cX0_runCost 43 = .ok (.iadd, 1) := by decide +kernel
theorem dX0_runCost_44 : decode cX0_runCost 44 = .ok (.istore_n 3, 1) := by decide +kernel
theorem dX0_runCost_45 : decode cX0_runCost 45 = .ok (.iinc 4 1, 3) := by decide +kernel
theorem dX0_runCost_48 : decode cX0_runCost 48 = .ok (.goto (-43), 3) := by decide +kernel
theorem dX0_runCost_51 : decode cX0_runCost 51 = .ok (.iload_n 3, 1) := by decide +kernel
theorem dX0_runCost_52 : decode cX0_runCost 52 = .ok (.ireturn, 1) := by decide +kernel
theorem dX0_chooseDays_0 : decode cX0_chooseDays 0 = .ok (.iconst 0, 1) := by decide +kernel
theorem dX0_chooseDays_1 : decode cX0_chooseDays 1 = .ok (.istore_n 3, 1) := by decide +kernel
theorem dX0_chooseDays_2 : decode cX0_chooseDays 2 = .ok (.iload_n 3, 1) := by decide +kernel
theorem dX0_chooseDays_3 : decode cX0_chooseDays 3 = .ok (.bipush 7, 2) := by decide +kernel
theorem dX0_chooseDays_5 : decode cX0_chooseDays 5 = .ok (.if_icmp .ge 21, 3) := by decide +kernel
theorem dX0_chooseDays_8 : decode cX0_chooseDays 8 = .ok (.aload_n 0, 1) := by decide +kernel
theorem dX0_chooseDays_9 : decode cX0_chooseDays 9 = .ok (.getfield 15, 3) := by decide +kernel
theorem dX0_chooseDays_12 : decode cX0_chooseDays 12 = .ok (.iload_n 3, 1) := by decide +kernel
theorem dX0_chooseDays_13 : decode cX0_chooseDays 13 = .ok (.aload_n 0, 1) := by decide +kernel
theorem dX0_chooseDays_14 : decode cX0_chooseDays 14 = .ok (.iload_n 3, 1) := by decide +kernel
theorem dX0_chooseDays_15 : decode cX0_chooseDays 15 = .ok (.iload_n 2, 1) := by decide +kernel
theorem dX0_chooseDays_16 : decode cX0_chooseDays 16 = .ok (.invokevirtual 87, 3) := by decide +kernel
theorem dX0_chooseDays_19 : decode cX0_chooseDays 19 = .ok (.iastore, 1) := by decide +kernel
theorem dX0_chooseDays_20 : decode cX0_chooseDays 20 = .ok (.iinc 3 1, 3) := by decide +kernel
theorem dX0_chooseDays_23 : decode cX0_chooseDays 23 = .ok (.goto (-21), 3) := by decide +kernel
theorem dX0_chooseDays_26 : decode cX0_chooseDays 26 = .ok (.iconst 0, 1) := by decide +kernel
theorem dX0_chooseDays_27 : decode cX0_chooseDays 27 = .ok (.istore_n 3, 1) := by decide +kernel
theorem dX0_chooseDays_28 : decode cX0_chooseDays 28 = .ok (.iconst 0, 1) := by decide +kernel
theorem dX0_chooseDays_29 : decode cX0_chooseDays 29 = .ok (.istore 4, 2) := by decide +kernel
theorem dX0_chooseDays_31 : decode cX0_chooseDays 31 = .ok (.iconst 0, 1) := by decide +kernel
theorem dX0_chooseDays_32 : decode cX0_chooseDays 32 = .ok (.istore 5, 2) := by decide +kernel
theorem dX0_chooseDays_34 : decode cX0_chooseDays 34 = .ok (.iload 5, 2) := by decide +kernel
theorem dX0_chooseDays_36 : decode cX0_chooseDays 36 = .ok (.iload_n 1, 1) := by decide +kernel
theorem dX0_chooseDays_37 : decode cX0_chooseDays 37 = .ok (.if_icmp .ge 61, 3) := by decide +kernel
theorem dX0_chooseDays_40 : decode cX0_chooseDays 40 = .ok (.aload_n 0, 1) := by decide +kernel
theorem dX0_chooseDays_41 : decode cX0_chooseDays 41 = .ok (.invokevirtual 90, 3) := by decide +kernel
theorem dX0_chooseDays_44 : decode cX0_chooseDays 44 = .ok (.istore 6, 2) := by decide +kernel
theorem dX0_chooseDays_46 : decode cX0_chooseDays 46 = .ok (.iload 6, 2) := by decide +kernel
theorem dX0_chooseDays_48 : decode cX0_chooseDays 48 = .ok (.bipush (-9), 2) := by decide +kernel
theorem dX0_chooseDays_50 : decode cX0_chooseDays 50 = .ok (.if_icmp .ne 4, 3) := by decide +kernel
theorem dX0_chooseDays_53 : decode cX0_chooseDays 53 = .ok (.return_, 1) := by decide +kernel
theorem dX0_chooseDays_54 : decode cX0_chooseDays 54 = .ok (.iload_n 3, 1) := by decide +kernel
theorem dX0_chooseDays_55 : decode cX0_chooseDays 55 = .ok (.aload_n 0, 1) := by decide +kernel
theorem dX0_chooseDays_56 : decode cX0_chooseDays 56 = .ok (.getfield 9, 3) := by decide +kernel
theorem dX0_chooseDays_59 : decode cX0_chooseDays 59 = .ok (.aload_n 0, 1) := by decide +kernel
theorem dX0_chooseDays_60 : decode cX0_chooseDays 60 = .ok (.getfield 15, 3) := by decide +kernel
theorem dX0_chooseDays_63 : decode cX0_chooseDays 63 = .ok (.iload 6, 2) := by decide +kernel
theorem dX0_chooseDays_65 : decode cX0_chooseDays 65 = .ok (.iaload, 1) := by decide +kernel
theorem dX0_chooseDays_66 : decode cX0_chooseDays 66 = .ok (.iaload, 1) := by decide +kernel
theorem dX0_chooseDays_67 : decode cX0_chooseDays 67 = .ok (.iadd, 1) := by decide +kernel
theorem dX0_chooseDays_68 : decode cX0_chooseDays 68 = .ok (.istore_n 3, 1) := by decide +kernel
theorem dX0_chooseDays_69 : decode cX0_chooseDays 69 = .ok (.iload 4, 2) := by decide +kernel
theorem dX0_chooseDays_71 : decode cX0_chooseDays 71 = .ok (.iconst 1, 1) := by decide +kernel
theorem dX0_chooseDays_72 : decode cX0_chooseDays 72 = .ok (.aload_n 0, 1) := by decide +kernel
theorem dX0_chooseDays_73 : decode cX0_chooseDays 73 = .ok (.getfield 15, 3) := by decide +kernel
theorem dX0_chooseDays_76 : decode cX0_chooseDays 76 = .ok (.iload 6, 2) := by decide +kernel
theorem dX0_chooseDays_78 : decode cX0_chooseDays 78 = .ok (.iaload, 1) := by decide +kernel
theorem dX0_chooseDays_79 : decode cX0_chooseDays 79 = .ok (.ishl, 1) := by decide +kernel
theorem dX0_chooseDays_80 : decode cX0_chooseDays 80 = .ok (.ior, 1) := by decide +kernel
theorem dX0_chooseDays_81 : decode cX0_chooseDays 81 = .ok (.istore 4, 2) := by decide +kernel
theorem dX0_chooseDays_83 : decode cX0_chooseDays 83 = .ok (.aload_n 0, 1) := by decide +kernel
theorem dX0_chooseDays_84 : decode cX0_chooseDays 84 = .ok (.getfield 15, 3) := by decide +kernel
theorem dX0_chooseDays_87 : decode cX0_chooseDays 87 = .ok (.iload 6, 2) := by decide +kernel
theorem dX0_chooseDays_89 : decode cX0_chooseDays 89 = .ok (.bipush (-9), 2) := by decide +kernel
theorem dX0_chooseDays_91 : decode cX0_chooseDays 91 = .ok (.iastore, 1) := by decide +kernel
theorem dX0_chooseDays_92 : decode cX0_chooseDays 92 = .ok (.iinc 5 1, 3) := by decide +kernel
theorem dX0_chooseDays_95 : decode cX0_chooseDays 95 = .ok (.goto (-61), 3) := by decide +kernel
theorem dX0_chooseDays_98 : decode cX0_chooseDays 98 = .ok (.aload_n 0, 1) := by decide +kernel
theorem dX0_chooseDays_99 : decode cX0_chooseDays 99 = .ok (.iload_n 3, 1) := by decide +kernel
theorem dX0_chooseDays_100 : decode cX0_chooseDays 100 = .ok (.putfield 71, 3) := by decide +kernel
theorem dX0_chooseDays_103 : decode cX0_chooseDays 103 = .ok (.aload_n 0, 1) := by decide +kernel
theorem dX0_chooseDays_104 : decode cX0_chooseDays 104 = .ok (.iload 4, 2) := by decide +kernel
theorem dX0_chooseDays_106 : decode cX0_chooseDays 106 = .ok (.putfield 68, 3) := by decide +kernel
theorem dX0_chooseDays_109 : decode cX0_chooseDays 109 = .ok (.return_, 1) := by decide +kernel
theorem dX0_cheapestOf_0 : decode cX0_cheapestOf 0 = .ok (.bipush (-9), 2) := by decide +kernel
theorem dX0_cheapestOf_2 : decode cX0_cheapestOf 2 = .ok (.istore_n 3, 1) := by decide +kernel
theorem dX0_cheapestOf_3 : decode cX0_cheapestOf 3 = .ok (.iload_n 1, 1) := by decide +kernel
theorem dX0_cheapestOf_4 : decode cX0_cheapestOf 4 = .ok (.iconst 4, 1) := by decide +kernel
theorem dX0_cheapestOf_5 : decode cX0_cheapestOf 5 = .ok (.imul, 1) := by decide +kernel
theorem dX0_cheapestOf_6 : decode cX0_cheapestOf 6 = .ok (.istore 4, 2) := by decide +kernel
theorem dX0_cheapestOf_8 : decode cX0_cheapestOf 8 = .ok (.iload 4, 2) := by decide +kernel
theorem dX0_cheapestOf_10 : decode cX0_cheapestOf 10 = .ok (.istore 5, 2) := by decide +kernel
theorem dX0_cheapestOf_12 : decode cX0_cheapestOf 12 = .ok (.iload 5, 2) := by decide +kernel
theorem dX0_cheapestOf_14 : decode cX0_cheapestOf 14 = .ok (.iload 4, 2) := by decide +kernel
theorem dX0_cheapestOf_16 : decode cX0_cheapestOf 16 = .ok (.iconst 4, 1) := by decide +kernel
theorem dX0_cheapestOf_17 : decode cX0_cheapestOf 17 = .ok (.iadd, 1) := by decide +kernel
theorem dX0_cheapestOf_18 : decode cX0_cheapestOf 18 = .ok (.if_icmp .ge 52, 3) := by decide +kernel
theorem dX0_cheapestOf_21 : decode cX0_cheapestOf 21 = .ok (.iload 5, 2) := by decide +kernel
theorem dX0_cheapestOf_23 : decode cX0_cheapestOf 23 = .ok (.iload_n 2, 1) := by decide +kernel
theorem dX0_cheapestOf_24 : decode cX0_cheapestOf 24 = .ok (.if_icmp .gt 46, 3) := by decide +kernel
theorem dX0_cheapestOf_27 : decode cX0_cheapestOf 27 = .ok (.aload_n 0, 1) := by decide +kernel
theorem dX0_cheapestOf_28 : decode cX0_cheapestOf 28 = .ok (.getfield 9, 3) := by decide +kernel
theorem dX0_cheapestOf_31 : decode cX0_cheapestOf 31 = .ok (.iload 5, 2) := by decide +kernel
theorem dX0_cheapestOf_33 : decode cX0_cheapestOf 33 = .ok (.iaload, 1) := by decide +kernel
theorem dX0_cheapestOf_34 : decode cX0_cheapestOf 34 = .ok (.bipush (-9), 2) := by decide +kernel
theorem dX0_cheapestOf_36 : decode cX0_cheapestOf 36 = .ok (.if_icmp .eq 28, 3) := by decide +kernel
theorem dX0_cheapestOf_39 : decode cX0_cheapestOf 39 = .ok (.iload_n 3, 1) := by decide +kernel
theorem dX0_cheapestOf_40 : decode cX0_cheapestOf 40 = .ok (.bipush (-9), 2) := by decide +kernel
theorem dX0_cheapestOf_42 : decode cX0_cheapestOf 42 = .ok (.if_icmp .eq 19, 3) := by decide +kernel
theorem dX0_cheapestOf_45 : decode cX0_cheapestOf 45 = .ok (.aload_n 0, 1) := by decide +kernel
theorem dX0_cheapestOf_46 : decode cX0_cheapestOf 46 = .ok (.getfield 9, 3) := by decide +kernel
theorem dX0_cheapestOf_49 : decode cX0_cheapestOf 49 = .ok (.iload 5, 2) := by decide +kernel
theorem dX0_cheapestOf_51 : decode cX0_cheapestOf 51 = .ok (.iaload, 1) := by decide +kernel
theorem dX0_cheapestOf_52 : decode cX0_cheapestOf 52 = .ok (.aload_n 0, 1) := by decide +kernel
theorem dX0_cheapestOf_53 : decode cX0_cheapestOf 53 = .ok (.getfield 9, 3) := by decide +kernel
theorem dX0_cheapestOf_56 : decode cX0_cheapestOf 56 = .ok (.iload_n 3, 1) := by decide +kernel
theorem dX0_cheapestOf_57 : decode cX0_cheapestOf 57 = .ok (.iaload, 1) := by decide +kernel
theorem dX0_cheapestOf_58 : decode cX0_cheapestOf 58 = .ok (.if_icmp .ge 6, 3) := by decide +kernel
theorem dX0_cheapestOf_61 : decode cX0_cheapestOf 61 = .ok (.iload 5, 2) := by decide +kernel
theorem dX0_cheapestOf_63 : decode cX0_cheapestOf 63 = .ok (.istore_n 3, 1) := by decide +kernel
theorem dX0_cheapestOf_64 : decode cX0_cheapestOf 64 = .ok (.iinc 5 1, 3) := by decide +kernel
theorem dX0_cheapestOf_67 : decode cX0_cheapestOf 67 = .ok (.goto (-55), 3) := by decide +kernel
theorem dX0_cheapestOf_70 : decode cX0_cheapestOf 70 = .ok (.iload_n 3, 1) := by decide +kernel
theorem dX0_cheapestOf_71 : decode cX0_cheapestOf 71 = .ok (.ireturn, 1) := by decide +kernel
theorem dX0_cheapestDay_0 : decode cX0_cheapestDay 0 = .ok (.bipush (-9), 2) := by decide +kernel
theorem dX0_cheapestDay_2 : decode cX0_cheapestDay 2 = .ok (.istore_n 1, 1) := by decide +kernel
theorem dX0_cheapestDay_3 : decode cX0_cheapestDay 3 = .ok (.iconst 0, 1) := by decide +kernel
theorem dX0_cheapestDay_4 : decode cX0_cheapestDay 4 = .ok (.istore_n 2, 1) := by decide +kernel
theorem dX0_cheapestDay_5 : decode cX0_cheapestDay 5 = .ok (.iload_n 2, 1) := by decide +kernel
theorem dX0_cheapestDay_6 : decode cX0_cheapestDay 6 = .ok (.bipush 7, 2) := by decide +kernel
theorem dX0_cheapestDay_8 : decode cX0_cheapestDay 8 = .ok (.if_icmp .ge 50, 3) := by decide +kernel
theorem dX0_cheapestDay_11 : decode cX0_cheapestDay 11 = .ok (.aload_n 0, 1) := by decide +kernel
theorem dX0_cheapestDay_12 : decode cX0_cheapestDay 12 = .ok (.getfield 15, 3) := by decide +kernel
theorem dX0_cheapestDay_15 : decode cX0_cheapestDay 15 = .ok (.iload_n 2, 1) := by decide +kernel
theorem dX0_cheapestDay_16 : decode cX0_cheapestDay 16 = .ok (.iaload, 1) := by decide +kernel
theorem dX0_cheapestDay_17 : decode cX0_cheapestDay 17 = .ok (.istore_n 3, 1) := by decide +kernel
theorem dX0_cheapestDay_18 : decode cX0_cheapestDay 18 = .ok (.iload_n 3, 1) := by decide +kernel
theorem dX0_cheapestDay_19 : decode cX0_cheapestDay 19 = .ok (.bipush (-9), 2) := by decide +kernel
theorem dX0_cheapestDay_21 : decode cX0_cheapestDay 21 = .ok (.if_icmp .eq 31, 3) := by decide +kernel
theorem dX0_cheapestDay_24 : decode cX0_cheapestDay 24 = .ok (.iload_n 1, 1) := by decide +kernel
theorem dX0_cheapestDay_25 : decode cX0_cheapestDay 25 = .ok (.bipush (-9), 2) := by decide +kernel
theorem dX0_cheapestDay_27 : decode cX0_cheapestDay 27 = .ok (.if_icmp .eq 23, 3) := by decide +kernel
theorem dX0_cheapestDay_30 : decode cX0_cheapestDay 30 = .ok (.aload_n 0, 1) := by decide +kernel
theorem dX0_cheapestDay_31 : decode cX0_cheapestDay 31 = .ok (.getfield 9, 3) := by decide +kernel
theorem dX0_cheapestDay_34 : decode cX0_cheapestDay 34 = .ok (.iload_n 3, 1) := by decide +kernel
theorem dX0_cheapestDay_35 : decode cX0_cheapestDay 35 = .ok (.iaload, 1) := by decide +kernel
theorem dX0_cheapestDay_36 : decode cX0_cheapestDay 36 = .ok (.aload_n 0, 1) := by decide +kernel
theorem dX0_cheapestDay_37 : decode cX0_cheapestDay 37 = .ok (.getfield 9, 3) := by decide +kernel
theorem dX0_cheapestDay_40 : decode cX0_cheapestDay 40 = .ok (.aload_n 0, 1) := by decide +kernel
theorem dX0_cheapestDay_41 : decode cX0_cheapestDay 41 = .ok (.getfield 15, 3) := by decide +kernel
theorem dX0_cheapestDay_44 : decode cX0_cheapestDay 44 = .ok (.iload_n 1, 1) := by decide +kernel
theorem dX0_cheapestDay_45 : decode cX0_cheapestDay 45 = .ok (.iaload, 1) := by decide +kernel
theorem dX0_cheapestDay_46 : decode cX0_cheapestDay 46 = .ok (.iaload, 1) := by decide +kernel
theorem dX0_cheapestDay_47 : decode cX0_cheapestDay 47 = .ok (.if_icmp .ge 5, 3) := by decide +kernel
theorem dX0_cheapestDay_50 : decode cX0_cheapestDay 50 = .ok (.iload_n 2, 1) := by decide +kernel
theorem dX0_cheapestDay_51 : decode cX0_cheapestDay 51 = .ok (.istore_n 1, 1) := by decide +kernel
theorem dX0_cheapestDay_52 : decode cX0_cheapestDay 52 = .ok (.iinc 2 1, 3) := by decide +kernel
theorem dX0_cheapestDay_55 : decode cX0_cheapestDay 55 = .ok (.goto (-50), 3) := by decide +kernel
theorem dX0_cheapestDay_58 : decode cX0_cheapestDay 58 = .ok (.iload_n 1, 1) := by decide +kernel
theorem dX0_cheapestDay_59 : decode cX0_cheapestDay 59 = .ok (.ireturn, 1) := by decide +kernel
theorem dX0_runBits_0 : decode cX0_runBits 0 = .ok (.iconst 1, 1) := by decide +kernel
theorem dX0_runBits_1 : decode cX0_runBits 1 = .ok (.iload_n 1, 1) := by decide +kernel
theorem dX0_runBits_2 : decode cX0_runBits 2 = .ok (.ishl, 1) := by decide +kernel
theorem dX0_runBits_3 : decode cX0_runBits 3 = .ok (.iconst 1, 1) := by decide +kernel
theorem dX0_runBits_4 : decode cX0_runBits 4 = .ok (.isub, 1) := by decide +kernel
theorem dX0_runBits_5 : decode cX0_runBits 5 = .ok (.iload_n 0, 1) := by decide +kernel
theorem dX0_runBits_6 : decode cX0_runBits 6 = .ok (.ishl, 1) := by decide +kernel
theorem dX0_runBits_7 : decode cX0_runBits 7 = .ok (.ireturn, 1) := by decide +kernel
theorem dX1_init_0 : decode cX1_init 0 = .ok (.aload_n 0, 1) := by decide +kernel
theorem dX1_init_1 : decode cX1_init 1 = .ok (.invokespecial 3, 3) := by decide +kernel
theorem dX1_init_4 : decode cX1_init 4 = .ok (.aload_n 0, 1) := by decide +kernel
theorem dX1_init_5 : decode cX1_init 5 = .ok (.bipush 8, 2) := by decide +kernel
theorem dX1_init_7 : decode cX1_init 7 = .ok (.newarray .int, 2) := by decide +kernel
theorem dX1_init_9 : decode cX1_init 9 = .ok (.putfield 9, 3) := by decide +kernel
theorem dX1_init_12 : decode cX1_init 12 = .ok (.aload_n 0, 1) := by decide +kernel
theorem dX1_init_13 : decode cX1_init 13 = .ok (.aload_n 1, 1) := by decide +kernel
theorem dX1_init_14 : decode cX1_init 14 = .ok (.putfield 15, 3) := by decide +kernel
theorem dX1_init_17 : decode cX1_init 17 = .ok (.aload_n 0, 1) := by decide +kernel
theorem dX1_init_18 : decode cX1_init 18 = .ok (.aload_n 2, 1) := by decide +kernel
theorem dX1_init_19 : decode cX1_init 19 = .ok (.putfield 19, 3) := by decide +kernel
theorem dX1_init_22 : decode cX1_init 22 = .ok (.return_, 1) := by decide +kernel
theorem dX1_earned_0 : decode cX1_earned 0 = .ok (.iconst 0, 1) := by decide +kernel
theorem dX1_earned_1 : decode cX1_earned 1 = .ok (.istore_n 2, 1) := by decide +kernel
theorem dX1_earned_2 : decode cX1_earned 2 = .ok (.iconst 0, 1) := by decide +kernel
theorem dX1_earned_3 : decode cX1_earned 3 = .ok (.istore_n 3, 1) := by decide +kernel
theorem dX1_earned_4 : decode cX1_earned 4 = .ok (.iload_n 3, 1) := by decide +kernel
theorem dX1_earned_5 : decode cX1_earned 5 = .ok (.aload_n 0, 1) := by decide +kernel
theorem dX1_earned_6 : decode cX1_earned 6 = .ok (.getfield 15, 3) := by decide +kernel
theorem dX1_earned_9 : decode cX1_earned 9 = .ok (.getfield 23, 3) := by decide +kernel
theorem dX1_earned_12 : decode cX1_earned 12 = .ok (.if_icmp .ge 87, 3) := by decide +kernel
theorem dX1_earned_15 : decode cX1_earned 15 = .ok (.aload_n 0, 1) := by decide +kernel
theorem dX1_earned_16 : decode cX1_earned 16 = .ok (.getfield 15, 3) := by decide +kernel
theorem dX1_earned_19 : decode cX1_earned 19 = .ok (.getfield 29, 3) := by decide +kernel
theorem dX1_earned_22 : decode cX1_earned 22 = .ok (.iload_n 3, 1) := by decide +kernel
theorem dX1_earned_23 : decode cX1_earned 23 = .ok (.aaload, 1) := by decide +kernel
theorem dX1_earned_24 : decode cX1_earned 24 = .ok (.iconst 0, 1) := by decide +kernel
theorem dX1_earned_25 : decode cX1_earned 25 = .ok (.iaload, 1) := by decide +kernel
theorem dX1_earned_26 : decode cX1_earned 26 = .ok (.iload_n 1, 1) := by decide +kernel
theorem dX1_earned_27 : decode cX1_earned 27 = .ok (.if_icmp .ne 6, 3) := by decide +kernel
theorem dX1_earned_30 : decode cX1_earned 30 = .ok (.goto 63, 3) := by decide +kernel
theorem dX1_earned_33 : decode cX1_earned 33 = .ok (.aload_n 0, 1) := by decide +kernel
theorem dX1_earned_34 : decode cX1_earned 34 = .ok (.getfield 19, 3) := by decide +kernel
theorem dX1_earned_37 : decode cX1_earned 37 = .ok (.iload_n 3, 1) := by decide +kernel
theorem dX1_earned_38 : decode cX1_earned 38 = .ok (.invokevirtual 33, 3) := by decide +kernel
theorem dX1_earned_41 : decode cX1_earned 41 = .ok (.aload_n 0, 1) := by decide +kernel
theorem dX1_earned_42 : decode cX1_earned 42 = .ok (.getfield 15, 3) := by decide +kernel
theorem dX1_earned_45 : decode cX1_earned 45 = .ok (.getfield 29, 3) := by decide +kernel
theorem dX1_earned_48 : decode cX1_earned 48 = .ok (.iload_n 3, 1) := by decide +kernel
theorem dX1_earned_49 : decode cX1_earned 49 = .ok (.aaload, 1) := by decide +kernel
theorem dX1_earned_50 : decode cX1_earned 50 = .ok (.iconst 4, 1) := by decide +kernel
theorem dX1_earned_51 : decode cX1_earned 51 = .ok (.iaload, 1) := by decide +kernel
theorem dX1_earned_52 : decode cX1_earned 52 = .ok (.aload_n 0, 1) := by decide +kernel
theorem dX1_earned_53 : decode cX1_earned 53 = .ok (.getfield 19, 3) := by decide +kernel
theorem dX1_earned_56 : decode cX1_earned 56 = .ok (.getfield 39, 3) := by decide +kernel
theorem dX1_earned_59 : decode cX1_earned 59 = .ok (.invokestatic 42, 3) := by decide +kernel
theorem dX1_earned_62 : decode cX1_earned 62 = .ok (.bipush (-9), 2) := by decide +kernel
theorem dX1_earned_64 : decode cX1_earned 64 = .ok (.if_icmp .eq 29, 3) := by decide +kernel
theorem dX1_earned_67 : decode cX1_earned 67 = .ok (.iload_n 2, 1) := by decide +kernel
theorem dX1_earned_68 : decode cX1_earned 68 = .ok (.aload_n 0, 1) := by decide +kernel
theorem dX1_earned_69 : decode cX1_earned 69 = .ok (.iload_n 1, 1) := by decide +kernel
theorem dX1_earned_70 : decode cX1_earned 70 = .ok (.iload_n 3, 1) := by decide +kernel
theorem dX1_earned_71 : decode cX1_earned 71 = .ok (.aload_n 0, 1) := by decide +kernel
theorem dX1_earned_72 : decode cX1_earned 72 = .ok (.getfield 19, 3) := by decide +kernel
theorem dX1_earned_75 : decode cX1_earned 75 = .ok (.getfield 46, 3) := by decide +kernel
theorem dX1_earned_78 : decode cX1_earned 78 = .ok (.aload_n 0, 1) := by decide +kernel
theorem dX1_earned_79 : decode cX1_earned 79 = .ok (.getfield 15, 3) := by decide +kernel
theorem dX1_earned_82 : decode cX1_earned 82 = .ok (.getfield 49, 3) := by decide +kernel
theorem dX1_earned_85 : decode cX1_earned 85 = .ok (.iload_n 1, 1) := by decide +kernel
theorem dX1_earned_86 : decode cX1_earned 86 = .ok (.iaload, 1) := by decide +kernel
theorem dX1_earned_87 : decode cX1_earned 87 = .ok (.iand, 1) := by decide +kernel
theorem dX1_earned_88 : decode cX1_earned 88 = .ok (.invokevirtual 52, 3) := by decide +kernel
theorem dX1_earned_91 : decode cX1_earned 91 = .ok (.iadd, 1) := by decide +kernel
theorem dX1_earned_92 : decode cX1_earned 92 = .ok (.istore_n 2, 1) := by decide +kernel
theorem dX1_earned_93 : decode cX1_earned 93 = .ok (.iinc 3 1, 3) := by decide +kernel
theorem dX1_earned_96 : decode cX1_earned 96 = .ok (.goto (-92), 3) := by decide +kernel
theorem dX1_earned_99 : decode cX1_earned 99 = .ok (.iload_n 2, 1) := by decide +kernel
theorem dX1_earned_100 : decode cX1_earned 100 = .ok (.ireturn, 1) := by decide +kernel
theorem dX1_shareOf_0 : decode cX1_shareOf 0 = .ok (.iconst 0, 1) := by decide +kernel
theorem dX1_shareOf_1 : decode cX1_shareOf 1 = .ok (.istore 4, 2) := by decide +kernel
theorem dX1_shareOf_3 : decode cX1_shareOf 3 = .ok (.iconst 0, 1) := by decide +kernel
theorem dX1_shareOf_4 : decode cX1_shareOf 4 = .ok (.istore 5, 2) := by decide +kernel
theorem dX1_shareOf_6 : decode cX1_shareOf 6 = .ok (.iload 5, 2) := by decide +kernel
theorem dX1_shareOf_8 : decode cX1_shareOf 8 = .ok (.bipush 28, 2) := by decide +kernel
theorem dX1_shareOf_10 : decode cX1_shareOf 10 = .ok (.if_icmp .ge 34, 3) := by decide +kernel
theorem dX1_shareOf_13 : decode cX1_shareOf 13 = .ok (.iload_n 3, 1) := by decide +kernel
theorem dX1_shareOf_14 : decode cX1_shareOf 14 = .ok (.iload 5, 2) := by decide +kernel
theorem dX1_shareOf_16 : decode cX1_shareOf 16 = .ok (.invokestatic 56, 3) := by decide +kernel
theorem dX1_shareOf_19 : decode cX1_shareOf 19 = .ok (.ifCond .eq 19, 3) := by decide +kernel
theorem dX1_shareOf_22 : decode cX1_shareOf 22 = .ok (.iload 4, 2) := by decide +kernel
theorem dX1_shareOf_24 : decode cX1_shareOf 24 = .ok (.aload_n 0, 1) := by decide +kernel
theorem dX1_shareOf_25 : decode cX1_shareOf 25 = .ok (.getfield 19, 3) := by decide +kernel
theorem dX1_shareOf_28 : decode cX1_shareOf 28 = .ok (.iload_n 2, 1) := by decide +kernel
theorem dX1_shareOf_29 : decode cX1_shareOf 29 = .ok (.iload_n 1, 1) := by decide +kernel
theorem dX1_shareOf_30 : decode cX1_shareOf 30 = .ok (.iload 5, 2) := by decide +kernel
theorem dX1_shareOf_32 : decode cX1_shareOf 32 = .ok (.invokevirtual 60, 3) := by decide +kernel
theorem dX1_shareOf_35 : decode cX1_shareOf 35 = .ok (.iadd, 1) := by decide +kernel
theorem dX1_shareOf_36 : decode cX1_shareOf 36 = .ok (.istore 4, 2) := by decide +kernel
theorem dX1_shareOf_38 : decode cX1_shareOf 38 = .ok (.iinc 5 1, 3) := by decide +kernel
theorem dX1_shareOf_41 : decode cX1_shareOf 41 = .ok (.goto (-35), 3) := by decide +kernel
theorem dX1_shareOf_44 : decode cX1_shareOf 44 = .ok (.iload 4, 2) := by decide +kernel
theorem dX1_shareOf_46 : decode cX1_shareOf 46 = .ok (.ireturn, 1) := by decide +kernel
theorem dX1_bestPrice_0 : decode cX1_bestPrice 0 = .ok (.aload_n 0, 1) := by decide +kernel
theorem dX1_bestPrice_1 : decode cX1_bestPrice 1 = .ok (.getfield 15, 3) := by decide +kernel
theorem dX1_bestPrice_4 : decode cX1_bestPrice 4 = .ok (.getfield 49, 3) := by decide +kernel
theorem dX1_bestPrice_7 : decode cX1_bestPrice 7 = .ok (.iload_n 1, 1) := by decide +kernel
theorem dX1_bestPrice_8 : decode cX1_bestPrice 8 = .ok (.iaload, 1) := by decide +kernel
theorem dX1_bestPrice_9 : decode cX1_bestPrice 9 = .ok (.ifCond .ne 5, 3) := by decide +kernel
theorem dX1_bestPrice_12 : decode cX1_bestPrice 12 = .ok (.iconst 0, 1) := by decide +kernel
theorem dX1_bestPrice_13 : decode cX1_bestPrice 13 = .ok (.ireturn, 1) := by decide +kernel
theorem dX1_bestPrice_14 : decode cX1_bestPrice 14 = .ok (.aload_n 0, 1) := by decide +kernel
theorem dX1_bestPrice_15 : decode cX1_bestPrice 15 = .ok (.getfield 15, 3) := by decide +kernel
theorem dX1_bestPrice_18 : decode cX1_bestPrice 18 = .ok (.getfield 63, 3) := by decide +kernel
theorem dX1_bestPrice_21 : decode cX1_bestPrice 21 = .ok (.iload_n 1, 1) := by decide +kernel
theorem dX1_bestPrice_22 : decode cX1_bestPrice 22 = .ok (.aaload, 1) := by decide +kernel
theorem dX1_bestPrice_23 : decode cX1_bestPrice 23 = .ok (.astore_n 2, 1) := by decide +kernel
theorem dX1_bestPrice_24 : decode cX1_bestPrice 24 = .ok (.aload_n 2, 1) := by decide +kernel
theorem dX1_bestPrice_25 : decode cX1_bestPrice 25 = .ok (.iconst 1, 1) := by decide +kernel
theorem dX1_bestPrice_26 : decode cX1_bestPrice 26 = .ok (.iaload, 1) := by decide +kernel
theorem dX1_bestPrice_27 : decode cX1_bestPrice 27 = .ok (.istore_n 3, 1) := by decide +kernel
theorem dX1_bestPrice_28 : decode cX1_bestPrice 28 = .ok (.iconst 0, 1) := by decide +kernel
theorem dX1_bestPrice_29 : decode cX1_bestPrice 29 = .ok (.istore 4, 2) := by decide +kernel
theorem dX1_bestPrice_31 : decode cX1_bestPrice 31 = .ok (.iconst (-1), 1) := by decide +kernel
theorem dX1_bestPrice_32 : decode cX1_bestPrice 32 = .ok (.istore 5, 2) := by decide +kernel
theorem dX1_bestPrice_34 : decode cX1_bestPrice 34 = .ok (.iconst 0, 1) := by decide +kernel
theorem dX1_bestPrice_35 : decode cX1_bestPrice 35 = .ok (.istore 6, 2) := by decide +kernel
theorem dX1_bestPrice_37 : decode cX1_bestPrice 37 = .ok (.iload 6, 2) := by decide +kernel
theorem dX1_bestPrice_39 : decode cX1_bestPrice 39 = .ok (.bipush 9, 2) := by decide +kernel
theorem dX1_bestPrice_41 : decode cX1_bestPrice 41 = .ok (.if_icmp .gt 36, 3) := by decide +kernel
theorem dX1_bestPrice_44 : decode cX1_bestPrice 44 = .ok (.aload_n 2, 1) := by decide +kernel
theorem dX1_bestPrice_45 : decode cX1_bestPrice 45 = .ok (.iconst 1, 1) := by decide +kernel
theorem dX1_bestPrice_46 : decode cX1_bestPrice 46 = .ok (.iload 6, 2) := by decide +kernel
theorem dX1_bestPrice_48 : decode cX1_bestPrice 48 = .ok (.iastore, 1) := by decide +kernel
theorem dX1_bestPrice_49 : decode cX1_bestPrice 49 = .ok (.aload_n 0, 1) := by decide +kernel
theorem dX1_bestPrice_50 : decode cX1_bestPrice 50 = .ok (.iload_n 1, 1) := by decide +kernel
theorem dX1_bestPrice_51 : decode cX1_bestPrice 51 = .ok (.invokevirtual 66, 3) := by decide +kernel
theorem dX1_bestPrice_54 : decode cX1_bestPrice 54 = .ok (.istore 7, 2) := by decide +kernel
theorem dX1_bestPrice_56 : decode cX1_bestPrice 56 = .ok (.iload 7, 2) := by decide +kernel
theorem dX1_bestPrice_58 : decode cX1_bestPrice 58 = .ok (.iload 5, 2) := by decide +kernel
theorem dX1_bestPrice_60 : decode cX1_bestPrice 60 = .ok (.if_icmp .le 11, 3) := by decide +kernel
theorem dX1_bestPrice_63 : decode cX1_bestPrice 63 = .ok (.iload 7, 2) := by decide +kernel
theorem dX1_bestPrice_65 : decode cX1_bestPrice 65 = .ok (.istore 5, 2) := by decide +kernel
theorem dX1_bestPrice_67 : decode cX1_bestPrice 67 = .ok (.iload 6, 2) := by decide +kernel
theorem dX1_bestPrice_69 : decode cX1_bestPrice 69 = .ok (.istore 4, 2) := by decide +kernel
theorem dX1_bestPrice_71 : decode cX1_bestPrice 71 = .ok (.iinc 6 1, 3) := by decide +kernel
theorem dX1_bestPrice_74 : decode cX1_bestPrice 74 = .ok (.goto (-37), 3) := by decide +kernel
theorem dX1_bestPrice_77 : decode cX1_bestPrice 77 = .ok (.aload_n 2, 1) := by decide +kernel
theorem dX1_bestPrice_78 : decode cX1_bestPrice 78 = .ok (.iconst 1, 1) := by decide +kernel
theorem dX1_bestPrice_79 : decode cX1_bestPrice 79 = .ok (.iload_n 3, 1) := by decide +kernel
theorem dX1_bestPrice_80 : decode cX1_bestPrice 80 = .ok (.iastore, 1) := by decide +kernel
theorem dX1_bestPrice_81 : decode cX1_bestPrice 81 = .ok (.iload 4, 2) := by decide +kernel
theorem dX1_bestPrice_83 : decode cX1_bestPrice 83 = .ok (.ireturn, 1) := by decide +kernel
theorem dX1_roundsToRest_0 : decode cX1_roundsToRest 0 = .ok (.iconst 0, 1) := by decide +kernel
theorem dX1_roundsToRest_1 : decode cX1_roundsToRest 1 = .ok (.istore_n 1, 1) := by decide +kernel
theorem dX1_roundsToRest_2 : decode cX1_roundsToRest 2 = .ok (.iload_n 1, 1) := by decide +kernel
theorem dX1_roundsToRest_3 : decode cX1_roundsToRest 3 = .ok (.aload_n 0, 1) := by decide +kernel
theorem dX1_roundsToRest_4 : decode cX1_roundsToRest 4 = .ok (.getfield 15, 3) := by decide +kernel
theorem dX1_roundsToRest_7 : decode cX1_roundsToRest 7 = .ok (.getfield 70, 3) := by decide +kernel
theorem dX1_roundsToRest_10 : decode cX1_roundsToRest 10 = .ok (.if_icmp .ge 26, 3) := by decide +kernel
theorem dX1_roundsToRest_13 : decode cX1_roundsToRest 13 = .ok (.aload_n 0, 1) := by decide +kernel
theorem dX1_roundsToRest_14 : decode cX1_roundsToRest 14 = .ok (.getfield 9, 3) := by decide +kernel
theorem dX1_roundsToRest_17 : decode cX1_roundsToRest 17 = .ok (.iload_n 1, 1) := by decide +kernel
theorem dX1_roundsToRest_18 : decode cX1_roundsToRest 18 = .ok (.aload_n 0, 1) := by decide +kernel
theorem dX1_roundsToRest_19 : decode cX1_roundsToRest 19 = .ok (.getfield 15, 3) := by decide +kernel
theorem dX1_roundsToRest_22 : decode cX1_roundsToRest 22 = .ok (.getfield 63, 3) := by decide +kernel
theorem dX1_roundsToRest_25 : decode cX1_roundsToRest 25 = .ok (.iload_n 1, 1) := by decide +kernel
theorem dX1_roundsToRest_26 : decode cX1_roundsToRest 26 = .ok (.aaload, 1) := by decide +kernel
theorem dX1_roundsToRest_27 : decode cX1_roundsToRest 27 = .ok (.iconst 1, 1) := by decide +kernel
theorem dX1_roundsToRest_28 : decode cX1_roundsToRest 28 = .ok (.iaload, 1) := by decide +kernel
theorem dX1_roundsToRest_29 : decode cX1_roundsToRest 29 = .ok (.iastore, 1) := by decide +kernel
theorem dX1_roundsToRest_30 : decode cX1_roundsToRest 30 = .ok (.iinc 1 1, 3) := by decide +kernel
theorem dX1_roundsToRest_33 : decode cX1_roundsToRest 33 = .ok (.goto (-31), 3) := by decide +kernel
theorem dX1_roundsToRest_36 : decode cX1_roundsToRest 36 = .ok (.bipush (-9), 2) := by decide +kernel
theorem dX1_roundsToRest_38 : decode cX1_roundsToRest 38 = .ok (.istore_n 1, 1) := by decide +kernel
theorem dX1_roundsToRest_39 : decode cX1_roundsToRest 39 = .ok (.iconst 1, 1) := by decide +kernel
theorem dX1_roundsToRest_40 : decode cX1_roundsToRest 40 = .ok (.istore_n 2, 1) := by decide +kernel
theorem dX1_roundsToRest_41 : decode cX1_roundsToRest 41 = .ok (.iload_n 2, 1) := by decide +kernel
theorem dX1_roundsToRest_42 : decode cX1_roundsToRest 42 = .ok (.bipush 10, 2) := by decide +kernel
theorem dX1_roundsToRest_44 : decode cX1_roundsToRest 44 = .ok (.if_icmp .gt 93, 3) := by decide +kernel
theorem dX1_roundsToRest_47 : decode cX1_roundsToRest 47 = .ok (.iload_n 1, 1) := by decide +kernel
theorem dX1_roundsToRest_48 : decode cX1_roundsToRest 48 = .ok (.bipush (-9), 2) := by decide +kernel
theorem dX1_roundsToRest_50 : decode cX1_roundsToRest 50 = .ok (.if_icmp .ne 87, 3) := by decide +kernel
theorem dX1_roundsToRest_53 : decode cX1_roundsToRest 53 = .ok (.iconst 0, 1) := by decide +kernel
theorem dX1_roundsToRest_54 : decode cX1_roundsToRest 54 = .ok (.istore_n 3, 1) := by decide +kernel
theorem dX1_roundsToRest_55 : decode cX1_roundsToRest 55 = .ok (.iconst 0, 1) := by decide +kernel
theorem dX1_roundsToRest_56 : decode cX1_roundsToRest 56 = .ok (.istore 4, 2) := by decide +kernel
theorem dX1_roundsToRest_58 : decode cX1_roundsToRest 58 = .ok (.iload 4, 2) := by decide +kernel
theorem dX1_roundsToRest_60 : decode cX1_roundsToRest 60 = .ok (.aload_n 0, 1) := by decide +kernel
theorem dX1_roundsToRest_61 : decode cX1_roundsToRest 61 = .ok (.getfield 15, 3) := by decide +kernel
theorem dX1_roundsToRest_64 : decode cX1_roundsToRest 64 = .ok (.getfield 70, 3) := by decide +kernel
theorem dX1_roundsToRest_67 : decode cX1_roundsToRest 67 = .ok (.if_icmp .ge 58, 3) := by decide +kernel
theorem dX1_roundsToRest_70 : decode cX1_roundsToRest 70 = .ok (.aload_n 0, 1) := by decide +kernel
theorem dX1_roundsToRest_71 : decode cX1_roundsToRest 71 = .ok (.iload 4, 2) := by decide +kernel
theorem dX1_roundsToRest_73 : decode cX1_roundsToRest 73 = .ok (.invokevirtual 73, 3) := by decide +kernel
theorem dX1_roundsToRest_76 : decode cX1_roundsToRest 76 = .ok (.istore 5, 2) := by decide +kernel
theorem dX1_roundsToRest_78 : decode cX1_roundsToRest 78 = .ok (.iload_n 3, 1) := by decide +kernel
theorem dX1_roundsToRest_79 : decode cX1_roundsToRest 79 = .ok (.ifCond .ne 20, 3) := by decide +kernel
theorem dX1_roundsToRest_82 : decode cX1_roundsToRest 82 = .ok (.iload 5, 2) := by decide +kernel
theorem dX1_roundsToRest_84 : decode cX1_roundsToRest 84 = .ok (.aload_n 0, 1) := by decide +kernel
theorem dX1_roundsToRest_85 : decode cX1_roundsToRest 85 = .ok (.getfield 15, 3) := by decide +kernel
theorem dX1_roundsToRest_88 : decode cX1_roundsToRest 88 = .ok (.getfield 63, 3) := by decide +kernel
theorem dX1_roundsToRest_91 : decode cX1_roundsToRest 91 = .ok (.iload 4, 2) := by decide +kernel
theorem dX1_roundsToRest_93 : decode cX1_roundsToRest 93 = .ok (.aaload, 1) := by decide +kernel
theorem dX1_roundsToRest_94 : decode cX1_roundsToRest 94 = .ok (.iconst 1, 1) := by decide +kernel
theorem dX1_roundsToRest_95 : decode cX1_roundsToRest 95 = .ok (.iaload, 1) := by decide +kernel
theorem dX1_roundsToRest_96 : decode cX1_roundsToRest 96 = .ok (.if_icmp .eq 7, 3) := by decide +kernel
theorem dX1_roundsToRest_99 : decode cX1_roundsToRest 99 = .ok (.iconst 1, 1) := by decide +kernel
theorem dX1_roundsToRest_100 : decode cX1_roundsToRest 100 = .ok (.goto 4, 3) := by decide +kernel
theorem dX1_roundsToRest_103 : decode cX1_roundsToRest 103 = .ok (.iconst 0, 1) := by decide +kernel
theorem dX1_roundsToRest_104 : decode cX1_roundsToRest 104 = .ok (.istore_n 3, 1) := by decide +kernel
theorem dX1_roundsToRest_105 : decode cX1_roundsToRest 105 = .ok (.aload_n 0, 1) := by decide +kernel
theorem dX1_roundsToRest_106 : decode cX1_roundsToRest 106 = .ok (.getfield 15, 3) := by decide +kernel
theorem dX1_roundsToRest_109 : decode cX1_roundsToRest 109 = .ok (.getfield 63, 3) := by decide +kernel
theorem dX1_roundsToRest_112 : decode cX1_roundsToRest 112 = .ok (.iload 4, 2) := by decide +kernel
theorem dX1_roundsToRest_114 : decode cX1_roundsToRest 114 = .ok (.aaload, 1) := by decide +kernel
theorem dX1_roundsToRest_115 : decode cX1_roundsToRest 115 = .ok (.iconst 1, 1) := by decide +kernel
theorem dX1_roundsToRest_116 : decode cX1_roundsToRest 116 = .ok (.iload 5, 2) := by decide +kernel
theorem dX1_roundsToRest_118 : decode cX1_roundsToRest 118 = .ok (.iastore, 1) := by decide +kernel
theorem dX1_roundsToRest_119 : decode cX1_roundsToRest 119 = .ok (.iinc 4 1, 3) := by decide +kernel
theorem dX1_roundsToRest_122 : decode cX1_roundsToRest 122 = .ok (.goto (-64), 3) := by decide +kernel
theorem dX1_roundsToRest_125 : decode cX1_roundsToRest 125 = .ok (.iload_n 3, 1) := by decide +kernel
theorem dX1_roundsToRest_126 : decode cX1_roundsToRest 126 = .ok (.ifCond .ne 5, 3) := by decide +kernel
theorem dX1_roundsToRest_129 : decode cX1_roundsToRest 129 = .ok (.iload_n 2, 1) := by decide +kernel
theorem dX1_roundsToRest_130 : decode cX1_roundsToRest 130 = .ok (.istore_n 1, 1) := by decide +kernel
theorem dX1_roundsToRest_131 : decode cX1_roundsToRest 131 = .ok (.iinc 2 1, 3) := by decide +kernel
theorem dX1_roundsToRest_134 : decode cX1_roundsToRest 134 = .ok (.goto (-93), 3) := by decide +kernel
theorem dX1_roundsToRest_137 : decode cX1_roundsToRest 137 = .ok (.iconst 0, 1) := by decide +kernel
theorem dX1_roundsToRest_138 : decode cX1_roundsToRest 138 = .ok (.istore_n 2, 1) := by decide +kernel
theorem dX1_roundsToRest_139 : decode cX1_roundsToRest 139 = .ok (.iload_n 2, 1) := by decide +kernel
theorem dX1_roundsToRest_140 : decode cX1_roundsToRest 140 = .ok (.aload_n 0, 1) := by decide +kernel
theorem dX1_roundsToRest_141 : decode cX1_roundsToRest 141 = .ok (.getfield 15, 3) := by decide +kernel
theorem dX1_roundsToRest_144 : decode cX1_roundsToRest 144 = .ok (.getfield 70, 3) := by decide +kernel
theorem dX1_roundsToRest_147 : decode cX1_roundsToRest 147 = .ok (.if_icmp .ge 26, 3) := by decide +kernel
theorem dX1_roundsToRest_150 : decode cX1_roundsToRest 150 = .ok (.aload_n 0, 1) := by decide +kernel
theorem dX1_roundsToRest_151 : decode cX1_roundsToRest 151 = .ok (.getfield 15, 3) := by decide +kernel
theorem dX1_roundsToRest_154 : decode cX1_roundsToRest 154 = .ok (.getfield 63, 3) := by decide +kernel
theorem dX1_roundsToRest_157 : decode cX1_roundsToRest 157 = .ok (.iload_n 2, 1) := by decide +kernel
theorem dX1_roundsToRest_158 : decode cX1_roundsToRest 158 = .ok (.aaload, 1) := by decide +kernel
theorem dX1_roundsToRest_159 : decode cX1_roundsToRest 159 = .ok (.iconst 1, 1) := by decide +kernel
theorem dX1_roundsToRest_160 : decode cX1_roundsToRest 160 = .ok (.aload_n 0, 1) := by decide +kernel
theorem dX1_roundsToRest_161 : decode cX1_roundsToRest 161 = .ok (.getfield 9, 3) := by decide +kernel
theorem dX1_roundsToRest_164 : decode cX1_roundsToRest 164 = .ok (.iload_n 2, 1) := by decide +kernel
theorem dX1_roundsToRest_165 : decode cX1_roundsToRest 165 = .ok (.iaload, 1) := by decide +kernel
theorem dX1_roundsToRest_166 : decode cX1_roundsToRest 166 = .ok (.iastore, 1) := by decide +kernel
theorem dX1_roundsToRest_167 : decode cX1_roundsToRest 167 = .ok (.iinc 2 1, 3) := by decide +kernel
theorem dX1_roundsToRest_170 : decode cX1_roundsToRest 170 = .ok (.goto (-31), 3) := by decide +kernel
theorem dX1_roundsToRest_173 : decode cX1_roundsToRest 173 = .ok (.iload_n 1, 1) := by decide +kernel
theorem dX1_roundsToRest_174 : decode cX1_roundsToRest 174 = .ok (.ireturn, 1) := by decide +kernel
theorem dX2_init_0 : decode cX2_init 0 = .ok (.aload_n 0, 1) := by decide +kernel
theorem dX2_init_1 : decode cX2_init 1 = .ok (.invokespecial 3, 3) := by decide +kernel
theorem dX2_init_4 : decode cX2_init 4 = .ok (.aload_n 0, 1) := by decide +kernel
theorem dX2_init_5 : decode cX2_init 5 = .ok (.bipush 6, 2) := by decide +kernel
theorem dX2_init_7 : decode cX2_init 7 = .ok (.newarray .int, 2) := by decide +kernel
theorem dX2_init_9 : decode cX2_init 9 = .ok (.putfield 9, 3) := by decide +kernel
theorem dX2_init_12 : decode cX2_init 12 = .ok (.aload_n 0, 1) := by decide +kernel
theorem dX2_init_13 : decode cX2_init 13 = .ok (.aload_n 1, 1) := by decide +kernel
theorem dX2_init_14 : decode cX2_init 14 = .ok (.putfield 15, 3) := by decide +kernel
theorem dX2_init_17 : decode cX2_init 17 = .ok (.aload_n 0, 1) := by decide +kernel
theorem dX2_init_18 : decode cX2_init 18 = .ok (.aload_n 2, 1) := by decide +kernel
theorem dX2_init_19 : decode cX2_init 19 = .ok (.putfield 19, 3) := by decide +kernel
theorem dX2_init_22 : decode cX2_init 22 = .ok (.return_, 1) := by decide +kernel
theorem dX2_bestSpouse_0 : decode cX2_bestSpouse 0 = .ok (.aload_n 0, 1) := by decide +kernel
theorem dX2_bestSpouse_1 : decode cX2_bestSpouse 1 = .ok (.getfield 15, 3) := by decide +kernel
theorem dX2_bestSpouse_4 : decode cX2_bestSpouse 4 = .ok (.getfield 23, 3) := by decide +kernel
theorem dX2_bestSpouse_7 : decode cX2_bestSpouse 7 = .ok (.iload_n 1, 1) := by decide +kernel
theorem dX2_bestSpouse_8 : decode cX2_bestSpouse 8 = .ok (.iaload, 1) := by decide +kernel
theorem dX2_bestSpouse_9 : decode cX2_bestSpouse 9 = .ok (.istore_n 2, 1) := by decide +kernel
theorem dX2_bestSpouse_10 : decode cX2_bestSpouse 10 = .ok (.aload_n 0, 1) := by decide +kernel
theorem dX2_bestSpouse_11 : decode cX2_bestSpouse 11 = .ok (.iload_n 1, 1) := by decide +kernel
theorem dX2_bestSpouse_12 : decode cX2_bestSpouse 12 = .ok (.invokevirtual 28, 3) := by decide +kernel
theorem dX2_bestSpouse_15 : decode cX2_bestSpouse 15 = .ok (.istore_n 3, 1) := by decide +kernel
theorem dX2_bestSpouse_16 : decode cX2_bestSpouse 16 = .ok (.bipush (-9), 2) := by decide +kernel
theorem dX2_bestSpouse_18 : decode cX2_bestSpouse 18 = .ok (.istore 4, 2) := by decide +kernel
theorem dX2_bestSpouse_20 : decode cX2_bestSpouse 20 = .ok (.iconst 0, 1) := by decide +kernel
theorem dX2_bestSpouse_21 : decode cX2_bestSpouse 21 = .ok (.istore 5, 2) := by decide +kernel
theorem dX2_bestSpouse_23 : decode cX2_bestSpouse 23 = .ok (.iload 5, 2) := by decide +kernel
theorem dX2_bestSpouse_25 : decode cX2_bestSpouse 25 = .ok (.aload_n 0, 1) := by decide +kernel
theorem dX2_bestSpouse_26 : decode cX2_bestSpouse 26 = .ok (.getfield 15, 3) := by decide +kernel
theorem dX2_bestSpouse_29 : decode cX2_bestSpouse 29 = .ok (.getfield 32, 3) := by decide +kernel
theorem dX2_bestSpouse_32 : decode cX2_bestSpouse 32 = .ok (.if_icmp .ge 50, 3) := by decide +kernel
theorem dX2_bestSpouse_35 : decode cX2_bestSpouse 35 = .ok (.aload_n 0, 1) := by decide +kernel
theorem dX2_bestSpouse_36 : decode cX2_bestSpouse 36 = .ok (.getfield 15, 3) := by decide +kernel
theorem dX2_bestSpouse_39 : decode cX2_bestSpouse 39 = .ok (.getfield 23, 3) := by decide +kernel
theorem dX2_bestSpouse_42 : decode cX2_bestSpouse 42 = .ok (.iload_n 1, 1) := by decide +kernel
theorem dX2_bestSpouse_43 : decode cX2_bestSpouse 43 = .ok (.iload 5, 2) := by decide +kernel
theorem dX2_bestSpouse_45 : decode cX2_bestSpouse 45 = .ok (.iload_n 1, 1) := by decide +kernel
theorem dX2_bestSpouse_46 : decode cX2_bestSpouse 46 = .ok (.if_icmp .ne 7, 3) := by decide +kernel
theorem dX2_bestSpouse_49 : decode cX2_bestSpouse 49 = .ok (.iload_n 2, 1) := by decide +kernel
theorem dX2_bestSpouse_50 : decode cX2_bestSpouse 50 = .ok (.goto 5, 3) := by decide +kernel
theorem dX2_bestSpouse_53 : decode cX2_bestSpouse 53 = .ok (.iload 5, 2) := by decide +kernel
theorem dX2_bestSpouse_55 : decode cX2_bestSpouse 55 = .ok (.iastore, 1) := by decide +kernel
theorem dX2_bestSpouse_56 : decode cX2_bestSpouse 56 = .ok (.aload_n 0, 1) := by decide +kernel
theorem dX2_bestSpouse_57 : decode cX2_bestSpouse 57 = .ok (.iload_n 1, 1) := by decide +kernel
theorem dX2_bestSpouse_58 : decode cX2_bestSpouse 58 = .ok (.invokevirtual 28, 3) := by decide +kernel
theorem dX2_bestSpouse_61 : decode cX2_bestSpouse 61 = .ok (.istore 6, 2) := by decide +kernel
theorem dX2_bestSpouse_63 : decode cX2_bestSpouse 63 = .ok (.iload 6, 2) := by decide +kernel
theorem dX2_bestSpouse_65 : decode cX2_bestSpouse 65 = .ok (.iload_n 3, 1) := by decide +kernel
theorem dX2_bestSpouse_66 : decode cX2_bestSpouse 66 = .ok (.if_icmp .ge 10, 3) := by decide +kernel
theorem dX2_bestSpouse_69 : decode cX2_bestSpouse 69 = .ok (.iload 6, 2) := by decide +kernel
theorem dX2_bestSpouse_71 : decode cX2_bestSpouse 71 = .ok (.istore_n 3, 1) := by decide +kernel
theorem dX2_bestSpouse_72 : decode cX2_bestSpouse 72 = .ok (.iload 5, 2) := by decide +kernel
theorem dX2_bestSpouse_74 : decode cX2_bestSpouse 74 = .ok (.istore 4, 2) := by decide +kernel
theorem dX2_bestSpouse_76 : decode cX2_bestSpouse 76 = .ok (.iinc 5 1, 3) := by decide +kernel
theorem dX2_bestSpouse_79 : decode cX2_bestSpouse 79 = .ok (.goto (-56), 3) := by decide +kernel
theorem dX2_bestSpouse_82 : decode cX2_bestSpouse 82 = .ok (.aload_n 0, 1) := by decide +kernel
theorem dX2_bestSpouse_83 : decode cX2_bestSpouse 83 = .ok (.getfield 15, 3) := by decide +kernel
theorem dX2_bestSpouse_86 : decode cX2_bestSpouse 86 = .ok (.getfield 23, 3) := by decide +kernel
theorem dX2_bestSpouse_89 : decode cX2_bestSpouse 89 = .ok (.iload_n 1, 1) := by decide +kernel
theorem dX2_bestSpouse_90 : decode cX2_bestSpouse 90 = .ok (.iload_n 2, 1) := by decide +kernel
theorem dX2_bestSpouse_91 : decode cX2_bestSpouse 91 = .ok (.iastore, 1) := by decide +kernel
theorem dX2_bestSpouse_92 : decode cX2_bestSpouse 92 = .ok (.iload 4, 2) := by decide +kernel
theorem dX2_bestSpouse_94 : decode cX2_bestSpouse 94 = .ok (.ireturn, 1) := by decide +kernel
theorem dX2_costOfWorksOf_0 : decode cX2_costOfWorksOf 0 = .ok (.iconst 0, 1) := by decide +kernel
theorem dX2_costOfWorksOf_1 : decode cX2_costOfWorksOf 1 = .ok (.istore_n 2, 1) := by decide +kernel
theorem dX2_costOfWorksOf_2 : decode cX2_costOfWorksOf 2 = .ok (.iconst 0, 1) := by decide +kernel
theorem dX2_costOfWorksOf_3 : decode cX2_costOfWorksOf 3 = .ok (.istore_n 3, 1) := by decide +kernel
theorem dX2_costOfWorksOf_4 : decode cX2_costOfWorksOf 4 = .ok (.iload_n 3, 1) := by decide +kernel
theorem dX2_costOfWorksOf_5 : decode cX2_costOfWorksOf 5 = .ok (.aload_n 0, 1) := by decide +kernel
theorem dX2_costOfWorksOf_6 : decode cX2_costOfWorksOf 6 = .ok (.getfield 15, 3) := by decide +kernel
theorem dX2_costOfWorksOf_9 : decode cX2_costOfWorksOf 9 = .ok (.getfield 36, 3) := by decide +kernel
theorem dX2_costOfWorksOf_12 : decode cX2_costOfWorksOf 12 = .ok (.if_icmp .ge 59, 3) := by decide +kernel
theorem dX2_costOfWorksOf_15 : decode cX2_costOfWorksOf 15 = .ok (.aload_n 0, 1) := by decide +kernel
theorem dX2_costOfWorksOf_16 : decode cX2_costOfWorksOf 16 = .ok (.getfield 15, 3) := by decide +kernel
theorem dX2_costOfWorksOf_19 : decode cX2_costOfWorksOf 19 = .ok (.getfield 39, 3) := by decide +kernel
theorem dX2_costOfWorksOf_22 : decode cX2_costOfWorksOf 22 = .ok (.iload_n 3, 1) := by decide +kernel
theorem dX2_costOfWorksOf_23 : decode cX2_costOfWorksOf 23 = .ok (.aaload, 1) := by decide +kernel
theorem dX2_costOfWorksOf_24 : decode cX2_costOfWorksOf 24 = .ok (.iconst 0, 1) := by decide +kernel
theorem dX2_costOfWorksOf_25 : decode cX2_costOfWorksOf 25 = .ok (.iaload, 1) := by decide +kernel
theorem dX2_costOfWorksOf_26 : decode cX2_costOfWorksOf 26 = .ok (.iload_n 1, 1) := by decide +kernel
theorem dX2_costOfWorksOf_27 : decode cX2_costOfWorksOf 27 = .ok (.if_icmp .ne 38, 3) := by decide +kernel
theorem dX2_costOfWorksOf_30 : decode cX2_costOfWorksOf 30 = .ok (.aload_n 0, 1) := by decide +kernel
theorem dX2_costOfWorksOf_31 : decode cX2_costOfWorksOf 31 = .ok (.getfield 19, 3) := by decide +kernel
theorem dX2_costOfWorksOf_34 : decode cX2_costOfWorksOf 34 = .ok (.iload_n 3, 1) := by decide +kernel
theorem dX2_costOfWorksOf_35 : decode cX2_costOfWorksOf 35 = .ok (.invokevirtual 43, 3) := by decide +kernel
theorem dX2_costOfWorksOf_38 : decode cX2_costOfWorksOf 38 = .ok (.iload_n 2, 1) := by decide +kernel
theorem dX2_costOfWorksOf_39 : decode cX2_costOfWorksOf 39 = .ok (.aload_n 0, 1) := by decide +kernel
theorem dX2_costOfWorksOf_40 : decode cX2_costOfWorksOf 40 = .ok (.getfield 19, 3) := by decide +kernel
theorem dX2_costOfWorksOf_43 : decode cX2_costOfWorksOf 43 = .ok (.getfield 49, 3) := by decide +kernel
theorem dX2_costOfWorksOf_46 : decode cX2_costOfWorksOf 46 = .ok (.bipush (-9), 2) := by decide +kernel
theorem dX2_costOfWorksOf_48 : decode cX2_costOfWorksOf 48 = .ok (.if_icmp .ne 8, 3) := by decide +kernel
theorem dX2_costOfWorksOf_51 : decode cX2_costOfWorksOf 51 = .ok (.bipush 100, 2) := by decide +kernel
theorem dX2_costOfWorksOf_53 : decode cX2_costOfWorksOf 53 = .ok (.goto 10, 3) := by decide +kernel
theorem dX2_costOfWorksOf_56 : decode cX2_costOfWorksOf 56 = .ok (.aload_n 0, 1) := by decide +kernel
theorem dX2_costOfWorksOf_57 : decode cX2_costOfWorksOf 57 = .ok (.getfield 19, 3) := by decide +kernel
theorem dX2_costOfWorksOf_60 : decode cX2_costOfWorksOf 60 = .ok (.getfield 49, 3) := by decide +kernel
theorem dX2_costOfWorksOf_63 : decode cX2_costOfWorksOf 63 = .ok (.iadd, 1) := by decide +kernel
theorem dX2_costOfWorksOf_64 : decode cX2_costOfWorksOf 64 = .ok (.istore_n 2, 1) := by decide +kernel
theorem dX2_costOfWorksOf_65 : decode cX2_costOfWorksOf 65 = .ok (.iinc 3 1, 3) := by decide +kernel
theorem dX2_costOfWorksOf_68 : decode cX2_costOfWorksOf 68 = .ok (.goto (-64), 3) := by decide +kernel
theorem dX2_costOfWorksOf_71 : decode cX2_costOfWorksOf 71 = .ok (.iload_n 2, 1) := by decide +kernel
theorem dX2_costOfWorksOf_72 : decode cX2_costOfWorksOf 72 = .ok (.ireturn, 1) := by decide +kernel
theorem dX2_bestTaker_0 : decode cX2_bestTaker 0 = .ok (.iconst 0, 1) := by decide +kernel
theorem dX2_bestTaker_1 : decode cX2_bestTaker 1 = .ok (.istore_n 1, 1) := by decide +kernel
theorem dX2_bestTaker_2 : decode cX2_bestTaker 2 = .ok (.iconst 0, 1) := by decide +kernel
theorem dX2_bestTaker_3 : decode cX2_bestTaker 3 = .ok (.istore_n 2, 1) := by decide +kernel
theorem dX2_bestTaker_4 : decode cX2_bestTaker 4 = .ok (.iload_n 2, 1) := by decide +kernel
theorem dX2_bestTaker_5 : decode cX2_bestTaker 5 = .ok (.bipush 28, 2) := by decide +kernel
theorem dX2_bestTaker_7 : decode cX2_bestTaker 7 = .ok (.if_icmp .ge 31, 3) := by decide +kernel
theorem dX2_bestTaker_10 : decode cX2_bestTaker 10 = .ok (.iload_n 1, 1) := by decide +kernel
theorem dX2_bestTaker_11 : decode cX2_bestTaker 11 = .ok (.aload_n 0, 1) := by decide +kernel
theorem dX2_bestTaker_12 : decode cX2_bestTaker 12 = .ok (.getfield 15, 3) := by decide +kernel
theorem dX2_bestTaker_15 : decode cX2_bestTaker 15 = .ok (.getfield 52, 3) := by decide +kernel
theorem dX2_bestTaker_18 : decode cX2_bestTaker 18 = .ok (.iload_n 2, 1) := by decide +kernel
theorem dX2_bestTaker_19 : decode cX2_bestTaker 19 = .ok (.iaload, 1) := by decide +kernel
theorem dX2_bestTaker_20 : decode cX2_bestTaker 20 = .ok (.ifCond .ne 9, 3) := by decide +kernel
theorem dX2_bestTaker_23 : decode cX2_bestTaker 23 = .ok (.iconst 1, 1) := by decide +kernel
theorem dX2_bestTaker_24 : decode cX2_bestTaker 24 = .ok (.iload_n 2, 1) := by decide +kernel
theorem dX2_bestTaker_25 : decode cX2_bestTaker 25 = .ok (.ishl, 1) := by decide +kernel
theorem dX2_bestTaker_26 : decode cX2_bestTaker 26 = .ok (.goto 4, 3) := by decide +kernel
theorem dX2_bestTaker_29 : decode cX2_bestTaker 29 = .ok (.iconst 0, 1) := by decide +kernel
theorem dX2_bestTaker_30 : decode cX2_bestTaker 30 = .ok (.ior, 1) := by decide +kernel
theorem dX2_bestTaker_31 : decode cX2_bestTaker 31 = .ok (.istore_n 1, 1) := by decide +kernel
theorem dX2_bestTaker_32 : decode cX2_bestTaker 32 = .ok (.iinc 2 1, 3) := by decide +kernel
theorem dX2_bestTaker_35 : decode cX2_bestTaker 35 = .ok (.goto (-31), 3) := by decide +kernel
theorem dX2_bestTaker_38 : decode cX2_bestTaker 38 = .ok (.bipush (-9), 2) := by decide +kernel
theorem dX2_bestTaker_40 : decode cX2_bestTaker 40 = .ok (.istore_n 2, 1) := by decide +kernel
theorem dX2_bestTaker_41 : decode cX2_bestTaker 41 = .ok (.iconst (-1), 1) := by decide +kernel
theorem dX2_bestTaker_42 : decode cX2_bestTaker 42 = .ok (.istore_n 3, 1) := by decide +kernel
theorem dX2_bestTaker_43 : decode cX2_bestTaker 43 = .ok (.iconst 0, 1) := by decide +kernel
theorem dX2_bestTaker_44 : decode cX2_bestTaker 44 = .ok (.istore 4, 2) := by decide +kernel
theorem dX2_bestTaker_46 : decode cX2_bestTaker 46 = .ok (.iload 4, 2) := by decide +kernel
theorem dX2_bestTaker_48 : decode cX2_bestTaker 48 = .ok (.aload_n 0, 1) := by decide +kernel
theorem dX2_bestTaker_49 : decode cX2_bestTaker 49 = .ok (.getfield 15, 3) := by decide +kernel
theorem dX2_bestTaker_52 : decode cX2_bestTaker 52 = .ok (.getfield 32, 3) := by decide +kernel
theorem dX2_bestTaker_55 : decode cX2_bestTaker 55 = .ok (.if_icmp .ge 30, 3) := by decide +kernel
theorem dX2_bestTaker_58 : decode cX2_bestTaker 58 = .ok (.aload_n 0, 1) := by decide +kernel
theorem dX2_bestTaker_59 : decode cX2_bestTaker 59 = .ok (.iload 4, 2) := by decide +kernel
theorem dX2_bestTaker_61 : decode cX2_bestTaker 61 = .ok (.iload_n 1, 1) := by decide +kernel
theorem dX2_bestTaker_62 : decode cX2_bestTaker 62 = .ok (.invokevirtual 55, 3) := by decide +kernel
theorem dX2_bestTaker_65 : decode cX2_bestTaker 65 = .ok (.istore 5, 2) := by decide +kernel
theorem dX2_bestTaker_67 : decode cX2_bestTaker 67 = .ok (.iload 5, 2) := by decide +kernel
theorem dX2_bestTaker_69 : decode cX2_bestTaker 69 = .ok (.iload_n 3, 1) := by decide +kernel
theorem dX2_bestTaker_70 : decode cX2_bestTaker 70 = .ok (.if_icmp .le 9, 3) := by decide +kernel
theorem dX2_bestTaker_73 : decode cX2_bestTaker 73 = .ok (.iload 5, 2) := by decide +kernel
theorem dX2_bestTaker_75 : decode cX2_bestTaker 75 = .ok (.istore_n 3, 1) := by decide +kernel
theorem dX2_bestTaker_76 : decode cX2_bestTaker 76 = .ok (.iload 4, 2) := by decide +kernel
theorem dX2_bestTaker_78 : decode cX2_bestTaker 78 = .ok (.istore_n 2, 1) := by decide +kernel
theorem dX2_bestTaker_79 : decode cX2_bestTaker 79 = .ok (.iinc 4 1, 3) := by decide +kernel
theorem dX2_bestTaker_82 : decode cX2_bestTaker 82 = .ok (.goto (-36), 3) := by decide +kernel
theorem dX2_bestTaker_85 : decode cX2_bestTaker 85 = .ok (.iload_n 2, 1) := by decide +kernel
theorem dX2_bestTaker_86 : decode cX2_bestTaker 86 = .ok (.ireturn, 1) := by decide +kernel
theorem dX2_netsWithGift_0 : decode cX2_netsWithGift 0 = .ok (.iconst 0, 1) := by decide +kernel
theorem dX2_netsWithGift_1 : decode cX2_netsWithGift 1 = .ok (.istore_n 3, 1) := by decide +kernel
theorem dX2_netsWithGift_2 : decode cX2_netsWithGift 2 = .ok (.iload_n 3, 1) := by decide +kernel
theorem dX2_netsWithGift_3 : decode cX2_netsWithGift 3 = .ok (.bipush 28, 2) := by decide +kernel
theorem dX2_netsWithGift_5 : decode cX2_netsWithGift 5 = .ok (.if_icmp .ge 26, 3) := by decide +kernel
theorem dX2_netsWithGift_8 : decode cX2_netsWithGift 8 = .ok (.iload_n 2, 1) := by decide +kernel
theorem dX2_netsWithGift_9 : decode cX2_netsWithGift 9 = .ok (.iload_n 3, 1) := by decide +kernel
theorem dX2_netsWithGift_10 : decode cX2_netsWithGift 10 = .ok (.invokestatic 59, 3) := by decide +kernel
theorem dX2_netsWithGift_13 : decode cX2_netsWithGift 13 = .ok (.ifCond .eq 12, 3) := by decide +kernel
theorem dX2_netsWithGift_16 : decode cX2_netsWithGift 16 = .ok (.aload_n 0, 1) := by decide +kernel
theorem dX2_netsWithGift_17 : decode cX2_netsWithGift 17 = .ok (.getfield 15, 3) := by decide +kernel
theorem dX2_netsWithGift_20 : decode cX2_netsWithGift 20 = .ok (.iload_n 1, 1) := by decide +kernel
theorem dX2_netsWithGift_21 : decode cX2_netsWithGift 21 = .ok (.iload_n 3, 1) := by decide +kernel
theorem dX2_netsWithGift_22 : decode cX2_netsWithGift 22 = .ok (.invokevirtual 63, 3) := by decide +kernel
theorem dX2_netsWithGift_25 : decode cX2_netsWithGift 25 = .ok (.iinc 3 1, 3) := by decide +kernel
theorem dX2_netsWithGift_28 : decode cX2_netsWithGift 28 = .ok (.goto (-26), 3) := by decide +kernel
theorem dX2_netsWithGift_31 : decode cX2_netsWithGift 31 = .ok (.aload_n 0, 1) := by decide +kernel
theorem dX2_netsWithGift_32 : decode cX2_netsWithGift 32 = .ok (.invokevirtual 67, 3) := by decide +kernel
theorem dX2_netsWithGift_35 : decode cX2_netsWithGift 35 = .ok (.iconst 0, 1) := by decide +kernel
theorem dX2_netsWithGift_36 : decode cX2_netsWithGift 36 = .ok (.istore_n 3, 1) := by decide +kernel
theorem dX2_netsWithGift_37 : decode cX2_netsWithGift 37 = .ok (.iconst 0, 1) := by decide +kernel
theorem dX2_netsWithGift_38 : decode cX2_netsWithGift 38 = .ok (.istore 4, 2) := by decide +kernel
theorem dX2_netsWithGift_40 : decode cX2_netsWithGift 40 = .ok (.iload 4, 2) := by decide +kernel
theorem dX2_netsWithGift_42 : decode cX2_netsWithGift 42 = .ok (.aload_n 0, 1) := by decide +kernel
theorem dX2_netsWithGift_43 : decode cX2_netsWithGift 43 = .ok (.getfield 15, 3) := by decide +kernel
theorem dX2_netsWithGift_46 : decode cX2_netsWithGift 46 = .ok (.getfield 36, 3) := by decide +kernel
theorem dX2_netsWithGift_49 : decode cX2_netsWithGift 49 = .ok (.if_icmp .ge 30, 3) := by decide +kernel
theorem dX2_netsWithGift_52 : decode cX2_netsWithGift 52 = .ok (.iload_n 3, 1) := by decide +kernel
theorem dX2_netsWithGift_53 : decode cX2_netsWithGift 53 = .ok (.aload_n 0, 1) := by decide +kernel
theorem dX2_netsWithGift_54 : decode cX2_netsWithGift 54 = .ok (.iload 4, 2) := by decide +kernel
theorem dX2_netsWithGift_56 : decode cX2_netsWithGift 56 = .ok (.aload_n 0, 1) := by decide +kernel
theorem dX2_netsWithGift_57 : decode cX2_netsWithGift 57 = .ok (.getfield 15, 3) := by decide +kernel
theorem dX2_netsWithGift_60 : decode cX2_netsWithGift 60 = .ok (.getfield 39, 3) := by decide +kernel
theorem dX2_netsWithGift_63 : decode cX2_netsWithGift 63 = .ok (.iload 4, 2) := by decide +kernel
theorem dX2_netsWithGift_65 : decode cX2_netsWithGift 65 = .ok (.aaload, 1) := by decide +kernel
theorem dX2_netsWithGift_66 : decode cX2_netsWithGift 66 = .ok (.iconst 4, 1) := by decide +kernel
theorem dX2_netsWithGift_67 : decode cX2_netsWithGift 67 = .ok (.iaload, 1) := by decide +kernel
theorem dX2_netsWithGift_68 : decode cX2_netsWithGift 68 = .ok (.invokevirtual 70, 3) := by decide +kernel
theorem dX2_netsWithGift_71 : decode cX2_netsWithGift 71 = .ok (.iadd, 1) := by decide +kernel
theorem dX2_netsWithGift_72 : decode cX2_netsWithGift 72 = .ok (.istore_n 3, 1) := by decide +kernel
theorem dX2_netsWithGift_73 : decode cX2_netsWithGift 73 = .ok (.iinc 4 1, 3) := by decide +kernel
theorem dX2_netsWithGift_76 : decode cX2_netsWithGift 76 = .ok (.goto (-36), 3) := by decide +kernel
theorem dX2_netsWithGift_79 : decode cX2_netsWithGift 79 = .ok (.iconst 0, 1) := by decide +kernel
theorem dX2_netsWithGift_80 : decode cX2_netsWithGift 80 = .ok (.istore 4, 2) := by decide +kernel
theorem dX2_netsWithGift_82 : decode cX2_netsWithGift 82 = .ok (.iload 4, 2) := by decide +kernel
theorem dX2_netsWithGift_84 : decode cX2_netsWithGift 84 = .ok (.bipush 28, 2) := by decide +kernel
theorem dX2_netsWithGift_86 : decode cX2_netsWithGift 86 = .ok (.if_icmp .ge 28, 3) := by decide +kernel
theorem dX2_netsWithGift_89 : decode cX2_netsWithGift 89 = .ok (.iload_n 2, 1) := by decide +kernel
theorem dX2_netsWithGift_90 : decode cX2_netsWithGift 90 = .ok (.iload 4, 2) := by decide +kernel
theorem dX2_netsWithGift_92 : decode cX2_netsWithGift 92 = .ok (.invokestatic 59, 3) := by decide +kernel
theorem dX2_netsWithGift_95 : decode cX2_netsWithGift 95 = .ok (.ifCond .eq 13, 3) := by decide +kernel
theorem dX2_netsWithGift_98 : decode cX2_netsWithGift 98 = .ok (.aload_n 0, 1) := by decide +kernel
theorem dX2_netsWithGift_99 : decode cX2_netsWithGift 99 = .ok (.getfield 15, 3) := by decide +kernel
theorem dX2_netsWithGift_102 : decode cX2_netsWithGift 102 = .ok (.iload_n 1, 1) := by decide +kernel
theorem dX2_netsWithGift_103 : decode cX2_netsWithGift 103 = .ok (.iload 4, 2) := by decide +kernel
theorem dX2_netsWithGift_105 : decode cX2_netsWithGift 105 = .ok (.invokevirtual 73, 3) := by decide +kernel
theorem dX2_netsWithGift_108 : decode cX2_netsWithGift 108 = .ok (.iinc 4 1, 3) := by decide +kernel
theorem dX2_netsWithGift_111 : decode cX2_netsWithGift 111 = .ok (.goto (-29), 3) := by decide +kernel
theorem dX2_netsWithGift_114 : decode cX2_netsWithGift 114 = .ok (.iload_n 3, 1) := by decide +kernel
theorem dX2_netsWithGift_115 : decode cX2_netsWithGift 115 = .ok (.ireturn, 1) := by decide +kernel
theorem dX2_findCosts_0 : decode cX2_findCosts 0 = .ok (.iconst 0, 1) := by decide +kernel
theorem dX2_findCosts_1 : decode cX2_findCosts 1 = .ok (.istore_n 1, 1) := by decide +kernel
theorem dX2_findCosts_2 : decode cX2_findCosts 2 = .ok (.iload_n 1, 1) := by decide +kernel
theorem dX2_findCosts_3 : decode cX2_findCosts 3 = .ok (.aload_n 0, 1) := by decide +kernel
theorem dX2_findCosts_4 : decode cX2_findCosts 4 = .ok (.getfield 15, 3) := by decide +kernel
theorem dX2_findCosts_7 : decode cX2_findCosts 7 = .ok (.getfield 36, 3) := by decide +kernel
theorem dX2_findCosts_10 : decode cX2_findCosts 10 = .ok (.if_icmp .ge 30, 3) := by decide +kernel
theorem dX2_findCosts_13 : decode cX2_findCosts 13 = .ok (.aload_n 0, 1) := by decide +kernel
theorem dX2_findCosts_14 : decode cX2_findCosts 14 = .ok (.getfield 19, 3) := by decide +kernel
theorem dX2_findCosts_17 : decode cX2_findCosts 17 = .ok (.iload_n 1, 1) := by decide +kernel
theorem dX2_findCosts_18 : decode cX2_findCosts 18 = .ok (.invokevirtual 43, 3) := by decide +kernel
theorem dX2_findCosts_21 : decode cX2_findCosts 21 = .ok (.aload_n 0, 1) := by decide +kernel
theorem dX2_findCosts_22 : decode cX2_findCosts 22 = .ok (.getfield 9, 3) := by decide +kernel
theorem dX2_findCosts_25 : decode cX2_findCosts 25 = .ok (.iload_n 1, 1) := by decide +kernel
theorem dX2_findCosts_26 : decode cX2_findCosts 26 = .ok (.aload_n 0, 1) := by decide +kernel
theorem dX2_findCosts_27 : decode cX2_findCosts 27 = .ok (.getfield 19, 3) := by decide +kernel
theorem dX2_findCosts_30 : decode cX2_findCosts 30 = .ok (.getfield 49, 3) := by decide +kernel
theorem dX2_findCosts_33 : decode cX2_findCosts 33 = .ok (.iastore, 1) := by decide +kernel
theorem dX2_findCosts_34 : decode cX2_findCosts 34 = .ok (.iinc 1 1, 3) := by decide +kernel
theorem dX2_findCosts_37 : decode cX2_findCosts 37 = .ok (.goto (-35), 3) := by decide +kernel
theorem dX2_findCosts_40 : decode cX2_findCosts 40 = .ok (.return_, 1) := by decide +kernel
theorem dX2_doneNet_0 : decode cX2_doneNet 0 = .ok (.iconst 0, 1) := by decide +kernel
theorem dX2_doneNet_1 : decode cX2_doneNet 1 = .ok (.iload_n 2, 1) := by decide +kernel
theorem dX2_doneNet_2 : decode cX2_doneNet 2 = .ok (.aload_n 0, 1) := by decide +kernel
theorem dX2_doneNet_3 : decode cX2_doneNet 3 = .ok (.getfield 9, 3) := by decide +kernel
theorem dX2_doneNet_6 : decode cX2_doneNet 6 = .ok (.iload_n 1, 1) := by decide +kernel
theorem dX2_doneNet_7 : decode cX2_doneNet 7 = .ok (.iaload, 1) := by decide +kernel
theorem dX2_doneNet_8 : decode cX2_doneNet 8 = .ok (.invokestatic 76, 3) := by decide +kernel
theorem dX2_doneNet_11 : decode cX2_doneNet 11 = .ok (.invokestatic 79, 3) := by decide +kernel
theorem dX2_doneNet_14 : decode cX2_doneNet 14 = .ok (.ireturn, 1) := by decide +kernel
theorem dX2_ofSeasons_0 : decode cX2_ofSeasons 0 = .ok (.aload_n 0, 1) := by decide +kernel
theorem dX2_ofSeasons_1 : decode cX2_ofSeasons 1 = .ok (.invokevirtual 67, 3) := by decide +kernel
theorem dX2_ofSeasons_4 : decode cX2_ofSeasons 4 = .ok (.iconst 0, 1) := by decide +kernel
theorem dX2_ofSeasons_5 : decode cX2_ofSeasons 5 = .ok (.istore_n 1, 1) := by decide +kernel
theorem dX2_ofSeasons_6 : decode cX2_ofSeasons 6 = .ok (.iconst 0, 1) := by decide +kernel
theorem dX2_ofSeasons_7 : decode cX2_ofSeasons 7 = .ok (.istore_n 2, 1) := by decide +kernel
theorem dX2_ofSeasons_8 : decode cX2_ofSeasons 8 = .ok (.iload_n 2, 1) := by decide +kernel
theorem dX2_ofSeasons_9 : decode cX2_ofSeasons 9 = .ok (.iconst 4, 1) := by decide +kernel
theorem dX2_ofSeasons_10 : decode cX2_ofSeasons 10 = .ok (.if_icmp .ge 64, 3) := by decide +kernel
theorem dX2_ofSeasons_13 : decode cX2_ofSeasons 13 = .ok (.iconst 0, 1) := by decide +kernel
theorem dX2_ofSeasons_14 : decode cX2_ofSeasons 14 = .ok (.istore_n 3, 1) := by decide +kernel
theorem dX2_ofSeasons_15 : decode cX2_ofSeasons 15 = .ok (.iload_n 3, 1) := by decide +kernel
theorem dX2_ofSeasons_16 : decode cX2_ofSeasons 16 = .ok (.aload_n 0, 1) := by decide +kernel
theorem dX2_ofSeasons_17 : decode cX2_ofSeasons 17 = .ok (.getfield 15, 3) := by decide +kernel
theorem dX2_ofSeasons_20 : decode cX2_ofSeasons 20 = .ok (.getfield 36, 3) := by decide +kernel
theorem dX2_ofSeasons_23 : decode cX2_ofSeasons 23 = .ok (.if_icmp .ge 45, 3) := by decide +kernel
theorem dX2_ofSeasons_26 : decode cX2_ofSeasons 26 = .ok (.aload_n 0, 1) := by decide +kernel
theorem dX2_ofSeasons_27 : decode cX2_ofSeasons 27 = .ok (.getfield 15, 3) := by decide +kernel
theorem dX2_ofSeasons_30 : decode cX2_ofSeasons 30 = .ok (.getfield 39, 3) := by decide +kernel
theorem dX2_ofSeasons_33 : decode cX2_ofSeasons 33 = .ok (.iload_n 3, 1) := by decide +kernel
theorem dX2_ofSeasons_34 : decode cX2_ofSeasons 34 = .ok (.aaload, 1) := by decide +kernel
theorem dX2_ofSeasons_35 : decode cX2_ofSeasons 35 = .ok (.iconst 4, 1) := by decide +kernel
theorem dX2_ofSeasons_36 : decode cX2_ofSeasons 36 = .ok (.iaload, 1) := by decide +kernel
theorem dX2_ofSeasons_37 : decode cX2_ofSeasons 37 = .ok (.aload_n 0, 1) := by decide +kernel
theorem dX2_ofSeasons_38 : decode cX2_ofSeasons 38 = .ok (.getfield 15, 3) := by decide +kernel
theorem dX2_ofSeasons_41 : decode cX2_ofSeasons 41 = .ok (.getfield 84, 3) := by decide +kernel
theorem dX2_ofSeasons_44 : decode cX2_ofSeasons 44 = .ok (.iload_n 2, 1) := by decide +kernel
theorem dX2_ofSeasons_45 : decode cX2_ofSeasons 45 = .ok (.iaload, 1) := by decide +kernel
theorem dX2_ofSeasons_46 : decode cX2_ofSeasons 46 = .ok (.imul, 1) := by decide +kernel
theorem dX2_ofSeasons_47 : decode cX2_ofSeasons 47 = .ok (.bipush 100, 2) := by decide +kernel
theorem dX2_ofSeasons_49 : decode cX2_ofSeasons 49 = .ok (.idiv, 1) := by decide +kernel
theorem dX2_ofSeasons_50 : decode cX2_ofSeasons 50 = .ok (.istore 4, 2) := by decide +kernel
theorem dX2_ofSeasons_52 : decode cX2_ofSeasons 52 = .ok (.iload_n 1, 1) := by decide +kernel
theorem dX2_ofSeasons_53 : decode cX2_ofSeasons 53 = .ok (.aload_n 0, 1) := by decide +kernel
theorem dX2_ofSeasons_54 : decode cX2_ofSeasons 54 = .ok (.iload_n 3, 1) := by decide +kernel
theorem dX2_ofSeasons_55 : decode cX2_ofSeasons 55 = .ok (.iload 4, 2) := by decide +kernel
theorem dX2_ofSeasons_57 : decode cX2_ofSeasons 57 = .ok (.invokevirtual 70, 3) := by decide +kernel
theorem dX2_ofSeasons_60 : decode cX2_ofSeasons 60 = .ok (.iadd, 1) := by decide +kernel
theorem dX2_ofSeasons_61 : decode cX2_ofSeasons 61 = .ok (.istore_n 1, 1) := by decide +kernel
theorem dX2_ofSeasons_62 : decode cX2_ofSeasons 62 = .ok (.iinc 3 1, 3) := by decide +kernel
theorem dX2_ofSeasons_65 : decode cX2_ofSeasons 65 = .ok (.goto (-50), 3) := by decide +kernel
theorem dX2_ofSeasons_68 : decode cX2_ofSeasons 68 = .ok (.iinc 2 1, 3) := by decide +kernel
theorem dX2_ofSeasons_71 : decode cX2_ofSeasons 71 = .ok (.goto (-63), 3) := by decide +kernel
theorem dX2_ofSeasons_74 : decode cX2_ofSeasons 74 = .ok (.iload_n 1, 1) := by decide +kernel
theorem dX2_ofSeasons_75 : decode cX2_ofSeasons 75 = .ok (.ireturn, 1) := by decide +kernel
theorem dX2_ofDraws_0 : decode cX2_ofDraws 0 = .ok (.aload_n 0, 1) := by decide +kernel
theorem dX2_ofDraws_1 : decode cX2_ofDraws 1 = .ok (.invokevirtual 67, 3) := by decide +kernel
theorem dX2_ofDraws_4 : decode cX2_ofDraws 4 = .ok (.iconst 0, 1) := by decide +kernel
theorem dX2_ofDraws_5 : decode cX2_ofDraws 5 = .ok (.istore_n 3, 1) := by decide +kernel
theorem dX2_ofDraws_6 : decode cX2_ofDraws 6 = .ok (.iload_n 2, 1) := by decide +kernel
theorem dX2_ofDraws_7 : decode cX2_ofDraws 7 = .ok (.istore 4, 2) := by decide +kernel
theorem dX2_ofDraws_9 : decode cX2_ofDraws 9 = .ok (.iconst 0, 1) := by decide +kernel
theorem dX2_ofDraws_10 : decode cX2_ofDraws 10 = .ok (.istore 5, 2) := by decide +kernel
theorem dX2_ofDraws_12 : decode cX2_ofDraws 12 = .ok (.iload 5, 2) := by decide +kernel
theorem dX2_ofDraws_14 : decode cX2_ofDraws 14 = .ok (.iload_n 1, 1) := by decide +kernel
theorem dX2_ofDraws_15 : decode cX2_ofDraws 15 = .ok (.if_icmp .ge 83, 3) := by decide +kernel
theorem dX2_ofDraws_18 : decode cX2_ofDraws 18 = .ok (.iconst 0, 1) := by decide +kernel
theorem dX2_ofDraws_19 : decode cX2_ofDraws 19 = .ok (.istore 6, 2) := by decide +kernel
theorem dX2_ofDraws_21 : decode cX2_ofDraws 21 = .ok (.iload 6, 2) := by decide +kernel
theorem dX2_ofDraws_23 : decode cX2_ofDraws 23 = .ok (.aload_n 0, 1) := by decide +kernel
theorem dX2_ofDraws_24 : decode cX2_ofDraws 24 = .ok (.getfield 15, 3) := by decide +kernel
theorem dX2_ofDraws_27 : decode cX2_ofDraws 27 = .ok (.getfield 36, 3) := by decide +kernel
theorem dX2_ofDraws_30 : decode cX2_ofDraws 30 = .ok (.if_icmp .ge 62, 3) := by decide +kernel
theorem dX2_ofDraws_33 : decode cX2_ofDraws 33 = .ok (.iload 4, 2) := by decide +kernel
theorem dX2_ofDraws_35 : decode cX2_ofDraws 35 = .ok (.ldc 87, 2) := by decide +kernel
theorem dX2_ofDraws_37 : decode cX2_ofDraws 37 = .ok (.imul, 1) := by decide +kernel
theorem dX2_ofDraws_38 : decode cX2_ofDraws 38 = .ok (.ldc 88, 2) := by decide +kernel
theorem dX2_ofDraws_40 : decode cX2_ofDraws 40 = .ok (.iadd, 1) := by decide +kernel
theorem dX2_ofDraws_41 : decode cX2_ofDraws 41 = .ok (.istore 4, 2) := by decide +kernel
theorem dX2_ofDraws_43 : decode cX2_ofDraws 43 = .ok (.iconst 1, 1) := by decide +kernel
theorem dX2_ofDraws_44 : decode cX2_ofDraws 44 = .ok (.iconst 2, 1) := by decide +kernel
theorem dX2_ofDraws_45 : decode cX2_ofDraws 45 = .ok (.aload_n 0, 1) := by decide +kernel
theorem dX2_ofDraws_46 : decode cX2_ofDraws 46 = .ok (.getfield 15, 3) := by decide +kernel
theorem dX2_ofDraws_49 : decode cX2_ofDraws 49 = .ok (.getfield 39, 3) := by decide +kernel
theorem dX2_ofDraws_52 : decode cX2_ofDraws 52 = .ok (.iload 6, 2) := by decide +kernel
theorem dX2_ofDraws_54 : decode cX2_ofDraws 54 = .ok (.aaload, 1) := by decide +kernel
theorem dX2_ofDraws_55 : decode cX2_ofDraws 55 = .ok (.iconst 4, 1) := by decide +kernel
theorem dX2_ofDraws_56 : decode cX2_ofDraws 56 = .ok (.iaload, 1) := by decide +kernel
theorem dX2_ofDraws_57 : decode cX2_ofDraws 57 = .ok (.imul, 1) := by decide +kernel
theorem dX2_ofDraws_58 : decode cX2_ofDraws 58 = .ok (.iconst 1, 1) := by decide +kernel
theorem dX2_ofDraws_59 : decode cX2_ofDraws 59 = .ok (.iadd, 1) := by decide +kernel
theorem dX2_ofDraws_60 : decode cX2_ofDraws 60 = .ok (.invokestatic 79, 3) := by decide +kernel
theorem dX2_ofDraws_63 : decode cX2_ofDraws 63 = .ok (.istore 7, 2) := by decide +kernel
theorem dX2_ofDraws_65 : decode cX2_ofDraws 65 = .ok (.iload_n 3, 1) := by decide +kernel
theorem dX2_ofDraws_66 : decode cX2_ofDraws 66 = .ok (.aload_n 0, 1) := by decide +kernel
theorem dX2_ofDraws_67 : decode cX2_ofDraws 67 = .ok (.iload 6, 2) := by decide +kernel
theorem dX2_ofDraws_69 : decode cX2_ofDraws 69 = .ok (.iload 4, 2) := by decide +kernel
theorem dX2_ofDraws_71 : decode cX2_ofDraws 71 = .ok (.ldc 89, 2) := by decide +kernel
theorem dX2_ofDraws_73 : decode cX2_ofDraws 73 = .ok (.iand, 1) := by decide +kernel
theorem dX2_ofDraws_74 : decode cX2_ofDraws 74 = .ok (.sipush 256, 3) := by decide +kernel
theorem dX2_ofDraws_77 : decode cX2_ofDraws 77 = .ok (.idiv, 1) := by decide +kernel
theorem dX2_ofDraws_78 : decode cX2_ofDraws 78 = .ok (.iload 7, 2) := by decide +kernel
theorem dX2_ofDraws_80 : decode cX2_ofDraws 80 = .ok (.irem, 1) := by decide +kernel
theorem dX2_ofDraws_81 : decode cX2_ofDraws 81 = .ok (.invokevirtual 70, 3) := by decide +kernel
theorem dX2_ofDraws_84 : decode cX2_ofDraws 84 = .ok (.iadd, 1) := by decide +kernel
theorem dX2_ofDraws_85 : decode cX2_ofDraws 85 = .ok (.istore_n 3, 1) := by decide +kernel
theorem dX2_ofDraws_86 : decode cX2_ofDraws 86 = .ok (.iinc 6 1, 3) := by decide +kernel
theorem dX2_ofDraws_89 : decode cX2_ofDraws 89 = .ok (.goto (-68), 3) := by decide +kernel
theorem dX2_ofDraws_92 : decode cX2_ofDraws 92 = .ok (.iinc 5 1, 3) := by decide +kernel
theorem dX2_ofDraws_95 : decode cX2_ofDraws 95 = .ok (.goto (-83), 3) := by decide +kernel
theorem dX2_ofDraws_98 : decode cX2_ofDraws 98 = .ok (.iload_n 3, 1) := by decide +kernel
theorem dX2_ofDraws_99 : decode cX2_ofDraws 99 = .ok (.ireturn, 1) := by decide +kernel
theorem dX3_init_0 : decode cX3_init 0 = .ok (.aload_n 0, 1) := by decide +kernel
theorem dX3_init_1 : decode cX3_init 1 = .ok (.invokespecial 3, 3) := by decide +kernel
theorem dX3_init_4 : decode cX3_init 4 = .ok (.aload_n 0, 1) := by decide +kernel
theorem dX3_init_5 : decode cX3_init 5 = .ok (.iconst 3, 1) := by decide +kernel
theorem dX3_init_6 : decode cX3_init 6 = .ok (.newarray .int, 2) := by decide +kernel
theorem dX3_init_8 : decode cX3_init 8 = .ok (.putfield 9, 3) := by decide +kernel
theorem dX3_init_11 : decode cX3_init 11 = .ok (.aload_n 0, 1) := by decide +kernel
theorem dX3_init_12 : decode cX3_init 12 = .ok (.iconst 3, 1) := by decide +kernel
theorem dX3_init_13 : decode cX3_init 13 = .ok (.bipush 28, 2) := by decide +kernel
theorem dX3_init_15 : decode cX3_init 15 = .ok (.multianewarray 15 2, 4) := by decide +kernel
theorem dX3_init_19 : decode cX3_init 19 = .ok (.putfield 17, 3) := by decide +kernel
theorem dX3_init_22 : decode cX3_init 22 = .ok (.aload_n 0, 1) := by decide +kernel
theorem dX3_init_23 : decode cX3_init 23 = .ok (.iconst 3, 1) := by decide +kernel
theorem dX3_init_24 : decode cX3_init 24 = .ok (.newarray .int, 2) := by decide +kernel
theorem dX3_init_26 : decode cX3_init 26 = .ok (.putfield 20, 3) := by decide +kernel
theorem dX3_init_29 : decode cX3_init 29 = .ok (.aload_n 0, 1) := by decide +kernel
theorem dX3_init_30 : decode cX3_init 30 = .ok (.iconst 3, 1) := by decide +kernel
theorem dX3_init_31 : decode cX3_init 31 = .ok (.newarray .int, 2) := by decide +kernel
theorem dX3_init_33 : decode cX3_init 33 = .ok (.putfield 23, 3) := by decide +kernel
theorem dX3_init_36 : decode cX3_init 36 = .ok (.aload_n 0, 1) := by decide +kernel
theorem dX3_init_37 : decode cX3_init 37 = .ok (.aload_n 1, 1) := by decide +kernel
theorem dX3_init_38 : decode cX3_init 38 = .ok (.putfield 26, 3) := by decide +kernel
theorem dX3_init_41 : decode cX3_init 41 = .ok (.aload_n 0, 1) := by decide +kernel
theorem dX3_init_42 : decode cX3_init 42 = .ok (.aload_n 2, 1) := by decide +kernel
theorem dX3_init_43 : decode cX3_init 43 = .ok (.putfield 30, 3) := by decide +kernel
theorem dX3_init_46 : decode cX3_init 46 = .ok (.return_, 1) := by decide +kernel
theorem dX3_make_0 : decode cX3_make 0 = .ok (.aload_n 0, 1) := by decide +kernel
theorem dX3_make_1 : decode cX3_make 1 = .ok (.iconst 0, 1) := by decide +kernel
theorem dX3_make_2 : decode cX3_make 2 = .ok (.putfield 34, 3) := by decide +kernel
theorem dX3_make_5 : decode cX3_make 5 = .ok (.iconst 0, 1) := by decide +kernel
theorem dX3_make_6 : decode cX3_make 6 = .ok (.istore_n 1, 1) := by decide +kernel
theorem dX3_make_7 : decode cX3_make 7 = .ok (.iload_n 1, 1) := by decide +kernel
theorem dX3_make_8 : decode cX3_make 8 = .ok (.aload_n 0, 1) := by decide +kernel
theorem dX3_make_9 : decode cX3_make 9 = .ok (.getfield 26, 3) := by decide +kernel
theorem dX3_make_12 : decode cX3_make 12 = .ok (.getfield 38, 3) := by decide +kernel
theorem dX3_make_15 : decode cX3_make 15 = .ok (.if_icmp .ge 65, 3) := by decide +kernel
theorem dX3_make_18 : decode cX3_make 18 = .ok (.aload_n 0, 1) := by decide +kernel
theorem dX3_make_19 : decode cX3_make 19 = .ok (.getfield 34, 3) := by decide +kernel
theorem dX3_make_22 : decode cX3_make 22 = .ok (.iconst 3, 1) := by decide +kernel
theorem dX3_make_23 : decode cX3_make 23 = .ok (.if_icmp .ge 57, 3) := by decide +kernel
theorem dX3_make_26 : decode cX3_make 26 = .ok (.aload_n 0, 1) := by decide +kernel
theorem dX3_make_27 : decode cX3_make 27 = .ok (.getfield 26, 3) := by decide +kernel
theorem dX3_make_30 : decode cX3_make 30 = .ok (.getfield 43, 3) := by decide +kernel
theorem dX3_make_33 : decode cX3_make 33 = .ok (.iload_n 1, 1) := by decide +kernel
theorem dX3_make_34 : decode cX3_make 34 = .ok (.aaload, 1) := by decide +kernel
theorem dX3_make_35 : decode cX3_make 35 = .ok (.iconst 1, 1) := by decide +kernel
theorem dX3_make_36 : decode cX3_make 36 = .ok (.iaload, 1) := by decide +kernel
theorem dX3_make_37 : decode cX3_make 37 = .ok (.ifCond .ne 37, 3) := by decide +kernel
theorem dX3_make_40 : decode cX3_make 40 = .ok (.aload_n 0, 1) := by decide +kernel
theorem dX3_make_41 : decode cX3_make 41 = .ok (.getfield 9, 3) := by decide +kernel
theorem dX3_make_44 : decode cX3_make 44 = .ok (.aload_n 0, 1) := by decide +kernel
theorem dX3_make_45 : decode cX3_make 45 = .ok (.getfield 34, 3) := by decide +kernel
theorem dX3_make_48 : decode cX3_make 48 = .ok (.iload_n 1, 1) := by decide +kernel
theorem dX3_make_49 : decode cX3_make 49 = .ok (.iastore, 1) := by decide +kernel
theorem dX3_make_50 : decode cX3_make 50 = .ok (.aload_n 0, 1) := by decide +kernel
theorem dX3_make_51 : decode cX3_make 51 = .ok (.iload_n 1, 1) := by decide +kernel
theorem dX3_make_52 : decode cX3_make 52 = .ok (.aload_n 0, 1) := by decide +kernel
theorem dX3_make_53 : decode cX3_make 53 = .ok (.getfield 17, 3) := by decide +kernel
theorem dX3_make_56 : decode cX3_make 56 = .ok (.aload_n 0, 1) := by decide +kernel
theorem dX3_make_57 : decode cX3_make 57 = .ok (.getfield 34, 3) := by decide +kernel
theorem dX3_make_60 : decode cX3_make 60 = .ok (.aaload, 1) := by decide +kernel
theorem dX3_make_61 : decode cX3_make 61 = .ok (.invokevirtual 46, 3) := by decide +kernel
theorem dX3_make_64 : decode cX3_make 64 = .ok (.aload_n 0, 1) := by decide +kernel
theorem dX3_make_65 : decode cX3_make 65 = .ok (.dup, 1) := by decide +kernel
theorem dX3_make_66 : decode cX3_make 66 = .ok (.getfield 34, 3) := by decide +kernel
theorem dX3_make_69 : decode cX3_make 69 = .ok (.iconst 1, 1) := by decide +kernel
theorem dX3_make_70 : decode cX3_make 70 = .ok (.iadd, 1) := by decide +kernel
theorem dX3_make_71 : decode cX3_make 71 = .ok (.putfield 34, 3) := by decide +kernel
theorem dX3_make_74 : decode cX3_make 74 = .ok (.iinc 1 1, 3) := by decide +kernel
theorem dX3_make_77 : decode cX3_make 77 = .ok (.goto (-70), 3) := by decide +kernel
theorem dX3_make_80 : decode cX3_make 80 = .ok (.aload_n 0, 1) := by decide +kernel
theorem dX3_make_81 : decode cX3_make 81 = .ok (.iconst (-1), 1) := by decide +kernel
theorem dX3_make_82 : decode cX3_make 82 = .ok (.putfield 50, 3) := by decide +kernel
theorem dX3_make_85 : decode cX3_make 85 = .ok (.aload_n 0, 1) := by decide +kernel
theorem dX3_make_86 : decode cX3_make 86 = .ok (.iconst 0, 1) := by decide +kernel
theorem dX3_make_87 : decode cX3_make 87 = .ok (.iconst 0, 1) := by decide +kernel
theorem dX3_make_88 : decode cX3_make 88 = .ok (.iconst 0, 1) := by decide +kernel
theorem dX3_make_89 : decode cX3_make 89 = .ok (.invokevirtual 53, 3) := by decide +kernel
theorem dX3_make_92 : decode cX3_make 92 = .ok (.return_, 1) := by decide +kernel
theorem dX3_fillGains_0 : decode cX3_fillGains 0 = .ok (.aload_n 0, 1) := by decide +kernel
theorem dX3_fillGains_1 : decode cX3_fillGains 1 = .ok (.getfield 26, 3) := by decide +kernel
theorem dX3_fillGains_4 : decode cX3_fillGains 4 = .ok (.getfield 43, 3) := by decide +kernel
theorem dX3_fillGains_7 : decode cX3_fillGains 7 = .ok (.iload_n 1, 1) := by decide +kernel
theorem dX3_fillGains_8 : decode cX3_fillGains 8 = .ok (.aaload, 1) := by decide +kernel
theorem dX3_fillGains_9 : decode cX3_fillGains 9 = .ok (.astore_n 3, 1) := by decide +kernel
theorem dX3_fillGains_10 : decode cX3_fillGains 10 = .ok (.aload_n 0, 1) := by decide +kernel
theorem dX3_fillGains_11 : decode cX3_fillGains 11 = .ok (.getfield 30, 3) := by decide +kernel
theorem dX3_fillGains_14 : decode cX3_fillGains 14 = .ok (.iload_n 1, 1) := by decide +kernel
theorem dX3_fillGains_15 : decode cX3_fillGains 15 = .ok (.invokevirtual 57, 3) := by decide +kernel
theorem dX3_fillGains_18 : decode cX3_fillGains 18 = .ok (.iconst 0, 1) := by decide +kernel
theorem dX3_fillGains_19 : decode cX3_fillGains 19 = .ok (.istore 4, 2) := by decide +kernel
theorem dX3_fillGains_21 : decode cX3_fillGains 21 = .ok (.iload 4, 2) := by decide +kernel
theorem dX3_fillGains_23 : decode cX3_fillGains 23 = .ok (.bipush 28, 2) := by decide +kernel
theorem dX3_fillGains_25 : decode cX3_fillGains 25 = .ok (.if_icmp .ge 63, 3) := by decide +kernel
theorem dX3_fillGains_28 : decode cX3_fillGains 28 = .ok (.aload_n 2, 1) := by decide +kernel
theorem dX3_fillGains_29 : decode cX3_fillGains 29 = .ok (.iload 4, 2) := by decide +kernel
theorem dX3_fillGains_31 : decode cX3_fillGains 31 = .ok (.iconst 0, 1) := by decide +kernel
theorem dX3_fillGains_32 : decode cX3_fillGains 32 = .ok (.iastore, 1) := by decide +kernel
theorem dX3_fillGains_33 : decode cX3_fillGains 33 = .ok (.iload 4, 2) := by decide +kernel
theorem dX3_fillGains_35 : decode cX3_fillGains 35 = .ok (.aload_n 3, 1) := by decide +kernel
theorem dX3_fillGains_36 : decode cX3_fillGains 36 = .ok (.iconst 2, 1) := by decide +kernel
theorem dX3_fillGains_37 : decode cX3_fillGains 37 = .ok (.iaload, 1) := by decide +kernel
theorem dX3_fillGains_38 : decode cX3_fillGains 38 = .ok (.iadd, 1) := by decide +kernel
theorem dX3_fillGains_39 : decode cX3_fillGains 39 = .ok (.iconst 1, 1) := by decide +kernel
theorem dX3_fillGains_40 : decode cX3_fillGains 40 = .ok (.isub, 1) := by decide +kernel
theorem dX3_fillGains_41 : decode cX3_fillGains 41 = .ok (.aload_n 3, 1) := by decide +kernel
theorem dX3_fillGains_42 : decode cX3_fillGains 42 = .ok (.iconst 3, 1) := by decide +kernel
theorem dX3_fillGains_43 : decode cX3_fillGains 43 = .ok (.iaload, 1) := by decide +kernel
theorem dX3_fillGains_44 : decode cX3_fillGains 44 = .ok (.if_icmp .gt 38, 3) := by decide +kernel
theorem dX3_fillGains_47 : decode cX3_fillGains 47 = .ok (.aload_n 0, 1) := by decide +kernel
theorem dX3_fillGains_48 : decode cX3_fillGains 48 = .ok (.getfield 30, 3) := by decide +kernel
theorem dX3_fillGains_51 : decode cX3_fillGains 51 = .ok (.iload 4, 2) := by decide +kernel
theorem dX3_fillGains_53 : decode cX3_fillGains 53 = .ok (.aload_n 3, 1) := by decide +kernel
theorem dX3_fillGains_54 : decode cX3_fillGains 54 = .ok (.iconst 2, 1) := by decide +kernel
theorem dX3_fillGains_55 : decode cX3_fillGains 55 = .ok (.iaload, 1) := by decide +kernel
theorem dX3_fillGains_56 : decode cX3_fillGains 56 = .ok (.invokevirtual 63, 3) := by decide +kernel
theorem dX3_fillGains_59 : decode cX3_fillGains 59 = .ok (.istore 5, 2) := by decide +kernel
theorem dX3_fillGains_61 : decode cX3_fillGains 61 = .ok (.aload_n 2, 1) := by decide +kernel
theorem dX3_fillGains_62 : decode cX3_fillGains 62 = .ok (.iload 4, 2) := by decide +kernel
theorem dX3_fillGains_64 : decode cX3_fillGains 64 = .ok (.iload 5, 2) := by decide +kernel
theorem dX3_fillGains_66 : decode cX3_fillGains 66 = .ok (.bipush (-9), 2) := by decide +kernel
theorem dX3_fillGains_68 : decode cX3_fillGains 68 = .ok (.if_icmp .ne 7, 3) := by decide +kernel
theorem dX3_fillGains_71 : decode cX3_fillGains 71 = .ok (.iconst 0, 1) := by decide +kernel
theorem dX3_fillGains_72 : decode cX3_fillGains 72 = .ok (.goto 9, 3) := by decide +kernel
theorem dX3_fillGains_75 : decode cX3_fillGains 75 = .ok (.aload_n 3, 1) := by decide +kernel
theorem dX3_fillGains_76 : decode cX3_fillGains 76 = .ok (.iconst 4, 1) := by decide +kernel
theorem dX3_fillGains_77 : decode cX3_fillGains 77 = .ok (.iaload, 1) := by decide +kernel
theorem dX3_fillGains_78 : decode cX3_fillGains 78 = .ok (.iload 5, 2) := by decide +kernel
theorem dX3_fillGains_80 : decode cX3_fillGains 80 = .ok (.isub, 1) := by decide +kernel
theorem dX3_fillGains_81 : decode cX3_fillGains 81 = .ok (.iastore, 1) := by decide +kernel
theorem dX3_fillGains_82 : decode cX3_fillGains 82 = .ok (.iinc 4 1, 3) := by decide +kernel
theorem dX3_fillGains_85 : decode cX3_fillGains 85 = .ok (.goto (-64), 3) := by decide +kernel
theorem dX3_fillGains_88 : decode cX3_fillGains 88 = .ok (.return_, 1) := by decide +kernel
theorem dX3_tryRow_0 : decode cX3_tryRow 0 = .ok (.iload_n 1, 1) := by decide +kernel
theorem dX3_tryRow_1 : decode cX3_tryRow 1 = .ok (.aload_n 0, 1) := by decide +kernel
theorem dX3_tryRow_2 : decode cX3_tryRow 2 = .ok (.getfield 34, 3) := by decide +kernel
theorem dX3_tryRow_5 : decode cX3_tryRow 5 = .ok (.if_icmp .lt 31, 3) := by decide +kernel
theorem dX3_tryRow_8 : decode cX3_tryRow 8 = .ok (.iload_n 3, 1) := by decide +kernel
theorem dX3_tryRow_9 : decode cX3_tryRow 9 = .ok (.aload_n 0, 1) := by decide +kernel
theorem dX3_tryRow_10 : decode cX3_tryRow 10 = .ok (.getfield 50, 3) := by decide +kernel
theorem dX3_tryRow_13 : decode cX3_tryRow 13 = .ok (.if_icmp .le 22, 3) := by decide +kernel
theorem dX3_tryRow_16 : decode cX3_tryRow 16 = .ok (.aload_n 0, 1) := by decide +kernel
theorem dX3_tryRow_17 : decode cX3_tryRow 17 = .ok (.iload_n 3, 1) := by decide +kernel
theorem dX3_tryRow_18 : decode cX3_tryRow 18 = .ok (.putfield 50, 3) := by decide +kernel
theorem dX3_tryRow_21 : decode cX3_tryRow 21 = .ok (.aload_n 0, 1) := by decide +kernel
theorem dX3_tryRow_22 : decode cX3_tryRow 22 = .ok (.getfield 20, 3) := by decide +kernel
theorem dX3_tryRow_25 : decode cX3_tryRow 25 = .ok (.iconst 0, 1) := by decide +kernel
theorem dX3_tryRow_26 : decode cX3_tryRow 26 = .ok (.aload_n 0, 1) := by decide +kernel
theorem dX3_tryRow_27 : decode cX3_tryRow 27 = .ok (.getfield 23, 3) := by decide +kernel
theorem dX3_tryRow_30 : decode cX3_tryRow 30 = .ok (.iconst 0, 1) := by decide +kernel
theorem dX3_tryRow_31 : decode cX3_tryRow 31 = .ok (.iconst 3, 1) := by decide +kernel
theorem dX3_tryRow_32 : decode cX3_tryRow 32 = .ok (.invokestatic 67, 3) := by decide +kernel
theorem dX3_tryRow_35 : decode cX3_tryRow 35 = .ok (.return_, 1) := by decide +kernel
theorem dX3_tryRow_36 : decode cX3_tryRow 36 = .ok (.aload_n 0, 1) := by decide +kernel
theorem dX3_tryRow_37 : decode cX3_tryRow 37 = .ok (.getfield 20, 3) := by decide +kernel
theorem dX3_tryRow_40 : decode cX3_tryRow 40 = .ok (.iload_n 1, 1) := by decide +kernel
theorem dX3_tryRow_41 : decode cX3_tryRow 41 = .ok (.bipush (-9), 2) := by decide +kernel
theorem dX3_tryRow_43 : decode cX3_tryRow 43 = .ok (.iastore, 1) := by decide +kernel
theorem dX3_tryRow_44 : decode cX3_tryRow 44 = .ok (.aload_n 0, 1) := by decide +kernel
theorem dX3_tryRow_45 : decode cX3_tryRow 45 = .ok (.iload_n 1, 1) := by decide +kernel
theorem dX3_tryRow_46 : decode cX3_tryRow 46 = .ok (.iconst 1, 1) := by decide +kernel
theorem dX3_tryRow_47 : decode cX3_tryRow 47 = .ok (.iadd, 1) := by decide +kernel
theorem dX3_tryRow_48 : decode cX3_tryRow 48 = .ok (.iload_n 2, 1) := by decide +kernel
theorem dX3_tryRow_49 : decode cX3_tryRow 49 = .ok (.iload_n 3, 1) := by decide +kernel
theorem dX3_tryRow_50 : decode cX3_tryRow 50 = .ok (.invokevirtual 53, 3) := by decide +kernel
theorem dX3_tryRow_53 : decode cX3_tryRow 53 = .ok (.aload_n 0, 1) := by decide +kernel
theorem dX3_tryRow_54 : decode cX3_tryRow 54 = .ok (.getfield 26, 3) := by decide +kernel
theorem dX3_tryRow_57 : decode cX3_tryRow 57 = .ok (.getfield 43, 3) := by decide +kernel
theorem dX3_tryRow_60 : decode cX3_tryRow 60 = .ok (.aload_n 0, 1) := by decide +kernel
theorem dX3_tryRow_61 : decode cX3_tryRow 61 = .ok (.getfield 9, 3) := by decide +kernel
theorem dX3_tryRow_64 : decode cX3_tryRow 64 = .ok (.iload_n 1, 1) := by decide +kernel
theorem dX3_tryRow_65 : decode cX3_tryRow 65 = .ok (.iaload, 1) := by decide +kernel
theorem dX3_tryRow_66 : decode cX3_tryRow 66 = .ok (.aaload, 1) := by decide +kernel
theorem dX3_tryRow_67 : decode cX3_tryRow 67 = .ok (.iconst 2, 1) := by decide +kernel
theorem dX3_tryRow_68 : decode cX3_tryRow 68 = .ok (.iaload, 1) := by decide +kernel
theorem dX3_tryRow_69 : decode cX3_tryRow 69 = .ok (.istore 4, 2) := by decide +kernel
theorem dX3_tryRow_71 : decode cX3_tryRow 71 = .ok (.iconst 0, 1) := by decide +kernel
theorem dX3_tryRow_72 : decode cX3_tryRow 72 = .ok (.istore 5, 2) := by decide +kernel
theorem dX3_tryRow_74 : decode cX3_tryRow 74 = .ok (.iload 5, 2) := by decide +kernel
theorem dX3_tryRow_76 : decode cX3_tryRow 76 = .ok (.bipush 28, 2) := by decide +kernel
theorem dX3_tryRow_78 : decode cX3_tryRow 78 = .ok (.if_icmp .ge 67, 3) := by decide +kernel
theorem dX3_tryRow_81 : decode cX3_tryRow 81 = .ok (.iload 5, 2) := by decide +kernel
theorem dX3_tryRow_83 : decode cX3_tryRow 83 = .ok (.iload 4, 2) := by decide +kernel
theorem dX3_tryRow_85 : decode cX3_tryRow 85 = .ok (.invokestatic 73, 3) := by decide +kernel
theorem dX3_tryRow_88 : decode cX3_tryRow 88 = .ok (.istore 6, 2) := by decide +kernel
theorem dX3_tryRow_90 : decode cX3_tryRow 90 = .ok (.aload_n 0, 1) := by decide +kernel
theorem dX3_tryRow_91 : decode cX3_tryRow 91 = .ok (.getfield 17, 3) := by decide +kernel
theorem dX3_tryRow_94 : decode cX3_tryRow 94 = .ok (.iload_n 1, 1) := by decide +kernel
theorem dX3_tryRow_95 : decode cX3_tryRow 95 = .ok (.aaload, 1) := by decide +kernel
theorem dX3_tryRow_96 : decode cX3_tryRow 96 = .ok (.iload 5, 2) := by decide +kernel
theorem dX3_tryRow_98 : decode cX3_tryRow 98 = .ok (.iaload, 1) := by decide +kernel
theorem dX3_tryRow_99 : decode cX3_tryRow 99 = .ok (.ifCond .le 40, 3) := by decide +kernel
theorem dX3_tryRow_102 : decode cX3_tryRow 102 = .ok (.iload_n 2, 1) := by decide +kernel
theorem dX3_tryRow_103 : decode cX3_tryRow 103 = .ok (.iload 6, 2) := by decide +kernel
theorem dX3_tryRow_105 : decode cX3_tryRow 105 = .ok (.iand, 1) := by decide +kernel
theorem dX3_tryRow_106 : decode cX3_tryRow 106 = .ok (.ifCond .ne 33, 3) := by decide +kernel
theorem dX3_tryRow_109 : decode cX3_tryRow 109 = .ok (.aload_n 0, 1) := by decide +kernel
theorem dX3_tryRow_110 : decode cX3_tryRow 110 = .ok (.getfield 20, 3) := by decide +kernel
theorem dX3_tryRow_113 : decode cX3_tryRow 113 = .ok (.iload_n 1, 1) := by decide +kernel
theorem dX3_tryRow_114 : decode cX3_tryRow 114 = .ok (.iload 5, 2) := by decide +kernel
theorem dX3_tryRow_116 : decode cX3_tryRow 116 = .ok (.iastore, 1) := by decide +kernel
theorem dX3_tryRow_117 : decode cX3_tryRow 117 = .ok (.aload_n 0, 1) := by decide +kernel
theorem dX3_tryRow_118 : decode cX3_tryRow 118 = .ok (.iload_n 1, 1) := by decide +kernel
theorem dX3_tryRow_119 : decode cX3_tryRow 119 = .ok (.iconst 1, 1) := by decide +kernel
theorem dX3_tryRow_120 : decode cX3_tryRow 120 = .ok (.iadd, 1) := by decide +kernel
theorem dX3_tryRow_121 : decode cX3_tryRow 121 = .ok (.iload_n 2, 1) := by decide +kernel
theorem dX3_tryRow_122 : decode cX3_tryRow 122 = .ok (.iload 6, 2) := by decide +kernel
theorem dX3_tryRow_124 : decode cX3_tryRow 124 = .ok (.ior, 1) := by decide +kernel
theorem dX3_tryRow_125 : decode cX3_tryRow 125 = .ok (.iload_n 3, 1) := by decide +kernel
theorem dX3_tryRow_126 : decode cX3_tryRow 126 = .ok (.aload_n 0, 1) := by decide +kernel
theorem dX3_tryRow_127 : decode cX3_tryRow 127 = .ok (.getfield 17, 3) := by decide +kernel
theorem dX3_tryRow_130 : decode cX3_tryRow 130 = .ok (.iload_n 1, 1) := by decide +kernel
theorem dX3_tryRow_131 : decode cX3_tryRow 131 = .ok (.aaload, 1) := by decide +kernel
theorem dX3_tryRow_132 : decode cX3_tryRow 132 = .ok (.iload 5, 2) := by decide +kernel
theorem dX3_tryRow_134 : decode cX3_tryRow 134 = .ok (.iaload, 1) := by decide +kernel
theorem dX3_tryRow_135 : decode cX3_tryRow 135 = .ok (.iadd, 1) := by decide +kernel
theorem dX3_tryRow_136 : decode cX3_tryRow 136 = .ok (.invokevirtual 53, 3) := by decide +kernel
theorem dX3_tryRow_139 : decode cX3_tryRow 139 = .ok (.iinc 5 1, 3) := by decide +kernel
theorem dX3_tryRow_142 : decode cX3_tryRow 142 = .ok (.goto (-68), 3) := by decide +kernel
theorem dX3_tryRow_145 : decode cX3_tryRow 145 = .ok (.return_, 1) := by decide +kernel
theorem dX3_beginOf_0 : decode cX3_beginOf 0 = .ok (.iconst 0, 1) := by decide +kernel
theorem dX3_beginOf_1 : decode cX3_beginOf 1 = .ok (.istore_n 2, 1) := by decide +kernel
theorem dX3_beginOf_2 : decode cX3_beginOf 2 = .ok (.iload_n 2, 1) := by decide +kernel
theorem dX3_beginOf_3 : decode cX3_beginOf 3 = .ok (.aload_n 0, 1) := by decide +kernel
theorem dX3_beginOf_4 : decode cX3_beginOf 4 = .ok (.getfield 34, 3) := by decide +kernel
theorem dX3_beginOf_7 : decode cX3_beginOf 7 = .ok (.if_icmp .ge 26, 3) := by decide +kernel
theorem dX3_beginOf_10 : decode cX3_beginOf 10 = .ok (.aload_n 0, 1) := by decide +kernel
theorem dX3_beginOf_11 : decode cX3_beginOf 11 = .ok (.getfield 9, 3) := by decide +kernel
theorem dX3_beginOf_14 : decode cX3_beginOf 14 = .ok (.iload_n 2, 1) := by decide +kernel
theorem dX3_beginOf_15 : decode cX3_beginOf 15 = .ok (.iaload, 1) := by decide +kernel
theorem dX3_beginOf_16 : decode cX3_beginOf 16 = .ok (.iload_n 1, 1) := by decide +kernel
theorem dX3_beginOf_17 : decode cX3_beginOf 17 = .ok (.if_icmp .ne 10, 3) := by decide +kernel
theorem dX3_beginOf_20 : decode cX3_beginOf 20 = .ok (.aload_n 0, 1) := by decide +kernel
theorem dX3_beginOf_21 : decode cX3_beginOf 21 = .ok (.getfield 23, 3) := by decide +kernel
theorem dX3_beginOf_24 : decode cX3_beginOf 24 = .ok (.iload_n 2, 1) := by decide +kernel
theorem dX3_beginOf_25 : decode cX3_beginOf 25 = .ok (.iaload, 1) := by decide +kernel
theorem dX3_beginOf_26 : decode cX3_beginOf 26 = .ok (.ireturn, 1) := by decide +kernel
theorem dX3_beginOf_27 : decode cX3_beginOf 27 = .ok (.iinc 2 1, 3) := by decide +kernel
theorem dX3_beginOf_30 : decode cX3_beginOf 30 = .ok (.goto (-28), 3) := by decide +kernel
theorem dX3_beginOf_33 : decode cX3_beginOf 33 = .ok (.bipush (-9), 2) := by decide +kernel
theorem dX3_beginOf_35 : decode cX3_beginOf 35 = .ok (.ireturn, 1) := by decide +kernel
theorem dX4_init_0 : decode cX4_init 0 = .ok (.aload_n 0, 1) := by decide +kernel
theorem dX4_init_1 : decode cX4_init 1 = .ok (.invokespecial 3, 3) := by decide +kernel
theorem dX4_init_4 : decode cX4_init 4 = .ok (.aload_n 0, 1) := by decide +kernel
theorem dX4_init_5 : decode cX4_init 5 = .ok (.bipush 28, 2) := by decide +kernel
theorem dX4_init_7 : decode cX4_init 7 = .ok (.newarray .int, 2) := by decide +kernel
theorem dX4_init_9 : decode cX4_init 9 = .ok (.putfield 9, 3) := by decide +kernel
theorem dX4_init_12 : decode cX4_init 12 = .ok (.aload_n 0, 1) := by decide +kernel
theorem dX4_init_13 : decode cX4_init 13 = .ok (.aload_n 1, 1) := by decide +kernel
theorem dX4_init_14 : decode cX4_init 14 = .ok (.putfield 15, 3) := by decide +kernel
theorem dX4_init_17 : decode cX4_init 17 = .ok (.aload_n 0, 1) := by decide +kernel
theorem dX4_init_18 : decode cX4_init 18 = .ok (.aload_n 2, 1) := by decide +kernel
theorem dX4_init_19 : decode cX4_init 19 = .ok (.putfield 19, 3) := by decide +kernel
theorem dX4_init_22 : decode cX4_init 22 = .ok (.return_, 1) := by decide +kernel
theorem dX4_put_0 : decode cX4_put 0 = .ok (.aload_n 0, 1) := by decide +kernel
theorem dX4_put_1 : decode cX4_put 1 = .ok (.getfield 23, 3) := by decide +kernel
theorem dX4_put_4 : decode cX4_put 4 = .ok (.bipush 28, 2) := by decide +kernel
theorem dX4_put_6 : decode cX4_put 6 = .ok (.if_icmp .ge 23, 3) := by decide +kernel
theorem dX4_put_9 : decode cX4_put 9 = .ok (.aload_n 0, 1) := by decide +kernel
theorem dX4_put_10 : decode cX4_put 10 = .ok (.getfield 9, 3) := by decide +kernel
theorem dX4_put_13 : decode cX4_put 13 = .ok (.aload_n 0, 1) := by decide +kernel
theorem dX4_put_14 : decode cX4_put 14 = .ok (.getfield 23, 3) := by decide +kernel
theorem dX4_put_17 : decode cX4_put 17 = .ok (.iload_n 1, 1) := by decide +kernel
theorem dX4_put_18 : decode cX4_put 18 = .ok (.iastore, 1) := by decide +kernel
theorem dX4_put_19 : decode cX4_put 19 = .ok (.aload_n 0, 1) := by decide +kernel
theorem dX4_put_20 : decode cX4_put 20 = .ok (.dup, 1) := by decide +kernel
theorem dX4_put_21 : decode cX4_put 21 = .ok (.getfield 23, 3) := by decide +kernel
theorem dX4_put_24 : decode cX4_put 24 = .ok (.iconst 1, 1) := by decide +kernel
theorem dX4_put_25 : decode cX4_put 25 = .ok (.iadd, 1) := by decide +kernel
theorem dX4_put_26 : decode cX4_put 26 = .ok (.putfield 23, 3) := by decide +kernel
theorem dX4_put_29 : decode cX4_put 29 = .ok (.return_, 1) := by decide +kernel
theorem dX4_firstWrongHour_0 : decode cX4_firstWrongHour 0 = .ok (.iconst 0, 1) := by decide +kernel
theorem dX4_firstWrongHour_1 : decode cX4_firstWrongHour 1 = .ok (.istore_n 1, 1) := by decide +kernel
theorem dX4_firstWrongHour_2 : decode cX4_firstWrongHour 2 = .ok (.iload_n 1, 1) := by decide +kernel
theorem dX4_firstWrongHour_3 : decode cX4_firstWrongHour 3 = .ok (.aload_n 0, 1) := by decide +kernel
theorem dX4_firstWrongHour_4 : decode cX4_firstWrongHour 4 = .ok (.getfield 23, 3) := by decide +kernel
theorem dX4_firstWrongHour_7 : decode cX4_firstWrongHour 7 = .ok (.if_icmp .ge 36, 3) := by decide +kernel
theorem dX4_firstWrongHour_10 : decode cX4_firstWrongHour 10 = .ok (.aload_n 0, 1) := by decide +kernel
theorem dX4_firstWrongHour_11 : decode cX4_firstWrongHour 11 = .ok (.getfield 9, 3) := by decide +kernel
theorem dX4_firstWrongHour_14 : decode cX4_firstWrongHour 14 = .ok (.iload_n 1, 1) := by decide +kernel
theorem dX4_firstWrongHour_15 : decode cX4_firstWrongHour 15 = .ok (.iaload, 1) := by decide +kernel
theorem dX4_firstWrongHour_16 : decode cX4_firstWrongHour 16 = .ok (.bipush 9, 2) := by decide +kernel
theorem dX4_firstWrongHour_18 : decode cX4_firstWrongHour 18 = .ok (.if_icmp .eq 19, 3) := by decide +kernel
theorem dX4_firstWrongHour_21 : decode cX4_firstWrongHour 21 = .ok (.aload_n 0, 1) := by decide +kernel
theorem dX4_firstWrongHour_22 : decode cX4_firstWrongHour 22 = .ok (.aload_n 0, 1) := by decide +kernel
theorem dX4_firstWrongHour_23 : decode cX4_firstWrongHour 23 = .ok (.getfield 9, 3) := by decide +kernel
theorem dX4_firstWrongHour_26 : decode cX4_firstWrongHour 26 = .ok (.iload_n 1, 1) := by decide +kernel
theorem dX4_firstWrongHour_27 : decode cX4_firstWrongHour 27 = .ok (.iaload, 1) := by decide +kernel
theorem dX4_firstWrongHour_28 : decode cX4_firstWrongHour 28 = .ok (.iload_n 1, 1) := by decide +kernel
theorem dX4_firstWrongHour_29 : decode cX4_firstWrongHour 29 = .ok (.invokevirtual 27, 3) := by decide +kernel
theorem dX4_firstWrongHour_32 : decode cX4_firstWrongHour 32 = .ok (.ifCond .ne 5, 3) := by decide +kernel
theorem dX4_firstWrongHour_35 : decode cX4_firstWrongHour 35 = .ok (.iload_n 1, 1) := by decide +kernel
theorem dX4_firstWrongHour_36 : decode cX4_firstWrongHour 36 = .ok (.ireturn, 1) := by decide +kernel
theorem dX4_firstWrongHour_37 : decode cX4_firstWrongHour 37 = .ok (.iinc 1 1, 3) := by decide +kernel
theorem dX4_firstWrongHour_40 : decode cX4_firstWrongHour 40 = .ok (.goto (-38), 3) := by decide +kernel
theorem dX4_firstWrongHour_43 : decode cX4_firstWrongHour 43 = .ok (.bipush (-9), 2) := by decide +kernel
theorem dX4_firstWrongHour_45 : decode cX4_firstWrongHour 45 = .ok (.ireturn, 1) := by decide +kernel
theorem dX4_mayBeWorked_0 : decode cX4_mayBeWorked 0 = .ok (.aload_n 0, 1) := by decide +kernel
theorem dX4_mayBeWorked_1 : decode cX4_mayBeWorked 1 = .ok (.getfield 15, 3) := by decide +kernel
theorem dX4_mayBeWorked_4 : decode cX4_mayBeWorked 4 = .ok (.iload_n 1, 1) := by decide +kernel
theorem dX4_mayBeWorked_5 : decode cX4_mayBeWorked 5 = .ok (.invokevirtual 31, 3) := by decide +kernel
theorem dX4_mayBeWorked_8 : decode cX4_mayBeWorked 8 = .ok (.ifCond .eq 36, 3) := by decide +kernel
theorem dX4_mayBeWorked_11 : decode cX4_mayBeWorked 11 = .ok (.iload_n 2, 1) := by decide +kernel
theorem dX4_mayBeWorked_12 : decode cX4_mayBeWorked 12 = .ok (.aload_n 0, 1) := by decide +kernel
theorem dX4_mayBeWorked_13 : decode cX4_mayBeWorked 13 = .ok (.getfield 15, 3) := by decide +kernel
theorem dX4_mayBeWorked_16 : decode cX4_mayBeWorked 16 = .ok (.getfield 37, 3) := by decide +kernel
theorem dX4_mayBeWorked_19 : decode cX4_mayBeWorked 19 = .ok (.iload_n 1, 1) := by decide +kernel
theorem dX4_mayBeWorked_20 : decode cX4_mayBeWorked 20 = .ok (.aaload, 1) := by decide +kernel
theorem dX4_mayBeWorked_21 : decode cX4_mayBeWorked 21 = .ok (.iconst 3, 1) := by decide +kernel
theorem dX4_mayBeWorked_22 : decode cX4_mayBeWorked 22 = .ok (.iaload, 1) := by decide +kernel
theorem dX4_mayBeWorked_23 : decode cX4_mayBeWorked 23 = .ok (.if_icmp .gt 21, 3) := by decide +kernel
theorem dX4_mayBeWorked_26 : decode cX4_mayBeWorked 26 = .ok (.aload_n 0, 1) := by decide +kernel
theorem dX4_mayBeWorked_27 : decode cX4_mayBeWorked 27 = .ok (.getfield 19, 3) := by decide +kernel
theorem dX4_mayBeWorked_30 : decode cX4_mayBeWorked 30 = .ok (.iload_n 1, 1) := by decide +kernel
theorem dX4_mayBeWorked_31 : decode cX4_mayBeWorked 31 = .ok (.iload_n 2, 1) := by decide +kernel
theorem dX4_mayBeWorked_32 : decode cX4_mayBeWorked 32 = .ok (.invokevirtual 41, 3) := by decide +kernel
theorem dX4_mayBeWorked_35 : decode cX4_mayBeWorked 35 = .ok (.bipush (-9), 2) := by decide +kernel
theorem dX4_mayBeWorked_37 : decode cX4_mayBeWorked 37 = .ok (.if_icmp .eq 7, 3) := by decide +kernel
theorem dX4_mayBeWorked_40 : decode cX4_mayBeWorked 40 = .ok (.iconst 1, 1) := by decide +kernel
theorem dX4_mayBeWorked_41 : decode cX4_mayBeWorked 41 = .ok (.goto 4, 3) := by decide +kernel
theorem dX4_mayBeWorked_44 : decode cX4_mayBeWorked 44 = .ok (.iconst 0, 1) := by decide +kernel
theorem dX4_mayBeWorked_45 : decode cX4_mayBeWorked 45 = .ok (.ireturn, 1) := by decide +kernel
theorem dX4_firstNotDone_0 : decode cX4_firstNotDone 0 = .ok (.iconst 0, 1) := by decide +kernel
theorem dX4_firstNotDone_1 : decode cX4_firstNotDone 1 = .ok (.istore_n 1, 1) := by decide +kernel
theorem dX4_firstNotDone_2 : decode cX4_firstNotDone 2 = .ok (.iload_n 1, 1) := by decide +kernel
theorem dX4_firstNotDone_3 : decode cX4_firstNotDone 3 = .ok (.aload_n 0, 1) := by decide +kernel
theorem dX4_firstNotDone_4 : decode cX4_firstNotDone 4 = .ok (.getfield 15, 3) := by decide +kernel
theorem dX4_firstNotDone_7 : decode cX4_firstNotDone 7 = .ok (.getfield 47, 3) := by decide +kernel
theorem dX4_firstNotDone_10 : decode cX4_firstNotDone 10 = .ok (.if_icmp .ge 19, 3) := by decide +kernel
theorem dX4_firstNotDone_13 : decode cX4_firstNotDone 13 = .ok (.aload_n 0, 1) := by decide +kernel
theorem dX4_firstNotDone_14 : decode cX4_firstNotDone 14 = .ok (.iload_n 1, 1) := by decide +kernel
theorem dX4_firstNotDone_15 : decode cX4_firstNotDone 15 = .ok (.invokevirtual 50, 3) := by decide +kernel
theorem dX4_firstNotDone_18 : decode cX4_firstNotDone 18 = .ok (.ifCond .ne 5, 3) := by decide +kernel
theorem dX4_firstNotDone_21 : decode cX4_firstNotDone 21 = .ok (.iload_n 1, 1) := by decide +kernel
theorem dX4_firstNotDone_22 : decode cX4_firstNotDone 22 = .ok (.ireturn, 1) := by decide +kernel
theorem dX4_firstNotDone_23 : decode cX4_firstNotDone 23 = .ok (.iinc 1 1, 3) := by decide +kernel
theorem dX4_firstNotDone_26 : decode cX4_firstNotDone 26 = .ok (.goto (-24), 3) := by decide +kernel
theorem dX4_firstNotDone_29 : decode cX4_firstNotDone 29 = .ok (.bipush (-9), 2) := by decide +kernel
theorem dX4_firstNotDone_31 : decode cX4_firstNotDone 31 = .ok (.ireturn, 1) := by decide +kernel
theorem dX4_isDone_0 : decode cX4_isDone 0 = .ok (.aload_n 0, 1) := by decide +kernel
theorem dX4_isDone_1 : decode cX4_isDone 1 = .ok (.getfield 15, 3) := by decide +kernel
theorem dX4_isDone_4 : decode cX4_isDone 4 = .ok (.getfield 37, 3) := by decide +kernel
theorem dX4_isDone_7 : decode cX4_isDone 7 = .ok (.iload_n 1, 1) := by decide +kernel
theorem dX4_isDone_8 : decode cX4_isDone 8 = .ok (.aaload, 1) := by decide +kernel
theorem dX4_isDone_9 : decode cX4_isDone 9 = .ok (.astore_n 2, 1) := by decide +kernel
theorem dX4_isDone_10 : decode cX4_isDone 10 = .ok (.iconst 0, 1) := by decide +kernel
theorem dX4_isDone_11 : decode cX4_isDone 11 = .ok (.istore_n 3, 1) := by decide +kernel
theorem dX4_isDone_12 : decode cX4_isDone 12 = .ok (.bipush (-9), 2) := by decide +kernel
theorem dX4_isDone_14 : decode cX4_isDone 14 = .ok (.istore 4, 2) := by decide +kernel
theorem dX4_isDone_16 : decode cX4_isDone 16 = .ok (.iconst 0, 1) := by decide +kernel
theorem dX4_isDone_17 : decode cX4_isDone 17 = .ok (.istore 5, 2) := by decide +kernel
theorem dX4_isDone_19 : decode cX4_isDone 19 = .ok (.iload 5, 2) := by decide +kernel
theorem dX4_isDone_21 : decode cX4_isDone 21 = .ok (.aload_n 0, 1) := by decide +kernel
theorem dX4_isDone_22 : decode cX4_isDone 22 = .ok (.getfield 23, 3) := by decide +kernel
theorem dX4_isDone_25 : decode cX4_isDone 25 = .ok (.if_icmp .ge 50, 3) := by decide +kernel
theorem dX4_isDone_28 : decode cX4_isDone 28 = .ok (.aload_n 0, 1) := by decide +kernel
theorem dX4_isDone_29 : decode cX4_isDone 29 = .ok (.getfield 9, 3) := by decide +kernel
theorem dX4_isDone_32 : decode cX4_isDone 32 = .ok (.iload 5, 2) := by decide +kernel
theorem dX4_isDone_34 : decode cX4_isDone 34 = .ok (.iaload, 1) := by decide +kernel
theorem dX4_isDone_35 : decode cX4_isDone 35 = .ok (.iload_n 1, 1) := by decide +kernel
theorem dX4_isDone_36 : decode cX4_isDone 36 = .ok (.if_icmp .eq 6, 3) := by decide +kernel
theorem dX4_isDone_39 : decode cX4_isDone 39 = .ok (.goto 30, 3) := by decide +kernel
theorem dX4_isDone_42 : decode cX4_isDone 42 = .ok (.iload 4, 2) := by decide +kernel
theorem dX4_isDone_44 : decode cX4_isDone 44 = .ok (.bipush (-9), 2) := by decide +kernel
theorem dX4_isDone_46 : decode cX4_isDone 46 = .ok (.if_icmp .eq 16, 3) := by decide +kernel
theorem dX4_isDone_49 : decode cX4_isDone 49 = .ok (.aload_n 2, 1) := by decide +kernel
theorem dX4_isDone_50 : decode cX4_isDone 50 = .ok (.iload 4, 2) := by decide +kernel
theorem dX4_isDone_52 : decode cX4_isDone 52 = .ok (.iload 5, 2) := by decide +kernel
theorem dX4_isDone_54 : decode cX4_isDone 54 = .ok (.invokestatic 53, 3) := by decide +kernel
theorem dX4_isDone_57 : decode cX4_isDone 57 = .ok (.ifCond .ne 5, 3) := by decide +kernel
theorem dX4_isDone_60 : decode cX4_isDone 60 = .ok (.iconst 0, 1) := by decide +kernel
theorem dX4_isDone_61 : decode cX4_isDone 61 = .ok (.ireturn, 1) := by decide +kernel
theorem dX4_isDone_62 : decode cX4_isDone 62 = .ok (.iload 5, 2) := by decide +kernel
theorem dX4_isDone_64 : decode cX4_isDone 64 = .ok (.istore 4, 2) := by decide +kernel
theorem dX4_isDone_66 : decode cX4_isDone 66 = .ok (.iinc 3 1, 3) := by decide +kernel
theorem dX4_isDone_69 : decode cX4_isDone 69 = .ok (.iinc 5 1, 3) := by decide +kernel
theorem dX4_isDone_72 : decode cX4_isDone 72 = .ok (.goto (-53), 3) := by decide +kernel
theorem dX4_isDone_75 : decode cX4_isDone 75 = .ok (.iload_n 3, 1) := by decide +kernel
theorem dX4_isDone_76 : decode cX4_isDone 76 = .ok (.aload_n 2, 1) := by decide +kernel
theorem dX4_isDone_77 : decode cX4_isDone 77 = .ok (.iconst 2, 1) := by decide +kernel
theorem dX4_isDone_78 : decode cX4_isDone 78 = .ok (.iaload, 1) := by decide +kernel
theorem dX4_isDone_79 : decode cX4_isDone 79 = .ok (.if_icmp .ne 7, 3) := by decide +kernel
theorem dX4_isDone_82 : decode cX4_isDone 82 = .ok (.iconst 1, 1) := by decide +kernel
theorem dX4_isDone_83 : decode cX4_isDone 83 = .ok (.goto 4, 3) := by decide +kernel
theorem dX4_isDone_86 : decode cX4_isDone 86 = .ok (.iconst 0, 1) := by decide +kernel
theorem dX4_isDone_87 : decode cX4_isDone 87 = .ok (.ireturn, 1) := by decide +kernel
theorem dX4_mayFollow_0 : decode cX4_mayFollow 0 = .ok (.aload_n 0, 1) := by decide +kernel
theorem dX4_mayFollow_1 : decode cX4_mayFollow 1 = .ok (.iconst 1, 1) := by decide +kernel
theorem dX4_mayFollow_2 : decode cX4_mayFollow 2 = .ok (.iaload, 1) := by decide +kernel
theorem dX4_mayFollow_3 : decode cX4_mayFollow 3 = .ok (.iconst 1, 1) := by decide +kernel
theorem dX4_mayFollow_4 : decode cX4_mayFollow 4 = .ok (.if_icmp .ne 20, 3) := by decide +kernel
theorem dX4_mayFollow_7 : decode cX4_mayFollow 7 = .ok (.iload_n 2, 1) := by decide +kernel
theorem dX4_mayFollow_8 : decode cX4_mayFollow 8 = .ok (.iconst 4, 1) := by decide +kernel
theorem dX4_mayFollow_9 : decode cX4_mayFollow 9 = .ok (.idiv, 1) := by decide +kernel
theorem dX4_mayFollow_10 : decode cX4_mayFollow 10 = .ok (.iload_n 1, 1) := by decide +kernel
theorem dX4_mayFollow_11 : decode cX4_mayFollow 11 = .ok (.iconst 4, 1) := by decide +kernel
theorem dX4_mayFollow_12 : decode cX4_mayFollow 12 = .ok (.idiv, 1) := by decide +kernel
theorem dX4_mayFollow_13 : decode cX4_mayFollow 13 = .ok (.if_icmp .eq 7, 3) := by decide +kernel
theorem dX4_mayFollow_16 : decode cX4_mayFollow 16 = .ok (.iconst 1, 1) := by decide +kernel
theorem dX4_mayFollow_17 : decode cX4_mayFollow 17 = .ok (.goto 19, 3) := by decide +kernel
theorem dX4_mayFollow_20 : decode cX4_mayFollow 20 = .ok (.iconst 0, 1) := by decide +kernel
theorem dX4_mayFollow_21 : decode cX4_mayFollow 21 = .ok (.goto 15, 3) := by decide +kernel
theorem dX4_mayFollow_24 : decode cX4_mayFollow 24 = .ok (.iload_n 2, 1) := by decide +kernel
theorem dX4_mayFollow_25 : decode cX4_mayFollow 25 = .ok (.iload_n 1, 1) := by decide +kernel
theorem dX4_mayFollow_26 : decode cX4_mayFollow 26 = .ok (.iconst 1, 1) := by decide +kernel
theorem dX4_mayFollow_27 : decode cX4_mayFollow 27 = .ok (.iadd, 1) := by decide +kernel
theorem dX4_mayFollow_28 : decode cX4_mayFollow 28 = .ok (.if_icmp .ne 7, 3) := by decide +kernel
theorem dX4_mayFollow_31 : decode cX4_mayFollow 31 = .ok (.iconst 1, 1) := by decide +kernel
theorem dX4_mayFollow_32 : decode cX4_mayFollow 32 = .ok (.goto 4, 3) := by decide +kernel
theorem dX4_mayFollow_35 : decode cX4_mayFollow 35 = .ok (.iconst 0, 1) := by decide +kernel
theorem dX4_mayFollow_36 : decode cX4_mayFollow 36 = .ok (.ireturn, 1) := by decide +kernel
theorem dX5_init_0 : decode cX5_init 0 = .ok (.aload_n 0, 1) := by decide +kernel
theorem dX5_init_1 : decode cX5_init 1 = .ok (.invokespecial 3, 3) := by decide +kernel
theorem dX5_init_4 : decode cX5_init 4 = .ok (.aload_n 0, 1) := by decide +kernel
theorem dX5_init_5 : decode cX5_init 5 = .ok (.bipush 6, 2) := by decide +kernel
theorem dX5_init_7 : decode cX5_init 7 = .ok (.bipush 28, 2) := by decide +kernel
theorem dX5_init_9 : decode cX5_init 9 = .ok (.multianewarray 9 2, 4) := by decide +kernel
theorem dX5_init_13 : decode cX5_init 13 = .ok (.putfield 11, 3) := by decide +kernel
theorem dX5_init_16 : decode cX5_init 16 = .ok (.aload_n 0, 1) := by decide +kernel
theorem dX5_init_17 : decode cX5_init 17 = .ok (.bipush 6, 2) := by decide +kernel
theorem dX5_init_19 : decode cX5_init 19 = .ok (.bipush 28, 2) := by decide +kernel
theorem dX5_init_21 : decode cX5_init 21 = .ok (.multianewarray 9 2, 4) := by decide +kernel
theorem dX5_init_25 : decode cX5_init 25 = .ok (.putfield 16, 3) := by decide +kernel
theorem dX5_init_28 : decode cX5_init 28 = .ok (.aload_n 0, 1) := by decide +kernel
theorem dX5_init_29 : decode cX5_init 29 = .ok (.aload_n 1, 1) := by decide +kernel
theorem dX5_init_30 : decode cX5_init 30 = .ok (.putfield 19, 3) := by decide +kernel
theorem dX5_init_33 : decode cX5_init 33 = .ok (.return_, 1) := by decide +kernel
theorem dX5_look_0 : decode cX5_look 0 = .ok (.iconst 0, 1) := by decide +kernel
theorem dX5_look_1 : decode cX5_look 1 = .ok (.istore_n 2, 1) := by decide +kernel
theorem dX5_look_2 : decode cX5_look 2 = .ok (.iload_n 2, 1) := by decide +kernel
theorem dX5_look_3 : decode cX5_look 3 = .ok (.bipush 28, 2) := by decide +kernel
theorem dX5_look_5 : decode cX5_look 5 = .ok (.if_icmp .ge 122, 3) := by decide +kernel
theorem dX5_look_8 : decode cX5_look 8 = .ok (.aload_n 0, 1) := by decide +kernel
theorem dX5_look_9 : decode cX5_look 9 = .ok (.getfield 11, 3) := by decide +kernel
theorem dX5_look_12 : decode cX5_look 12 = .ok (.iload_n 1, 1) := by decide +kernel
theorem dX5_look_13 : decode cX5_look 13 = .ok (.aaload, 1) := by decide +kernel
theorem dX5_look_14 : decode cX5_look 14 = .ok (.iload_n 2, 1) := by decide +kernel
theorem dX5_look_15 : decode cX5_look 15 = .ok (.iconst 0, 1) := by decide +kernel
theorem dX5_look_16 : decode cX5_look 16 = .ok (.iastore, 1) := by decide +kernel
theorem dX5_look_17 : decode cX5_look 17 = .ok (.aload_n 0, 1) := by decide +kernel
theorem dX5_look_18 : decode cX5_look 18 = .ok (.getfield 16, 3) := by decide +kernel
theorem dX5_look_21 : decode cX5_look 21 = .ok (.iload_n 1, 1) := by decide +kernel
theorem dX5_look_22 : decode cX5_look 22 = .ok (.aaload, 1) := by decide +kernel
theorem dX5_look_23 : decode cX5_look 23 = .ok (.iload_n 2, 1) := by decide +kernel
theorem dX5_look_24 : decode cX5_look 24 = .ok (.iconst 0, 1) := by decide +kernel
theorem dX5_look_25 : decode cX5_look 25 = .ok (.iastore, 1) := by decide +kernel
theorem dX5_look_26 : decode cX5_look 26 = .ok (.iconst 0, 1) := by decide +kernel
theorem dX5_look_27 : decode cX5_look 27 = .ok (.istore_n 3, 1) := by decide +kernel
theorem dX5_look_28 : decode cX5_look 28 = .ok (.iload_n 3, 1) := by decide +kernel
theorem dX5_look_29 : decode cX5_look 29 = .ok (.aload_n 0, 1) := by decide +kernel
theorem dX5_look_30 : decode cX5_look 30 = .ok (.getfield 19, 3) := by decide +kernel
theorem dX5_look_33 : decode cX5_look 33 = .ok (.getfield 23, 3) := by decide +kernel
theorem dX5_look_36 : decode cX5_look 36 = .ok (.iload_n 2, 1) := by decide +kernel
theorem dX5_look_37 : decode cX5_look 37 = .ok (.iaload, 1) := by decide +kernel
theorem dX5_look_38 : decode cX5_look 38 = .ok (.if_icmp .ge 83, 3) := by decide +kernel
theorem dX5_look_41 : decode cX5_look 41 = .ok (.aload_n 0, 1) := by decide +kernel
theorem dX5_look_42 : decode cX5_look 42 = .ok (.getfield 19, 3) := by decide +kernel
theorem dX5_look_45 : decode cX5_look 45 = .ok (.getfield 29, 3) := by decide +kernel
theorem dX5_look_48 : decode cX5_look 48 = .ok (.iload_n 2, 1) := by decide +kernel
theorem dX5_look_49 : decode cX5_look 49 = .ok (.aaload, 1) := by decide +kernel
theorem dX5_look_50 : decode cX5_look 50 = .ok (.iload_n 3, 1) := by decide +kernel
theorem dX5_look_51 : decode cX5_look 51 = .ok (.iaload, 1) := by decide +kernel
theorem dX5_look_52 : decode cX5_look 52 = .ok (.istore 4, 2) := by decide +kernel
theorem dX5_look_54 : decode cX5_look 54 = .ok (.aload_n 0, 1) := by decide +kernel
theorem dX5_look_55 : decode cX5_look 55 = .ok (.getfield 19, 3) := by decide +kernel
theorem dX5_look_58 : decode cX5_look 58 = .ok (.iload_n 1, 1) := by decide +kernel
theorem dX5_look_59 : decode cX5_look 59 = .ok (.iload 4, 2) := by decide +kernel
theorem dX5_look_61 : decode cX5_look 61 = .ok (.iload_n 2, 1) := by decide +kernel
theorem dX5_look_62 : decode cX5_look 62 = .ok (.invokevirtual 32, 3) := by decide +kernel
theorem dX5_look_65 : decode cX5_look 65 = .ok (.ifCond .ne 50, 3) := by decide +kernel
theorem dX5_look_68 : decode cX5_look 68 = .ok (.aload_n 0, 1) := by decide +kernel
theorem dX5_look_69 : decode cX5_look 69 = .ok (.getfield 11, 3) := by decide +kernel
theorem dX5_look_72 : decode cX5_look 72 = .ok (.iload_n 1, 1) := by decide +kernel
theorem dX5_look_73 : decode cX5_look 73 = .ok (.aaload, 1) := by decide +kernel
theorem dX5_look_74 : decode cX5_look 74 = .ok (.iload_n 2, 1) := by decide +kernel
theorem dX5_look_75 : decode cX5_look 75 = .ok (.dup2, 1) := by decide +kernel
theorem dX5_look_76 : decode cX5_look 76 = .ok (.iaload, 1) := by decide +kernel
theorem dX5_look_77 : decode cX5_look 77 = .ok (.iconst 1, 1) := by decide +kernel
theorem dX5_look_78 : decode cX5_look 78 = .ok (.iload 4, 2) := by decide +kernel
theorem dX5_look_80 : decode cX5_look 80 = .ok (.ishl, 1) := by decide +kernel
theorem dX5_look_81 : decode cX5_look 81 = .ok (.ior, 1) := by decide +kernel
theorem dX5_look_82 : decode cX5_look 82 = .ok (.iastore, 1) := by decide +kernel
theorem dX5_look_83 : decode cX5_look 83 = .ok (.aload_n 0, 1) := by decide +kernel
theorem dX5_look_84 : decode cX5_look 84 = .ok (.getfield 16, 3) := by decide +kernel
theorem dX5_look_87 : decode cX5_look 87 = .ok (.iload_n 1, 1) := by decide +kernel
theorem dX5_look_88 : decode cX5_look 88 = .ok (.aaload, 1) := by decide +kernel
theorem dX5_look_89 : decode cX5_look 89 = .ok (.iload_n 2, 1) := by decide +kernel
theorem dX5_look_90 : decode cX5_look 90 = .ok (.dup2, 1) := by decide +kernel
theorem dX5_look_91 : decode cX5_look 91 = .ok (.iaload, 1) := by decide +kernel
theorem dX5_look_92 : decode cX5_look 92 = .ok (.aload_n 0, 1) := by decide +kernel
theorem dX5_look_93 : decode cX5_look 93 = .ok (.getfield 19, 3) := by decide +kernel
theorem dX5_look_96 : decode cX5_look 96 = .ok (.iload_n 1, 1) := by decide +kernel
theorem dX5_look_97 : decode cX5_look 97 = .ok (.iload 4, 2) := by decide +kernel
theorem dX5_look_99 : decode cX5_look 99 = .ok (.invokevirtual 36, 3) := by decide +kernel
theorem dX5_look_102 : decode cX5_look 102 = .ok (.ifCond .eq 7, 3) := by decide +kernel
theorem dX5_look_105 : decode cX5_look 105 = .ok (.iconst 0, 1) := by decide +kernel
theorem dX5_look_106 : decode cX5_look 106 = .ok (.goto 7, 3) := by decide +kernel
theorem dX5_look_109 : decode cX5_look 109 = .ok (.iconst 1, 1) := by decide +kernel
theorem dX5_look_110 : decode cX5_look 110 = .ok (.iload 4, 2) := by decide +kernel
theorem dX5_look_112 : decode cX5_look 112 = .ok (.ishl, 1) := by decide +kernel
theorem dX5_look_113 : decode cX5_look 113 = .ok (.ior, 1) := by decide +kernel
theorem dX5_look_114 : decode cX5_look 114 = .ok (.iastore, 1) := by decide +kernel
theorem dX5_look_115 : decode cX5_look 115 = .ok (.iinc 3 1, 3) := by decide +kernel
theorem dX5_look_118 : decode cX5_look 118 = .ok (.goto (-90), 3) := by decide +kernel
theorem dX5_look_121 : decode cX5_look 121 = .ok (.iinc 2 1, 3) := by decide +kernel
theorem dX5_look_124 : decode cX5_look 124 = .ok (.goto (-122), 3) := by decide +kernel
theorem dX5_look_127 : decode cX5_look 127 = .ok (.return_, 1) := by decide +kernel
theorem dX5_canBe_0 : decode cX5_canBe 0 = .ok (.aload_n 0, 1) := by decide +kernel
theorem dX5_canBe_1 : decode cX5_canBe 1 = .ok (.getfield 19, 3) := by decide +kernel
theorem dX5_canBe_4 : decode cX5_canBe 4 = .ok (.getfield 40, 3) := by decide +kernel
theorem dX5_canBe_7 : decode cX5_canBe 7 = .ok (.iload_n 1, 1) := by decide +kernel
theorem dX5_canBe_8 : decode cX5_canBe 8 = .ok (.aaload, 1) := by decide +kernel
theorem dX5_canBe_9 : decode cX5_canBe 9 = .ok (.astore 4, 2) := by decide +kernel
theorem dX5_canBe_11 : decode cX5_canBe 11 = .ok (.iconst 0, 1) := by decide +kernel
theorem dX5_canBe_12 : decode cX5_canBe 12 = .ok (.istore 5, 2) := by decide +kernel
theorem dX5_canBe_14 : decode cX5_canBe 14 = .ok (.iconst 0, 1) := by decide +kernel
theorem dX5_canBe_15 : decode cX5_canBe 15 = .ok (.istore 6, 2) := by decide +kernel
theorem dX5_canBe_17 : decode cX5_canBe 17 = .ok (.iload 6, 2) := by decide +kernel
theorem dX5_canBe_19 : decode cX5_canBe 19 = .ok (.aload 4, 2) := by decide +kernel
theorem dX5_canBe_21 : decode cX5_canBe 21 = .ok (.iconst 3, 1) := by decide +kernel
theorem dX5_canBe_22 : decode cX5_canBe 22 = .ok (.iaload, 1) := by decide +kernel
theorem dX5_canBe_23 : decode cX5_canBe 23 = .ok (.if_icmp .gt 54, 3) := by decide +kernel
theorem dX5_canBe_26 : decode cX5_canBe 26 = .ok (.aload_n 0, 1) := by decide +kernel
theorem dX5_canBe_27 : decode cX5_canBe 27 = .ok (.getfield 16, 3) := by decide +kernel
theorem dX5_canBe_30 : decode cX5_canBe 30 = .ok (.iload_n 1, 1) := by decide +kernel
theorem dX5_canBe_31 : decode cX5_canBe 31 = .ok (.aaload, 1) := by decide +kernel
theorem dX5_canBe_32 : decode cX5_canBe 32 = .ok (.iload 6, 2) := by decide +kernel
theorem dX5_canBe_34 : decode cX5_canBe 34 = .ok (.iaload, 1) := by decide +kernel
theorem dX5_canBe_35 : decode cX5_canBe 35 = .ok (.aload_n 0, 1) := by decide +kernel
theorem dX5_canBe_36 : decode cX5_canBe 36 = .ok (.getfield 11, 3) := by decide +kernel
theorem dX5_canBe_39 : decode cX5_canBe 39 = .ok (.iload_n 1, 1) := by decide +kernel
theorem dX5_canBe_40 : decode cX5_canBe 40 = .ok (.aaload, 1) := by decide +kernel
theorem dX5_canBe_41 : decode cX5_canBe 41 = .ok (.iload 6, 2) := by decide +kernel
theorem dX5_canBe_43 : decode cX5_canBe 43 = .ok (.iaload, 1) := by decide +kernel
theorem dX5_canBe_44 : decode cX5_canBe 44 = .ok (.iload_n 2, 1) := by decide +kernel
theorem dX5_canBe_45 : decode cX5_canBe 45 = .ok (.iand, 1) := by decide +kernel
theorem dX5_canBe_46 : decode cX5_canBe 46 = .ok (.ior, 1) := by decide +kernel
theorem dX5_canBe_47 : decode cX5_canBe 47 = .ok (.iload_n 3, 1) := by decide +kernel
theorem dX5_canBe_48 : decode cX5_canBe 48 = .ok (.iconst (-1), 1) := by decide +kernel
theorem dX5_canBe_49 : decode cX5_canBe 49 = .ok (.ixor, 1) := by decide +kernel
theorem dX5_canBe_50 : decode cX5_canBe 50 = .ok (.iand, 1) := by decide +kernel
theorem dX5_canBe_51 : decode cX5_canBe 51 = .ok (.istore 7, 2) := by decide +kernel
theorem dX5_canBe_53 : decode cX5_canBe 53 = .ok (.iload 5, 2) := by decide +kernel
theorem dX5_canBe_55 : decode cX5_canBe 55 = .ok (.iload 7, 2) := by decide +kernel
theorem dX5_canBe_57 : decode cX5_canBe 57 = .ok (.ifCond .ne 10, 3) := by decide +kernel
theorem dX5_canBe_60 : decode cX5_canBe 60 = .ok (.iconst 1, 1) := by decide +kernel
theorem dX5_canBe_61 : decode cX5_canBe 61 = .ok (.iload 6, 2) := by decide +kernel
theorem dX5_canBe_63 : decode cX5_canBe 63 = .ok (.ishl, 1) := by decide +kernel
theorem dX5_canBe_64 : decode cX5_canBe 64 = .ok (.goto 4, 3) := by decide +kernel
theorem dX5_canBe_67 : decode cX5_canBe 67 = .ok (.iconst 0, 1) := by decide +kernel
theorem dX5_canBe_68 : decode cX5_canBe 68 = .ok (.ior, 1) := by decide +kernel
theorem dX5_canBe_69 : decode cX5_canBe 69 = .ok (.istore 5, 2) := by decide +kernel
theorem dX5_canBe_71 : decode cX5_canBe 71 = .ok (.iinc 6 1, 3) := by decide +kernel
theorem dX5_canBe_74 : decode cX5_canBe 74 = .ok (.goto (-57), 3) := by decide +kernel
theorem dX5_canBe_77 : decode cX5_canBe 77 = .ok (.aload 4, 2) := by decide +kernel
theorem dX5_canBe_79 : decode cX5_canBe 79 = .ok (.iconst 1, 1) := by decide +kernel
theorem dX5_canBe_80 : decode cX5_canBe 80 = .ok (.iaload, 1) := by decide +kernel
theorem dX5_canBe_81 : decode cX5_canBe 81 = .ok (.iconst 1, 1) := by decide +kernel
theorem dX5_canBe_82 : decode cX5_canBe 82 = .ok (.if_icmp .ne 23, 3) := by decide +kernel
theorem dX5_canBe_85 : decode cX5_canBe 85 = .ok (.iload 5, 2) := by decide +kernel
theorem dX5_canBe_87 : decode cX5_canBe 87 = .ok (.invokestatic 43, 3) := by decide +kernel
theorem dX5_canBe_90 : decode cX5_canBe 90 = .ok (.aload 4, 2) := by decide +kernel
theorem dX5_canBe_92 : decode cX5_canBe 92 = .ok (.iconst 2, 1) := by decide +kernel
theorem dX5_canBe_93 : decode cX5_canBe 93 = .ok (.iaload, 1) := by decide +kernel
theorem dX5_canBe_94 : decode cX5_canBe 94 = .ok (.if_icmp .lt 7, 3) := by decide +kernel
theorem dX5_canBe_97 : decode cX5_canBe 97 = .ok (.iconst 1, 1) := by decide +kernel
theorem dX5_canBe_98 : decode cX5_canBe 98 = .ok (.goto 24, 3) := by decide +kernel
theorem dX5_canBe_101 : decode cX5_canBe 101 = .ok (.iconst 0, 1) := by decide +kernel
theorem dX5_canBe_102 : decode cX5_canBe 102 = .ok (.goto 20, 3) := by decide +kernel
theorem dX5_canBe_105 : decode cX5_canBe 105 = .ok (.iload 5, 2) := by decide +kernel
theorem dX5_canBe_107 : decode cX5_canBe 107 = .ok (.invokestatic 47, 3) := by decide +kernel
theorem dX5_canBe_110 : decode cX5_canBe 110 = .ok (.aload 4, 2) := by decide +kernel
theorem dX5_canBe_112 : decode cX5_canBe 112 = .ok (.iconst 2, 1) := by decide +kernel
theorem dX5_canBe_113 : decode cX5_canBe 113 = .ok (.iaload, 1) := by decide +kernel
theorem dX5_canBe_114 : decode cX5_canBe 114 = .ok (.if_icmp .lt 7, 3) := by decide +kernel
theorem dX5_canBe_117 : decode cX5_canBe 117 = .ok (.iconst 1, 1) := by decide +kernel
theorem dX5_canBe_118 : decode cX5_canBe 118 = .ok (.goto 4, 3) := by decide +kernel
theorem dX5_canBe_121 : decode cX5_canBe 121 = .ok (.iconst 0, 1) := by decide +kernel
theorem dX5_canBe_122 : decode cX5_canBe 122 = .ok (.ireturn, 1) := by decide +kernel
theorem dX5_openDays_0 : decode cX5_openDays 0 = .ok (.iconst 0, 1) := by decide +kernel
theorem dX5_openDays_1 : decode cX5_openDays 1 = .ok (.istore_n 1, 1) := by decide +kernel
theorem dX5_openDays_2 : decode cX5_openDays 2 = .ok (.iconst 0, 1) := by decide +kernel
theorem dX5_openDays_3 : decode cX5_openDays 3 = .ok (.istore_n 2, 1) := by decide +kernel
theorem dX5_openDays_4 : decode cX5_openDays 4 = .ok (.iload_n 2, 1) := by decide +kernel
theorem dX5_openDays_5 : decode cX5_openDays 5 = .ok (.bipush 7, 2) := by decide +kernel
theorem dX5_openDays_7 : decode cX5_openDays 7 = .ok (.if_icmp .ge 28, 3) := by decide +kernel
theorem dX5_openDays_10 : decode cX5_openDays 10 = .ok (.iload_n 1, 1) := by decide +kernel
theorem dX5_openDays_11 : decode cX5_openDays 11 = .ok (.iload_n 0, 1) := by decide +kernel
theorem dX5_openDays_12 : decode cX5_openDays 12 = .ok (.iload_n 2, 1) := by decide +kernel
theorem dX5_openDays_13 : decode cX5_openDays 13 = .ok (.iconst 4, 1) := by decide +kernel
theorem dX5_openDays_14 : decode cX5_openDays 14 = .ok (.imul, 1) := by decide +kernel
theorem dX5_openDays_15 : decode cX5_openDays 15 = .ok (.ishr, 1) := by decide +kernel
theorem dX5_openDays_16 : decode cX5_openDays 16 = .ok (.bipush 15, 2) := by decide +kernel
theorem dX5_openDays_18 : decode cX5_openDays 18 = .ok (.iand, 1) := by decide +kernel
theorem dX5_openDays_19 : decode cX5_openDays 19 = .ok (.ifCond .eq 7, 3) := by decide +kernel
theorem dX5_openDays_22 : decode cX5_openDays 22 = .ok (.iconst 1, 1) := by decide +kernel
theorem dX5_openDays_23 : decode cX5_openDays 23 = .ok (.goto 4, 3) := by decide +kernel
theorem dX5_openDays_26 : decode cX5_openDays 26 = .ok (.iconst 0, 1) := by decide +kernel
theorem dX5_openDays_27 : decode cX5_openDays 27 = .ok (.iadd, 1) := by decide +kernel
theorem dX5_openDays_28 : decode cX5_openDays 28 = .ok (.istore_n 1, 1) := by decide +kernel
theorem dX5_openDays_29 : decode cX5_openDays 29 = .ok (.iinc 2 1, 3) := by decide +kernel
theorem dX5_openDays_32 : decode cX5_openDays 32 = .ok (.goto (-28), 3) := by decide +kernel
theorem dX5_openDays_35 : decode cX5_openDays 35 = .ok (.iload_n 1, 1) := by decide +kernel
theorem dX5_openDays_36 : decode cX5_openDays 36 = .ok (.ireturn, 1) := by decide +kernel
theorem dX5_longestRun_0 : decode cX5_longestRun 0 = .ok (.iconst 0, 1) := by decide +kernel
theorem dX5_longestRun_1 : decode cX5_longestRun 1 = .ok (.istore_n 1, 1) := by decide +kernel
theorem dX5_longestRun_2 : decode cX5_longestRun 2 = .ok (.iconst 0, 1) := by decide +kernel
theorem dX5_longestRun_3 : decode cX5_longestRun 3 = .ok (.istore_n 2, 1) := by decide +kernel
theorem dX5_longestRun_4 : decode cX5_longestRun 4 = .ok (.iconst 0, 1) := by decide +kernel
theorem dX5_longestRun_5 : decode cX5_longestRun 5 = .ok (.istore_n 3, 1) := by decide +kernel
theorem dX5_longestRun_6 : decode cX5_longestRun 6 = .ok (.iload_n 3, 1) := by decide +kernel
theorem dX5_longestRun_7 : decode cX5_longestRun 7 = .ok (.bipush 28, 2) := by decide +kernel
theorem dX5_longestRun_9 : decode cX5_longestRun 9 = .ok (.if_icmp .ge 31, 3) := by decide +kernel
theorem dX5_longestRun_12 : decode cX5_longestRun 12 = .ok (.iload_n 0, 1) := by decide +kernel
theorem dX5_longestRun_13 : decode cX5_longestRun 13 = .ok (.iload_n 3, 1) := by decide +kernel
theorem dX5_longestRun_14 : decode cX5_longestRun 14 = .ok (.invokestatic 50, 3) := by decide +kernel
theorem dX5_longestRun_17 : decode cX5_longestRun 17 = .ok (.ifCond .eq 9, 3) := by decide +kernel
theorem dX5_longestRun_20 : decode cX5_longestRun 20 = .ok (.iload_n 2, 1) := by decide +kernel
theorem dX5_longestRun_21 : decode cX5_longestRun 21 = .ok (.iconst 1, 1) := by decide +kernel
theorem dX5_longestRun_22 : decode cX5_longestRun 22 = .ok (.iadd, 1) := by decide +kernel
theorem dX5_longestRun_23 : decode cX5_longestRun 23 = .ok (.goto 4, 3) := by decide +kernel
theorem dX5_longestRun_26 : decode cX5_longestRun 26 = .ok (.iconst 0, 1) := by decide +kernel
theorem dX5_longestRun_27 : decode cX5_longestRun 27 = .ok (.istore_n 2, 1) := by decide +kernel
theorem dX5_longestRun_28 : decode cX5_longestRun 28 = .ok (.iload_n 1, 1) := by decide +kernel
theorem dX5_longestRun_29 : decode cX5_longestRun 29 = .ok (.iload_n 2, 1) := by decide +kernel
theorem dX5_longestRun_30 : decode cX5_longestRun 30 = .ok (.invokestatic 53, 3) := by decide +kernel
theorem dX5_longestRun_33 : decode cX5_longestRun 33 = .ok (.istore_n 1, 1) := by decide +kernel
theorem dX5_longestRun_34 : decode cX5_longestRun 34 = .ok (.iinc 3 1, 3) := by decide +kernel
theorem dX5_longestRun_37 : decode cX5_longestRun 37 = .ok (.goto (-31), 3) := by decide +kernel
theorem dX5_longestRun_40 : decode cX5_longestRun 40 = .ok (.iload_n 1, 1) := by decide +kernel
theorem dX5_longestRun_41 : decode cX5_longestRun 41 = .ok (.ireturn, 1) := by decide +kernel
theorem dX5_barring_0 : decode cX5_barring 0 = .ok (.aload_n 0, 1) := by decide +kernel
theorem dX5_barring_1 : decode cX5_barring 1 = .ok (.iload_n 1, 1) := by decide +kernel
theorem dX5_barring_2 : decode cX5_barring 2 = .ok (.invokevirtual 59, 3) := by decide +kernel
theorem dX5_barring_5 : decode cX5_barring 5 = .ok (.aload_n 0, 1) := by decide +kernel
theorem dX5_barring_6 : decode cX5_barring 6 = .ok (.iload_n 1, 1) := by decide +kernel
theorem dX5_barring_7 : decode cX5_barring 7 = .ok (.aload_n 0, 1) := by decide +kernel
theorem dX5_barring_8 : decode cX5_barring 8 = .ok (.getfield 19, 3) := by decide +kernel
theorem dX5_barring_11 : decode cX5_barring 11 = .ok (.getfield 63, 3) := by decide +kernel
theorem dX5_barring_14 : decode cX5_barring 14 = .ok (.iconst 0, 1) := by decide +kernel
theorem dX5_barring_15 : decode cX5_barring 15 = .ok (.invokevirtual 67, 3) := by decide +kernel
theorem dX5_barring_18 : decode cX5_barring 18 = .ok (.ifCond .eq 6, 3) := by decide +kernel
theorem dX5_barring_21 : decode cX5_barring 21 = .ok (.bipush (-9), 2) := by decide +kernel
theorem dX5_barring_23 : decode cX5_barring 23 = .ok (.ireturn, 1) := by decide +kernel
theorem dX5_barring_24 : decode cX5_barring 24 = .ok (.iconst 0, 1) := by decide +kernel
theorem dX5_barring_25 : decode cX5_barring 25 = .ok (.istore_n 2, 1) := by decide +kernel
theorem dX5_barring_26 : decode cX5_barring 26 = .ok (.iconst 0, 1) := by decide +kernel
theorem dX5_barring_27 : decode cX5_barring 27 = .ok (.istore_n 3, 1) := by decide +kernel
theorem dX5_barring_28 : decode cX5_barring 28 = .ok (.iload_n 3, 1) := by decide +kernel
theorem dX5_barring_29 : decode cX5_barring 29 = .ok (.aload_n 0, 1) := by decide +kernel
theorem dX5_barring_30 : decode cX5_barring 30 = .ok (.getfield 19, 3) := by decide +kernel
theorem dX5_barring_33 : decode cX5_barring 33 = .ok (.getfield 70, 3) := by decide +kernel
theorem dX5_barring_36 : decode cX5_barring 36 = .ok (.if_icmp .ge 33, 3) := by decide +kernel
theorem dX5_barring_39 : decode cX5_barring 39 = .ok (.aload_n 0, 1) := by decide +kernel
theorem dX5_barring_40 : decode cX5_barring 40 = .ok (.iload_n 1, 1) := by decide +kernel
theorem dX5_barring_41 : decode cX5_barring 41 = .ok (.aload_n 0, 1) := by decide +kernel
theorem dX5_barring_42 : decode cX5_barring 42 = .ok (.getfield 19, 3) := by decide +kernel
theorem dX5_barring_45 : decode cX5_barring 45 = .ok (.getfield 63, 3) := by decide +kernel
theorem dX5_barring_48 : decode cX5_barring 48 = .ok (.iconst 1, 1) := by decide +kernel
theorem dX5_barring_49 : decode cX5_barring 49 = .ok (.iload_n 3, 1) := by decide +kernel
theorem dX5_barring_50 : decode cX5_barring 50 = .ok (.ishl, 1) := by decide +kernel
theorem dX5_barring_51 : decode cX5_barring 51 = .ok (.invokevirtual 67, 3) := by decide +kernel
theorem dX5_barring_54 : decode cX5_barring 54 = .ok (.ifCond .eq 9, 3) := by decide +kernel
theorem dX5_barring_57 : decode cX5_barring 57 = .ok (.iload_n 2, 1) := by decide +kernel
theorem dX5_barring_58 : decode cX5_barring 58 = .ok (.iconst 1, 1) := by decide +kernel
theorem dX5_barring_59 : decode cX5_barring 59 = .ok (.iload_n 3, 1) := by decide +kernel
theorem dX5_barring_60 : decode cX5_barring 60 = .ok (.ishl, 1) := by decide +kernel
theorem dX5_barring_61 : decode cX5_barring 61 = .ok (.ior, 1) := by decide +kernel
theorem dX5_barring_62 : decode cX5_barring 62 = .ok (.istore_n 2, 1) := by decide +kernel
theorem dX5_barring_63 : decode cX5_barring 63 = .ok (.iinc 3 1, 3) := by decide +kernel
theorem dX5_barring_66 : decode cX5_barring 66 = .ok (.goto (-38), 3) := by decide +kernel
theorem dX5_barring_69 : decode cX5_barring 69 = .ok (.iload_n 2, 1) := by decide +kernel
theorem dX5_barring_70 : decode cX5_barring 70 = .ok (.ireturn, 1) := by decide +kernel
theorem dX5_fewestToStop_0 : decode cX5_fewestToStop 0 = .ok (.aload_n 0, 1) := by decide +kernel
theorem dX5_fewestToStop_1 : decode cX5_fewestToStop 1 = .ok (.iload_n 1, 1) := by decide +kernel
theorem dX5_fewestToStop_2 : decode cX5_fewestToStop 2 = .ok (.invokevirtual 59, 3) := by decide +kernel
theorem dX5_fewestToStop_5 : decode cX5_fewestToStop 5 = .ok (.aload_n 0, 1) := by decide +kernel
theorem dX5_fewestToStop_6 : decode cX5_fewestToStop 6 = .ok (.getfield 19, 3) := by decide +kernel
theorem dX5_fewestToStop_9 : decode cX5_fewestToStop 9 = .ok (.getfield 40, 3) := by decide +kernel
theorem dX5_fewestToStop_12 : decode cX5_fewestToStop 12 = .ok (.iload_n 1, 1) := by decide +kernel
theorem dX5_fewestToStop_13 : decode cX5_fewestToStop 13 = .ok (.aaload, 1) := by decide +kernel
theorem dX5_fewestToStop_14 : decode cX5_fewestToStop 14 = .ok (.iconst 0, 1) := by decide +kernel
theorem dX5_fewestToStop_15 : decode cX5_fewestToStop 15 = .ok (.iaload, 1) := by decide +kernel
theorem dX5_fewestToStop_16 : decode cX5_fewestToStop 16 = .ok (.istore_n 2, 1) := by decide +kernel
theorem dX5_fewestToStop_17 : decode cX5_fewestToStop 17 = .ok (.bipush (-9), 2) := by decide +kernel
theorem dX5_fewestToStop_19 : decode cX5_fewestToStop 19 = .ok (.istore_n 3, 1) := by decide +kernel
theorem dX5_fewestToStop_20 : decode cX5_fewestToStop 20 = .ok (.bipush 9, 2) := by decide +kernel
theorem dX5_fewestToStop_22 : decode cX5_fewestToStop 22 = .ok (.istore 4, 2) := by decide +kernel
theorem dX5_fewestToStop_24 : decode cX5_fewestToStop 24 = .ok (.iconst 0, 1) := by decide +kernel
theorem dX5_fewestToStop_25 : decode cX5_fewestToStop 25 = .ok (.istore 5, 2) := by decide +kernel
theorem dX5_fewestToStop_27 : decode cX5_fewestToStop 27 = .ok (.iload 5, 2) := by decide +kernel
theorem dX5_fewestToStop_29 : decode cX5_fewestToStop 29 = .ok (.aload_n 0, 1) := by decide +kernel
theorem dX5_fewestToStop_30 : decode cX5_fewestToStop 30 = .ok (.getfield 19, 3) := by decide +kernel
theorem dX5_fewestToStop_33 : decode cX5_fewestToStop 33 = .ok (.invokevirtual 73, 3) := by decide +kernel
theorem dX5_fewestToStop_36 : decode cX5_fewestToStop 36 = .ok (.if_icmp .gt 58, 3) := by decide +kernel
theorem dX5_fewestToStop_39 : decode cX5_fewestToStop 39 = .ok (.iload 5, 2) := by decide +kernel
theorem dX5_fewestToStop_41 : decode cX5_fewestToStop 41 = .ok (.invokestatic 77, 3) := by decide +kernel
theorem dX5_fewestToStop_44 : decode cX5_fewestToStop 44 = .ok (.istore 6, 2) := by decide +kernel
theorem dX5_fewestToStop_46 : decode cX5_fewestToStop 46 = .ok (.iload 6, 2) := by decide +kernel
theorem dX5_fewestToStop_48 : decode cX5_fewestToStop 48 = .ok (.iload 4, 2) := by decide +kernel
theorem dX5_fewestToStop_50 : decode cX5_fewestToStop 50 = .ok (.if_icmp .ge 38, 3) := by decide +kernel
theorem dX5_fewestToStop_53 : decode cX5_fewestToStop 53 = .ok (.iload 5, 2) := by decide +kernel
theorem dX5_fewestToStop_55 : decode cX5_fewestToStop 55 = .ok (.iload_n 2, 1) := by decide +kernel
theorem dX5_fewestToStop_56 : decode cX5_fewestToStop 56 = .ok (.invokestatic 50, 3) := by decide +kernel
theorem dX5_fewestToStop_59 : decode cX5_fewestToStop 59 = .ok (.ifCond .ne 29, 3) := by decide +kernel
theorem dX5_fewestToStop_62 : decode cX5_fewestToStop 62 = .ok (.aload_n 0, 1) := by decide +kernel
theorem dX5_fewestToStop_63 : decode cX5_fewestToStop 63 = .ok (.iload_n 1, 1) := by decide +kernel
theorem dX5_fewestToStop_64 : decode cX5_fewestToStop 64 = .ok (.aload_n 0, 1) := by decide +kernel
theorem dX5_fewestToStop_65 : decode cX5_fewestToStop 65 = .ok (.getfield 19, 3) := by decide +kernel
theorem dX5_fewestToStop_68 : decode cX5_fewestToStop 68 = .ok (.getfield 63, 3) := by decide +kernel
theorem dX5_fewestToStop_71 : decode cX5_fewestToStop 71 = .ok (.iload 5, 2) := by decide +kernel
theorem dX5_fewestToStop_73 : decode cX5_fewestToStop 73 = .ok (.ior, 1) := by decide +kernel
theorem dX5_fewestToStop_74 : decode cX5_fewestToStop 74 = .ok (.iconst 0, 1) := by decide +kernel
theorem dX5_fewestToStop_75 : decode cX5_fewestToStop 75 = .ok (.invokevirtual 67, 3) := by decide +kernel
theorem dX5_fewestToStop_78 : decode cX5_fewestToStop 78 = .ok (.ifCond .ne 10, 3) := by decide +kernel
theorem dX5_fewestToStop_81 : decode cX5_fewestToStop 81 = .ok (.iload 6, 2) := by decide +kernel
theorem dX5_fewestToStop_83 : decode cX5_fewestToStop 83 = .ok (.istore 4, 2) := by decide +kernel
theorem dX5_fewestToStop_85 : decode cX5_fewestToStop 85 = .ok (.iload 5, 2) := by decide +kernel
theorem dX5_fewestToStop_87 : decode cX5_fewestToStop 87 = .ok (.istore_n 3, 1) := by decide +kernel
theorem dX5_fewestToStop_88 : decode cX5_fewestToStop 88 = .ok (.iinc 5 1, 3) := by decide +kernel
theorem dX5_fewestToStop_91 : decode cX5_fewestToStop 91 = .ok (.goto (-64), 3) := by decide +kernel
theorem dX5_fewestToStop_94 : decode cX5_fewestToStop 94 = .ok (.iload_n 3, 1) := by decide +kernel
theorem dX5_fewestToStop_95 : decode cX5_fewestToStop 95 = .ok (.ireturn, 1) := by decide +kernel
theorem dX5_fewestToStopEach_0 : decode cX5_fewestToStopEach 0 = .ok (.iconst 0, 1) := by decide +kernel
theorem dX5_fewestToStopEach_1 : decode cX5_fewestToStopEach 1 = .ok (.istore_n 1, 1) := by decide +kernel
theorem dX5_fewestToStopEach_2 : decode cX5_fewestToStopEach 2 = .ok (.iload_n 1, 1) := by decide +kernel
theorem dX5_fewestToStopEach_3 : decode cX5_fewestToStopEach 3 = .ok (.aload_n 0, 1) := by decide +kernel
theorem dX5_fewestToStopEach_4 : decode cX5_fewestToStopEach 4 = .ok (.getfield 19, 3) := by decide +kernel
theorem dX5_fewestToStopEach_7 : decode cX5_fewestToStopEach 7 = .ok (.getfield 82, 3) := by decide +kernel
theorem dX5_fewestToStopEach_10 : decode cX5_fewestToStopEach 10 = .ok (.if_icmp .ge 14, 3) := by decide +kernel
theorem dX5_fewestToStopEach_13 : decode cX5_fewestToStopEach 13 = .ok (.aload_n 0, 1) := by decide +kernel
theorem dX5_fewestToStopEach_14 : decode cX5_fewestToStopEach 14 = .ok (.iload_n 1, 1) := by decide +kernel
theorem dX5_fewestToStopEach_15 : decode cX5_fewestToStopEach 15 = .ok (.invokevirtual 59, 3) := by decide +kernel
theorem dX5_fewestToStopEach_18 : decode cX5_fewestToStopEach 18 = .ok (.iinc 1 1, 3) := by decide +kernel
theorem dX5_fewestToStopEach_21 : decode cX5_fewestToStopEach 21 = .ok (.goto (-19), 3) := by decide +kernel
theorem dX5_fewestToStopEach_24 : decode cX5_fewestToStopEach 24 = .ok (.iconst 0, 1) := by decide +kernel
theorem dX5_fewestToStopEach_25 : decode cX5_fewestToStopEach 25 = .ok (.istore_n 1, 1) := by decide +kernel
theorem dX5_fewestToStopEach_26 : decode cX5_fewestToStopEach 26 = .ok (.bipush 9, 2) := by decide +kernel
theorem dX5_fewestToStopEach_28 : decode cX5_fewestToStopEach 28 = .ok (.istore_n 2, 1) := by decide +kernel
theorem dX5_fewestToStopEach_29 : decode cX5_fewestToStopEach 29 = .ok (.iconst 0, 1) := by decide +kernel
theorem dX5_fewestToStopEach_30 : decode cX5_fewestToStopEach 30 = .ok (.istore_n 3, 1) := by decide +kernel
theorem dX5_fewestToStopEach_31 : decode cX5_fewestToStopEach 31 = .ok (.iload_n 3, 1) := by decide +kernel
theorem dX5_fewestToStopEach_32 : decode cX5_fewestToStopEach 32 = .ok (.aload_n 0, 1) := by decide +kernel
theorem dX5_fewestToStopEach_33 : decode cX5_fewestToStopEach 33 = .ok (.getfield 19, 3) := by decide +kernel
theorem dX5_fewestToStopEach_36 : decode cX5_fewestToStopEach 36 = .ok (.invokevirtual 73, 3) := by decide +kernel
theorem dX5_fewestToStopEach_39 : decode cX5_fewestToStopEach 39 = .ok (.if_icmp .gt 34, 3) := by decide +kernel
theorem dX5_fewestToStopEach_42 : decode cX5_fewestToStopEach 42 = .ok (.iload_n 3, 1) := by decide +kernel
theorem dX5_fewestToStopEach_43 : decode cX5_fewestToStopEach 43 = .ok (.invokestatic 77, 3) := by decide +kernel
theorem dX5_fewestToStopEach_46 : decode cX5_fewestToStopEach 46 = .ok (.istore 4, 2) := by decide +kernel
theorem dX5_fewestToStopEach_48 : decode cX5_fewestToStopEach 48 = .ok (.iload 4, 2) := by decide +kernel
theorem dX5_fewestToStopEach_50 : decode cX5_fewestToStopEach 50 = .ok (.iload_n 2, 1) := by decide +kernel
theorem dX5_fewestToStopEach_51 : decode cX5_fewestToStopEach 51 = .ok (.if_icmp .ge 16, 3) := by decide +kernel
theorem dX5_fewestToStopEach_54 : decode cX5_fewestToStopEach 54 = .ok (.aload_n 0, 1) := by decide +kernel
theorem dX5_fewestToStopEach_55 : decode cX5_fewestToStopEach 55 = .ok (.iload_n 3, 1) := by decide +kernel
theorem dX5_fewestToStopEach_56 : decode cX5_fewestToStopEach 56 = .ok (.invokevirtual 85, 3) := by decide +kernel
theorem dX5_fewestToStopEach_59 : decode cX5_fewestToStopEach 59 = .ok (.ifCond .eq 8, 3) := by decide +kernel
theorem dX5_fewestToStopEach_62 : decode cX5_fewestToStopEach 62 = .ok (.iload 4, 2) := by decide +kernel
theorem dX5_fewestToStopEach_64 : decode cX5_fewestToStopEach 64 = .ok (.istore_n 2, 1) := by decide +kernel
theorem dX5_fewestToStopEach_65 : decode cX5_fewestToStopEach 65 = .ok (.iload_n 3, 1) := by decide +kernel
theorem dX5_fewestToStopEach_66 : decode cX5_fewestToStopEach 66 = .ok (.istore_n 1, 1) := by decide +kernel
theorem dX5_fewestToStopEach_67 : decode cX5_fewestToStopEach 67 = .ok (.iinc 3 1, 3) := by decide +kernel
theorem dX5_fewestToStopEach_70 : decode cX5_fewestToStopEach 70 = .ok (.goto (-39), 3) := by decide +kernel
theorem dX5_fewestToStopEach_73 : decode cX5_fewestToStopEach 73 = .ok (.iload_n 1, 1) := by decide +kernel
theorem dX5_fewestToStopEach_74 : decode cX5_fewestToStopEach 74 = .ok (.ireturn, 1) := by decide +kernel
theorem dX5_stopsOthers_0 : decode cX5_stopsOthers 0 = .ok (.iconst 0, 1) := by decide +kernel
theorem dX5_stopsOthers_1 : decode cX5_stopsOthers 1 = .ok (.istore_n 2, 1) := by decide +kernel
theorem dX5_stopsOthers_2 : decode cX5_stopsOthers 2 = .ok (.iload_n 2, 1) := by decide +kernel
theorem dX5_stopsOthers_3 : decode cX5_stopsOthers 3 = .ok (.aload_n 0, 1) := by decide +kernel
theorem dX5_stopsOthers_4 : decode cX5_stopsOthers 4 = .ok (.getfield 19, 3) := by decide +kernel
theorem dX5_stopsOthers_7 : decode cX5_stopsOthers 7 = .ok (.getfield 82, 3) := by decide +kernel
theorem dX5_stopsOthers_10 : decode cX5_stopsOthers 10 = .ok (.if_icmp .ge 49, 3) := by decide +kernel
theorem dX5_stopsOthers_13 : decode cX5_stopsOthers 13 = .ok (.iload_n 1, 1) := by decide +kernel
theorem dX5_stopsOthers_14 : decode cX5_stopsOthers 14 = .ok (.aload_n 0, 1) := by decide +kernel
theorem dX5_stopsOthers_15 : decode cX5_stopsOthers 15 = .ok (.getfield 19, 3) := by decide +kernel
theorem dX5_stopsOthers_18 : decode cX5_stopsOthers 18 = .ok (.getfield 40, 3) := by decide +kernel
theorem dX5_stopsOthers_21 : decode cX5_stopsOthers 21 = .ok (.iload_n 2, 1) := by decide +kernel
theorem dX5_stopsOthers_22 : decode cX5_stopsOthers 22 = .ok (.aaload, 1) := by decide +kernel
theorem dX5_stopsOthers_23 : decode cX5_stopsOthers 23 = .ok (.iconst 0, 1) := by decide +kernel
theorem dX5_stopsOthers_24 : decode cX5_stopsOthers 24 = .ok (.iaload, 1) := by decide +kernel
theorem dX5_stopsOthers_25 : decode cX5_stopsOthers 25 = .ok (.invokestatic 50, 3) := by decide +kernel
theorem dX5_stopsOthers_28 : decode cX5_stopsOthers 28 = .ok (.istore_n 3, 1) := by decide +kernel
theorem dX5_stopsOthers_29 : decode cX5_stopsOthers 29 = .ok (.iload_n 3, 1) := by decide +kernel
theorem dX5_stopsOthers_30 : decode cX5_stopsOthers 30 = .ok (.ifCond .ne 23, 3) := by decide +kernel
theorem dX5_stopsOthers_33 : decode cX5_stopsOthers 33 = .ok (.aload_n 0, 1) := by decide +kernel
theorem dX5_stopsOthers_34 : decode cX5_stopsOthers 34 = .ok (.iload_n 2, 1) := by decide +kernel
theorem dX5_stopsOthers_35 : decode cX5_stopsOthers 35 = .ok (.aload_n 0, 1) := by decide +kernel
theorem dX5_stopsOthers_36 : decode cX5_stopsOthers 36 = .ok (.getfield 19, 3) := by decide +kernel
theorem dX5_stopsOthers_39 : decode cX5_stopsOthers 39 = .ok (.getfield 63, 3) := by decide +kernel
theorem dX5_stopsOthers_42 : decode cX5_stopsOthers 42 = .ok (.iload_n 1, 1) := by decide +kernel
theorem dX5_stopsOthers_43 : decode cX5_stopsOthers 43 = .ok (.ior, 1) := by decide +kernel
theorem dX5_stopsOthers_44 : decode cX5_stopsOthers 44 = .ok (.iconst 0, 1) := by decide +kernel
theorem dX5_stopsOthers_45 : decode cX5_stopsOthers 45 = .ok (.invokevirtual 67, 3) := by decide +kernel
theorem dX5_stopsOthers_48 : decode cX5_stopsOthers 48 = .ok (.ifCond .eq 5, 3) := by decide +kernel
theorem dX5_stopsOthers_51 : decode cX5_stopsOthers 51 = .ok (.iconst 0, 1) := by decide +kernel
theorem dX5_stopsOthers_52 : decode cX5_stopsOthers 52 = .ok (.ireturn, 1) := by decide +kernel
theorem dX5_stopsOthers_53 : decode cX5_stopsOthers 53 = .ok (.iinc 2 1, 3) := by decide +kernel
theorem dX5_stopsOthers_56 : decode cX5_stopsOthers 56 = .ok (.goto (-54), 3) := by decide +kernel
theorem dX5_stopsOthers_59 : decode cX5_stopsOthers 59 = .ok (.iconst 1, 1) := by decide +kernel
theorem dX5_stopsOthers_60 : decode cX5_stopsOthers 60 = .ok (.ireturn, 1) := by decide +kernel
theorem dX5_orders_0 : decode cX5_orders 0 = .ok (.getstatic 89, 3) := by decide +kernel
theorem dX5_orders_3 : decode cX5_orders 3 = .ok (.iconst 0, 1) := by decide +kernel
theorem dX5_orders_4 : decode cX5_orders 4 = .ok (.iconst 5, 1) := by decide +kernel
theorem dX5_orders_5 : decode cX5_orders 5 = .ok (.aload_n 0, 1) := by decide +kernel
theorem dX5_orders_6 : decode cX5_orders 6 = .ok (.getfield 19, 3) := by decide +kernel
theorem dX5_orders_9 : decode cX5_orders 9 = .ok (.getfield 70, 3) := by decide +kernel
theorem dX5_orders_12 : decode cX5_orders 12 = .ok (.iconst 1, 1) := by decide +kernel
theorem dX5_orders_13 : decode cX5_orders 13 = .ok (.isub, 1) := by decide +kernel
theorem dX5_orders_14 : decode cX5_orders 14 = .ok (.invokestatic 92, 3) := by decide +kernel
theorem dX5_orders_17 : decode cX5_orders 17 = .ok (.invokestatic 53, 3) := by decide +kernel
theorem dX5_orders_20 : decode cX5_orders 20 = .ok (.iaload, 1) := by decide +kernel
theorem dX5_orders_21 : decode cX5_orders 21 = .ok (.ireturn, 1) := by decide +kernel
theorem dX5_pivotalOrders_0 : decode cX5_pivotalOrders 0 = .ok (.aload_n 0, 1) := by decide +kernel
theorem dX5_pivotalOrders_1 : decode cX5_pivotalOrders 1 = .ok (.iload_n 2, 1) := by decide +kernel
theorem dX5_pivotalOrders_2 : decode cX5_pivotalOrders 2 = .ok (.invokevirtual 59, 3) := by decide +kernel
theorem dX5_pivotalOrders_5 : decode cX5_pivotalOrders 5 = .ok (.aload_n 0, 1) := by decide +kernel
theorem dX5_pivotalOrders_6 : decode cX5_pivotalOrders 6 = .ok (.getfield 19, 3) := by decide +kernel
theorem dX5_pivotalOrders_9 : decode cX5_pivotalOrders 9 = .ok (.invokevirtual 73, 3) := by decide +kernel
theorem dX5_pivotalOrders_12 : decode cX5_pivotalOrders 12 = .ok (.iconst 1, 1) := by decide +kernel
theorem dX5_pivotalOrders_13 : decode cX5_pivotalOrders 13 = .ok (.aload_n 0, 1) := by decide +kernel
theorem dX5_pivotalOrders_14 : decode cX5_pivotalOrders 14 = .ok (.getfield 19, 3) := by decide +kernel
theorem dX5_pivotalOrders_17 : decode cX5_pivotalOrders 17 = .ok (.getfield 40, 3) := by decide +kernel
theorem dX5_pivotalOrders_20 : decode cX5_pivotalOrders 20 = .ok (.iload_n 2, 1) := by decide +kernel
theorem dX5_pivotalOrders_21 : decode cX5_pivotalOrders 21 = .ok (.aaload, 1) := by decide +kernel
theorem dX5_pivotalOrders_22 : decode cX5_pivotalOrders 22 = .ok (.iconst 0, 1) := by decide +kernel
theorem dX5_pivotalOrders_23 : decode cX5_pivotalOrders 23 = .ok (.iaload, 1) := by decide +kernel
theorem dX5_pivotalOrders_24 : decode cX5_pivotalOrders 24 = .ok (.ishl, 1) := by decide +kernel
theorem dX5_pivotalOrders_25 : decode cX5_pivotalOrders 25 = .ok (.iconst (-1), 1) := by decide +kernel
theorem dX5_pivotalOrders_26 : decode cX5_pivotalOrders 26 = .ok (.ixor, 1) := by decide +kernel
theorem dX5_pivotalOrders_27 : decode cX5_pivotalOrders 27 = .ok (.iand, 1) := by decide +kernel
theorem dX5_pivotalOrders_28 : decode cX5_pivotalOrders 28 = .ok (.istore_n 3, 1) := by decide +kernel
theorem dX5_pivotalOrders_29 : decode cX5_pivotalOrders 29 = .ok (.iload_n 3, 1) := by decide +kernel
theorem dX5_pivotalOrders_30 : decode cX5_pivotalOrders 30 = .ok (.iconst 1, 1) := by decide +kernel
theorem dX5_pivotalOrders_31 : decode cX5_pivotalOrders 31 = .ok (.iload_n 1, 1) := by decide +kernel
theorem dX5_pivotalOrders_32 : decode cX5_pivotalOrders 32 = .ok (.ishl, 1) := by decide +kernel
theorem dX5_pivotalOrders_33 : decode cX5_pivotalOrders 33 = .ok (.iconst (-1), 1) := by decide +kernel
theorem dX5_pivotalOrders_34 : decode cX5_pivotalOrders 34 = .ok (.ixor, 1) := by decide +kernel
theorem dX5_pivotalOrders_35 : decode cX5_pivotalOrders 35 = .ok (.iand, 1) := by decide +kernel
theorem dX5_pivotalOrders_36 : decode cX5_pivotalOrders 36 = .ok (.istore 4, 2) := by decide +kernel
theorem dX5_pivotalOrders_38 : decode cX5_pivotalOrders 38 = .ok (.iconst 0, 1) := by decide +kernel
theorem dX5_pivotalOrders_39 : decode cX5_pivotalOrders 39 = .ok (.istore 5, 2) := by decide +kernel
theorem dX5_pivotalOrders_41 : decode cX5_pivotalOrders 41 = .ok (.iconst 0, 1) := by decide +kernel
theorem dX5_pivotalOrders_42 : decode cX5_pivotalOrders 42 = .ok (.istore 6, 2) := by decide +kernel
theorem dX5_pivotalOrders_44 : decode cX5_pivotalOrders 44 = .ok (.iload 6, 2) := by decide +kernel
theorem dX5_pivotalOrders_46 : decode cX5_pivotalOrders 46 = .ok (.iload 4, 2) := by decide +kernel
theorem dX5_pivotalOrders_48 : decode cX5_pivotalOrders 48 = .ok (.if_icmp .gt 93, 3) := by decide +kernel
theorem dX5_pivotalOrders_51 : decode cX5_pivotalOrders 51 = .ok (.iload 6, 2) := by decide +kernel
theorem dX5_pivotalOrders_53 : decode cX5_pivotalOrders 53 = .ok (.iload 4, 2) := by decide +kernel
theorem dX5_pivotalOrders_55 : decode cX5_pivotalOrders 55 = .ok (.iconst (-1), 1) := by decide +kernel
theorem dX5_pivotalOrders_56 : decode cX5_pivotalOrders 56 = .ok (.ixor, 1) := by decide +kernel
theorem dX5_pivotalOrders_57 : decode cX5_pivotalOrders 57 = .ok (.iand, 1) := by decide +kernel
theorem dX5_pivotalOrders_58 : decode cX5_pivotalOrders 58 = .ok (.ifCond .eq 6, 3) := by decide +kernel
theorem dX5_pivotalOrders_61 : decode cX5_pivotalOrders 61 = .ok (.goto 74, 3) := by decide +kernel
theorem dX5_pivotalOrders_64 : decode cX5_pivotalOrders 64 = .ok (.iload 4, 2) := by decide +kernel
theorem dX5_pivotalOrders_66 : decode cX5_pivotalOrders 66 = .ok (.iload 6, 2) := by decide +kernel
theorem dX5_pivotalOrders_68 : decode cX5_pivotalOrders 68 = .ok (.iconst (-1), 1) := by decide +kernel
theorem dX5_pivotalOrders_69 : decode cX5_pivotalOrders 69 = .ok (.ixor, 1) := by decide +kernel
theorem dX5_pivotalOrders_70 : decode cX5_pivotalOrders 70 = .ok (.iand, 1) := by decide +kernel
theorem dX5_pivotalOrders_71 : decode cX5_pivotalOrders 71 = .ok (.istore 7, 2) := by decide +kernel
theorem dX5_pivotalOrders_73 : decode cX5_pivotalOrders 73 = .ok (.aload_n 0, 1) := by decide +kernel
theorem dX5_pivotalOrders_74 : decode cX5_pivotalOrders 74 = .ok (.getfield 19, 3) := by decide +kernel
theorem dX5_pivotalOrders_77 : decode cX5_pivotalOrders 77 = .ok (.getfield 63, 3) := by decide +kernel
theorem dX5_pivotalOrders_80 : decode cX5_pivotalOrders 80 = .ok (.iload 7, 2) := by decide +kernel
theorem dX5_pivotalOrders_82 : decode cX5_pivotalOrders 82 = .ok (.ior, 1) := by decide +kernel
theorem dX5_pivotalOrders_83 : decode cX5_pivotalOrders 83 = .ok (.iconst 1, 1) := by decide +kernel
theorem dX5_pivotalOrders_84 : decode cX5_pivotalOrders 84 = .ok (.iload_n 1, 1) := by decide +kernel
theorem dX5_pivotalOrders_85 : decode cX5_pivotalOrders 85 = .ok (.ishl, 1) := by decide +kernel
theorem dX5_pivotalOrders_86 : decode cX5_pivotalOrders 86 = .ok (.ior, 1) := by decide +kernel
theorem dX5_pivotalOrders_87 : decode cX5_pivotalOrders 87 = .ok (.istore 8, 2) := by decide +kernel
theorem dX5_pivotalOrders_89 : decode cX5_pivotalOrders 89 = .ok (.aload_n 0, 1) := by decide +kernel
theorem dX5_pivotalOrders_90 : decode cX5_pivotalOrders 90 = .ok (.iload_n 2, 1) := by decide +kernel
theorem dX5_pivotalOrders_91 : decode cX5_pivotalOrders 91 = .ok (.iload 8, 2) := by decide +kernel
theorem dX5_pivotalOrders_93 : decode cX5_pivotalOrders 93 = .ok (.iconst 0, 1) := by decide +kernel
theorem dX5_pivotalOrders_94 : decode cX5_pivotalOrders 94 = .ok (.invokevirtual 67, 3) := by decide +kernel
theorem dX5_pivotalOrders_97 : decode cX5_pivotalOrders 97 = .ok (.ifCond .ne 38, 3) := by decide +kernel
theorem dX5_pivotalOrders_100 : decode cX5_pivotalOrders 100 = .ok (.aload_n 0, 1) := by decide +kernel
theorem dX5_pivotalOrders_101 : decode cX5_pivotalOrders 101 = .ok (.iload_n 2, 1) := by decide +kernel
theorem dX5_pivotalOrders_102 : decode cX5_pivotalOrders 102 = .ok (.aload_n 0, 1) := by decide +kernel
theorem dX5_pivotalOrders_103 : decode cX5_pivotalOrders 103 = .ok (.getfield 19, 3) := by decide +kernel
theorem dX5_pivotalOrders_106 : decode cX5_pivotalOrders 106 = .ok (.getfield 63, 3) := by decide +kernel
theorem dX5_pivotalOrders_109 : decode cX5_pivotalOrders 109 = .ok (.iload 7, 2) := by decide +kernel
theorem dX5_pivotalOrders_111 : decode cX5_pivotalOrders 111 = .ok (.ior, 1) := by decide +kernel
theorem dX5_pivotalOrders_112 : decode cX5_pivotalOrders 112 = .ok (.iconst 0, 1) := by decide +kernel
theorem dX5_pivotalOrders_113 : decode cX5_pivotalOrders 113 = .ok (.invokevirtual 67, 3) := by decide +kernel
theorem dX5_pivotalOrders_116 : decode cX5_pivotalOrders 116 = .ok (.ifCond .eq 19, 3) := by decide +kernel
theorem dX5_pivotalOrders_119 : decode cX5_pivotalOrders 119 = .ok (.iload 5, 2) := by decide +kernel
theorem dX5_pivotalOrders_121 : decode cX5_pivotalOrders 121 = .ok (.iload 6, 2) := by decide +kernel
theorem dX5_pivotalOrders_123 : decode cX5_pivotalOrders 123 = .ok (.invokestatic 95, 3) := by decide +kernel
theorem dX5_pivotalOrders_126 : decode cX5_pivotalOrders 126 = .ok (.iload 7, 2) := by decide +kernel
theorem dX5_pivotalOrders_128 : decode cX5_pivotalOrders 128 = .ok (.invokestatic 95, 3) := by decide +kernel
theorem dX5_pivotalOrders_131 : decode cX5_pivotalOrders 131 = .ok (.imul, 1) := by decide +kernel
theorem dX5_pivotalOrders_132 : decode cX5_pivotalOrders 132 = .ok (.iadd, 1) := by decide +kernel
theorem dX5_pivotalOrders_133 : decode cX5_pivotalOrders 133 = .ok (.istore 5, 2) := by decide +kernel
theorem dX5_pivotalOrders_135 : decode cX5_pivotalOrders 135 = .ok (.iinc 6 1, 3) := by decide +kernel
theorem dX5_pivotalOrders_138 : decode cX5_pivotalOrders 138 = .ok (.goto (-94), 3) := by decide +kernel
theorem dX5_pivotalOrders_141 : decode cX5_pivotalOrders 141 = .ok (.iload 5, 2) := by decide +kernel
theorem dX5_pivotalOrders_143 : decode cX5_pivotalOrders 143 = .ok (.ireturn, 1) := by decide +kernel
theorem dX5_ordersOf_0 : decode cX5_ordersOf 0 = .ok (.getstatic 89, 3) := by decide +kernel
theorem dX5_ordersOf_3 : decode cX5_ordersOf 3 = .ok (.iconst 5, 1) := by decide +kernel
theorem dX5_ordersOf_4 : decode cX5_ordersOf 4 = .ok (.iload_n 0, 1) := by decide +kernel
theorem dX5_ordersOf_5 : decode cX5_ordersOf 5 = .ok (.invokestatic 77, 3) := by decide +kernel
theorem dX5_ordersOf_8 : decode cX5_ordersOf 8 = .ok (.invokestatic 92, 3) := by decide +kernel
theorem dX5_ordersOf_11 : decode cX5_ordersOf 11 = .ok (.iaload, 1) := by decide +kernel
theorem dX5_ordersOf_12 : decode cX5_ordersOf 12 = .ok (.ireturn, 1) := by decide +kernel
theorem dX6_init_0 : decode cX6_init 0 = .ok (.aload_n 0, 1) := by decide +kernel
theorem dX6_init_1 : decode cX6_init 1 = .ok (.invokespecial 3, 3) := by decide +kernel
theorem dX6_init_4 : decode cX6_init 4 = .ok (.aload_n 0, 1) := by decide +kernel
theorem dX6_init_5 : decode cX6_init 5 = .ok (.bipush 64, 2) := by decide +kernel
theorem dX6_init_7 : decode cX6_init 7 = .ok (.newarray .int, 2) := by decide +kernel
theorem dX6_init_9 : decode cX6_init 9 = .ok (.putfield 9, 3) := by decide +kernel
theorem dX6_init_12 : decode cX6_init 12 = .ok (.aload_n 0, 1) := by decide +kernel
theorem dX6_init_13 : decode cX6_init 13 = .ok (.bipush 6, 2) := by decide +kernel
theorem dX6_init_15 : decode cX6_init 15 = .ok (.newarray .int, 2) := by decide +kernel
theorem dX6_init_17 : decode cX6_init 17 = .ok (.putfield 15, 3) := by decide +kernel
theorem dX6_init_20 : decode cX6_init 20 = .ok (.return_, 1) := by decide +kernel
theorem dX6_put_0 : decode cX6_put 0 = .ok (.iconst 0, 1) := by decide +kernel
theorem dX6_put_1 : decode cX6_put 1 = .ok (.istore 4, 2) := by decide +kernel
theorem dX6_put_3 : decode cX6_put 3 = .ok (.iload 4, 2) := by decide +kernel
theorem dX6_put_5 : decode cX6_put 5 = .ok (.iload_n 1, 1) := by decide +kernel
theorem dX6_put_6 : decode cX6_put 6 = .ok (.if_icmp .ge 49, 3) := by decide +kernel
theorem dX6_put_9 : decode cX6_put 9 = .ok (.aload_n 0, 1) := by decide +kernel
theorem dX6_put_10 : decode cX6_put 10 = .ok (.getfield 18, 3) := by decide +kernel
theorem dX6_put_13 : decode cX6_put 13 = .ok (.bipush 64, 2) := by decide +kernel
theorem dX6_put_15 : decode cX6_put 15 = .ok (.if_icmp .ge 40, 3) := by decide +kernel
theorem dX6_put_18 : decode cX6_put 18 = .ok (.aload_n 0, 1) := by decide +kernel
theorem dX6_put_19 : decode cX6_put 19 = .ok (.getfield 9, 3) := by decide +kernel
theorem dX6_put_22 : decode cX6_put 22 = .ok (.aload_n 0, 1) := by decide +kernel
theorem dX6_put_23 : decode cX6_put 23 = .ok (.getfield 18, 3) := by decide +kernel
theorem dX6_put_26 : decode cX6_put 26 = .ok (.lload_n 2, 1) := by decide +kernel
theorem dX6_put_27 : decode cX6_put 27 = .ok (.bipush 8, 2) := by decide +kernel
theorem dX6_put_29 : decode cX6_put 29 = .ok (.iload 4, 2) := by decide +kernel
theorem dX6_put_31 : decode cX6_put 31 = .ok (.imul, 1) := by decide +kernel
theorem dX6_put_32 : decode cX6_put 32 = .ok (.lushr, 1) := by decide +kernel
theorem dX6_put_33 : decode cX6_put 33 = .ok (.ldc2_w 22, 3) := by decide +kernel
theorem dX6_put_36 : decode cX6_put 36 = .ok (.land, 1) := by decide +kernel
theorem dX6_put_37 : decode cX6_put 37 = .ok (.l2i, 1) := by decide +kernel
theorem dX6_put_38 : decode cX6_put 38 = .ok (.iastore, 1) := by decide +kernel
theorem dX6_put_39 : decode cX6_put 39 = .ok (.aload_n 0, 1) := by decide +kernel
theorem dX6_put_40 : decode cX6_put 40 = .ok (.dup, 1) := by decide +kernel
theorem dX6_put_41 : decode cX6_put 41 = .ok (.getfield 18, 3) := by decide +kernel
theorem dX6_put_44 : decode cX6_put 44 = .ok (.iconst 1, 1) := by decide +kernel
theorem dX6_put_45 : decode cX6_put 45 = .ok (.iadd, 1) := by decide +kernel
theorem dX6_put_46 : decode cX6_put 46 = .ok (.putfield 18, 3) := by decide +kernel
theorem dX6_put_49 : decode cX6_put 49 = .ok (.iinc 4 1, 3) := by decide +kernel
theorem dX6_put_52 : decode cX6_put 52 = .ok (.goto (-49), 3) := by decide +kernel
theorem dX6_put_55 : decode cX6_put 55 = .ok (.return_, 1) := by decide +kernel
theorem dX6_formFault_0 : decode cX6_formFault 0 = .ok (.iconst 0, 1) := by decide +kernel
theorem dX6_formFault_1 : decode cX6_formFault 1 = .ok (.istore_n 1, 1) := by decide +kernel
theorem dX6_formFault_2 : decode cX6_formFault 2 = .ok (.iconst 0, 1) := by decide +kernel
theorem dX6_formFault_3 : decode cX6_formFault 3 = .ok (.istore_n 2, 1) := by decide +kernel
theorem dX6_formFault_4 : decode cX6_formFault 4 = .ok (.iload_n 2, 1) := by decide +kernel
theorem dX6_formFault_5 : decode cX6_formFault 5 = .ok (.bipush 64, 2) := by decide +kernel
theorem dX6_formFault_7 : decode cX6_formFault 7 = .ok (.if_icmp .ge 41, 3) := by decide +kernel
theorem dX6_formFault_10 : decode cX6_formFault 10 = .ok (.iload_n 1, 1) := by decide +kernel
theorem dX6_formFault_11 : decode cX6_formFault 11 = .ok (.aload_n 0, 1) := by decide +kernel
theorem dX6_formFault_12 : decode cX6_formFault 12 = .ok (.getfield 18, 3) := by decide +kernel
theorem dX6_formFault_15 : decode cX6_formFault 15 = .ok (.if_icmp .lt 7, 3) := by decide +kernel
theorem dX6_formFault_18 : decode cX6_formFault 18 = .ok (.iload_n 2, 1) := by decide +kernel
theorem dX6_formFault_19 : decode cX6_formFault 19 = .ok (.ifCond .ne 29, 3) := by decide +kernel
theorem dX6_formFault_22 : decode cX6_formFault 22 = .ok (.aload_n 0, 1) := by decide +kernel
theorem dX6_formFault_23 : decode cX6_formFault 23 = .ok (.iload_n 1, 1) := by decide +kernel
theorem dX6_formFault_24 : decode cX6_formFault 24 = .ok (.invokevirtual 24, 3) := by decide +kernel
theorem dX6_formFault_27 : decode cX6_formFault 27 = .ok (.istore_n 3, 1) := by decide +kernel
theorem dX6_formFault_28 : decode cX6_formFault 28 = .ok (.iload_n 3, 1) := by decide +kernel
theorem dX6_formFault_29 : decode cX6_formFault 29 = .ok (.ifCond .ge 11, 3) := by decide +kernel
theorem dX6_formFault_32 : decode cX6_formFault 32 = .ok (.sipush (-1000), 3) := by decide +kernel
theorem dX6_formFault_35 : decode cX6_formFault 35 = .ok (.iconst (-1), 1) := by decide +kernel
theorem dX6_formFault_36 : decode cX6_formFault 36 = .ok (.iload_n 3, 1) := by decide +kernel
theorem dX6_formFault_37 : decode cX6_formFault 37 = .ok (.isub, 1) := by decide +kernel
theorem dX6_formFault_38 : decode cX6_formFault 38 = .ok (.isub, 1) := by decide +kernel
theorem dX6_formFault_39 : decode cX6_formFault 39 = .ok (.ireturn, 1) := by decide +kernel
theorem dX6_formFault_40 : decode cX6_formFault 40 = .ok (.iload_n 3, 1) := by decide +kernel
theorem dX6_formFault_41 : decode cX6_formFault 41 = .ok (.istore_n 1, 1) := by decide +kernel
theorem dX6_formFault_42 : decode cX6_formFault 42 = .ok (.iinc 2 1, 3) := by decide +kernel
theorem dX6_formFault_45 : decode cX6_formFault 45 = .ok (.goto (-41), 3) := by decide +kernel
theorem dX6_formFault_48 : decode cX6_formFault 48 = .ok (.iconst 0, 1) := by decide +kernel
theorem dX6_formFault_49 : decode cX6_formFault 49 = .ok (.ireturn, 1) := by decide +kernel
theorem dX6_tellTo_0 : decode cX6_tellTo 0 = .ok (.iconst 0, 1) := by decide +kernel
theorem dX6_tellTo_1 : decode cX6_tellTo 1 = .ok (.istore_n 2, 1) := by decide +kernel
theorem dX6_tellTo_2 : decode cX6_tellTo 2 = .ok (.iconst 0, 1) := by decide +kernel
theorem dX6_tellTo_3 : decode cX6_tellTo 3 = .ok (.istore_n 3, 1) := by decide +kernel
theorem dX6_tellTo_4 : decode cX6_tellTo 4 = .ok (.iload_n 2, 1) := by decide +kernel
theorem dX6_tellTo_5 : decode cX6_tellTo 5 = .ok (.aload_n 0, 1) := by decide +kernel
theorem dX6_tellTo_6 : decode cX6_tellTo 6 = .ok (.getfield 18, 3) := by decide +kernel
theorem dX6_tellTo_9 : decode cX6_tellTo 9 = .ok (.if_icmp .ge 50, 3) := by decide +kernel
theorem dX6_tellTo_12 : decode cX6_tellTo 12 = .ok (.iload_n 3, 1) := by decide +kernel
theorem dX6_tellTo_13 : decode cX6_tellTo 13 = .ok (.bipush 64, 2) := by decide +kernel
theorem dX6_tellTo_15 : decode cX6_tellTo 15 = .ok (.if_icmp .ge 44, 3) := by decide +kernel
theorem dX6_tellTo_18 : decode cX6_tellTo 18 = .ok (.aload_n 0, 1) := by decide +kernel
theorem dX6_tellTo_19 : decode cX6_tellTo 19 = .ok (.iload_n 2, 1) := by decide +kernel
theorem dX6_tellTo_20 : decode cX6_tellTo 20 = .ok (.invokevirtual 24, 3) := by decide +kernel
theorem dX6_tellTo_23 : decode cX6_tellTo 23 = .ok (.istore 4, 2) := by decide +kernel
theorem dX6_tellTo_25 : decode cX6_tellTo 25 = .ok (.iload 4, 2) := by decide +kernel
theorem dX6_tellTo_27 : decode cX6_tellTo 27 = .ok (.ifCond .lt 17, 3) := by decide +kernel
theorem dX6_tellTo_30 : decode cX6_tellTo 30 = .ok (.aload_n 0, 1) := by decide +kernel
theorem dX6_tellTo_31 : decode cX6_tellTo 31 = .ok (.aload_n 1, 1) := by decide +kernel
theorem dX6_tellTo_32 : decode cX6_tellTo 32 = .ok (.aload_n 0, 1) := by decide +kernel
theorem dX6_tellTo_33 : decode cX6_tellTo 33 = .ok (.getfield 9, 3) := by decide +kernel
theorem dX6_tellTo_36 : decode cX6_tellTo 36 = .ok (.iload_n 2, 1) := by decide +kernel
theorem dX6_tellTo_37 : decode cX6_tellTo 37 = .ok (.iaload, 1) := by decide +kernel
theorem dX6_tellTo_38 : decode cX6_tellTo 38 = .ok (.invokevirtual 28, 3) := by decide +kernel
theorem dX6_tellTo_41 : decode cX6_tellTo 41 = .ok (.ifCond .ne 9, 3) := by decide +kernel
theorem dX6_tellTo_44 : decode cX6_tellTo 44 = .ok (.sipush (-2000), 3) := by decide +kernel
theorem dX6_tellTo_47 : decode cX6_tellTo 47 = .ok (.iload_n 2, 1) := by decide +kernel
theorem dX6_tellTo_48 : decode cX6_tellTo 48 = .ok (.isub, 1) := by decide +kernel
theorem dX6_tellTo_49 : decode cX6_tellTo 49 = .ok (.ireturn, 1) := by decide +kernel
theorem dX6_tellTo_50 : decode cX6_tellTo 50 = .ok (.iload 4, 2) := by decide +kernel
theorem dX6_tellTo_52 : decode cX6_tellTo 52 = .ok (.istore_n 2, 1) := by decide +kernel
theorem dX6_tellTo_53 : decode cX6_tellTo 53 = .ok (.iinc 3 1, 3) := by decide +kernel
theorem dX6_tellTo_56 : decode cX6_tellTo 56 = .ok (.goto (-52), 3) := by decide +kernel
theorem dX6_tellTo_59 : decode cX6_tellTo 59 = .ok (.iload_n 3, 1) := by decide +kernel
theorem dX6_tellTo_60 : decode cX6_tellTo 60 = .ok (.ireturn, 1) := by decide +kernel
theorem dX6_tellOne_0 : decode cX6_tellOne 0 = .ok (.iload_n 2, 1) := by decide +kernel
theorem dX6_tellOne_1 : decode cX6_tellOne 1 = .ok (.bipush 112, 2) := by decide +kernel
theorem dX6_tellOne_3 : decode cX6_tellOne 3 = .ok (.if_icmp .ne 12, 3) := by decide +kernel
theorem dX6_tellOne_6 : decode cX6_tellOne 6 = .ok (.aload_n 1, 1) := by decide +kernel
theorem dX6_tellOne_7 : decode cX6_tellOne 7 = .ok (.aload_n 0, 1) := by decide +kernel
theorem dX6_tellOne_8 : decode cX6_tellOne 8 = .ok (.getfield 15, 3) := by decide +kernel
theorem dX6_tellOne_11 : decode cX6_tellOne 11 = .ok (.invokevirtual 32, 3) := by decide +kernel
theorem dX6_tellOne_14 : decode cX6_tellOne 14 = .ok (.ireturn, 1) := by decide +kernel
theorem dX6_tellOne_15 : decode cX6_tellOne 15 = .ok (.iload_n 2, 1) := by decide +kernel
theorem dX6_tellOne_16 : decode cX6_tellOne 16 = .ok (.bipush 104, 2) := by decide +kernel
theorem dX6_tellOne_18 : decode cX6_tellOne 18 = .ok (.if_icmp .ne 26, 3) := by decide +kernel
theorem dX6_tellOne_21 : decode cX6_tellOne 21 = .ok (.aload_n 1, 1) := by decide +kernel
theorem dX6_tellOne_22 : decode cX6_tellOne 22 = .ok (.aload_n 0, 1) := by decide +kernel
theorem dX6_tellOne_23 : decode cX6_tellOne 23 = .ok (.getfield 15, 3) := by decide +kernel
theorem dX6_tellOne_26 : decode cX6_tellOne 26 = .ok (.iconst 0, 1) := by decide +kernel
theorem dX6_tellOne_27 : decode cX6_tellOne 27 = .ok (.iaload, 1) := by decide +kernel
theorem dX6_tellOne_28 : decode cX6_tellOne 28 = .ok (.aload_n 0, 1) := by decide +kernel
theorem dX6_tellOne_29 : decode cX6_tellOne 29 = .ok (.getfield 15, 3) := by decide +kernel
theorem dX6_tellOne_32 : decode cX6_tellOne 32 = .ok (.iconst 1, 1) := by decide +kernel
theorem dX6_tellOne_33 : decode cX6_tellOne 33 = .ok (.iaload, 1) := by decide +kernel
theorem dX6_tellOne_34 : decode cX6_tellOne 34 = .ok (.aload_n 0, 1) := by decide +kernel
theorem dX6_tellOne_35 : decode cX6_tellOne 35 = .ok (.getfield 15, 3) := by decide +kernel
theorem dX6_tellOne_38 : decode cX6_tellOne 38 = .ok (.iconst 2, 1) := by decide +kernel
theorem dX6_tellOne_39 : decode cX6_tellOne 39 = .ok (.iaload, 1) := by decide +kernel
theorem dX6_tellOne_40 : decode cX6_tellOne 40 = .ok (.invokevirtual 38, 3) := by decide +kernel
theorem dX6_tellOne_43 : decode cX6_tellOne 43 = .ok (.ireturn, 1) := by decide +kernel
theorem dX6_tellOne_44 : decode cX6_tellOne 44 = .ok (.aload_n 1, 1) := by decide +kernel
theorem dX6_tellOne_45 : decode cX6_tellOne 45 = .ok (.aload_n 0, 1) := by decide +kernel
theorem dX6_tellOne_46 : decode cX6_tellOne 46 = .ok (.getfield 15, 3) := by decide +kernel
theorem dX6_tellOne_49 : decode cX6_tellOne 49 = .ok (.invokevirtual 42, 3) := by decide +kernel
theorem dX6_tellOne_52 : decode cX6_tellOne 52 = .ok (.ireturn, 1) := by decide +kernel
theorem dX6_readStatement_0 : decode cX6_readStatement 0 = .ok (.aload_n 0, 1) := by decide +kernel
theorem dX6_readStatement_1 : decode cX6_readStatement 1 = .ok (.iload_n 1, 1) := by decide +kernel
theorem dX6_readStatement_2 : decode cX6_readStatement 2 = .ok (.invokevirtual 45, 3) := by decide +kernel
theorem dX6_readStatement_5 : decode cX6_readStatement 5 = .ok (.astore_n 2, 1) := by decide +kernel
theorem dX6_readStatement_6 : decode cX6_readStatement 6 = .ok (.iload_n 1, 1) := by decide +kernel
theorem dX6_readStatement_7 : decode cX6_readStatement 7 = .ok (.istore_n 3, 1) := by decide +kernel
theorem dX6_readStatement_8 : decode cX6_readStatement 8 = .ok (.iconst 0, 1) := by decide +kernel
theorem dX6_readStatement_9 : decode cX6_readStatement 9 = .ok (.istore 4, 2) := by decide +kernel
theorem dX6_readStatement_11 : decode cX6_readStatement 11 = .ok (.iconst 0, 1) := by decide +kernel
theorem dX6_readStatement_12 : decode cX6_readStatement 12 = .ok (.istore 5, 2) := by decide +kernel
theorem dX6_readStatement_14 : decode cX6_readStatement 14 = .ok (.iload 5, 2) := by decide +kernel
theorem dX6_readStatement_16 : decode cX6_readStatement 16 = .ok (.aload_n 2, 1) := by decide +kernel
theorem dX6_readStatement_17 : decode cX6_readStatement 17 = .ok (.invokevirtual 49, 3) := by decide +kernel
theorem dX6_readStatement_20 : decode cX6_readStatement 20 = .ok (.if_icmp .ge 106, 3) := by decide +kernel
theorem dX6_readStatement_23 : decode cX6_readStatement 23 = .ok (.aload_n 2, 1) := by decide +kernel
theorem dX6_readStatement_24 : decode cX6_readStatement 24 = .ok (.iload 5, 2) := by decide +kernel
theorem dX6_readStatement_26 : decode cX6_readStatement 26 = .ok (.invokevirtual 55, 3) := by decide +kernel
theorem dX6_readStatement_29 : decode cX6_readStatement 29 = .ok (.istore 6, 2) := by decide +kernel
theorem dX6_readStatement_31 : decode cX6_readStatement 31 = .ok (.aload_n 0, 1) := by decide +kernel
theorem dX6_readStatement_32 : decode cX6_readStatement 32 = .ok (.iload_n 3, 1) := by decide +kernel
theorem dX6_readStatement_33 : decode cX6_readStatement 33 = .ok (.iload 6, 2) := by decide +kernel
theorem dX6_readStatement_35 : decode cX6_readStatement 35 = .ok (.invokevirtual 59, 3) := by decide +kernel
theorem dX6_readStatement_38 : decode cX6_readStatement 38 = .ok (.istore 7, 2) := by decide +kernel
theorem dX6_readStatement_40 : decode cX6_readStatement 40 = .ok (.iload 7, 2) := by decide +kernel
theorem dX6_readStatement_42 : decode cX6_readStatement 42 = .ok (.ifCond .ge 7, 3) := by decide +kernel
theorem dX6_readStatement_45 : decode cX6_readStatement 45 = .ok (.iconst (-1), 1) := by decide +kernel
theorem dX6_readStatement_46 : decode cX6_readStatement 46 = .ok (.iload_n 3, 1) := by decide +kernel
theorem dX6_readStatement_47 : decode cX6_readStatement 47 = .ok (.isub, 1) := by decide +kernel
theorem dX6_readStatement_48 : decode cX6_readStatement 48 = .ok (.ireturn, 1) := by decide +kernel
theorem dX6_readStatement_49 : decode cX6_readStatement 49 = .ok (.iinc 3 1, 3) := by decide +kernel
theorem dX6_readStatement_52 : decode cX6_readStatement 52 = .ok (.iload 6, 2) := by decide +kernel
theorem dX6_readStatement_54 : decode cX6_readStatement 54 = .ok (.bipush 78, 2) := by decide +kernel
theorem dX6_readStatement_56 : decode cX6_readStatement 56 = .ok (.if_icmp .ne 31, 3) := by decide +kernel
theorem dX6_readStatement_59 : decode cX6_readStatement 59 = .ok (.aload_n 0, 1) := by decide +kernel
theorem dX6_readStatement_60 : decode cX6_readStatement 60 = .ok (.iload_n 3, 1) := by decide +kernel
theorem dX6_readStatement_61 : decode cX6_readStatement 61 = .ok (.bipush 68, 2) := by decide +kernel
theorem dX6_readStatement_63 : decode cX6_readStatement 63 = .ok (.invokevirtual 59, 3) := by decide +kernel
theorem dX6_readStatement_66 : decode cX6_readStatement 66 = .ok (.ifCond .lt 21, 3) := by decide +kernel
theorem dX6_readStatement_69 : decode cX6_readStatement 69 = .ok (.iload 7, 2) := by decide +kernel
theorem dX6_readStatement_71 : decode cX6_readStatement 71 = .ok (.bipush 10, 2) := by decide +kernel
theorem dX6_readStatement_73 : decode cX6_readStatement 73 = .ok (.imul, 1) := by decide +kernel
theorem dX6_readStatement_74 : decode cX6_readStatement 74 = .ok (.aload_n 0, 1) := by decide +kernel
theorem dX6_readStatement_75 : decode cX6_readStatement 75 = .ok (.iload_n 3, 1) := by decide +kernel
theorem dX6_readStatement_76 : decode cX6_readStatement 76 = .ok (.bipush 68, 2) := by decide +kernel
theorem dX6_readStatement_78 : decode cX6_readStatement 78 = .ok (.invokevirtual 59, 3) := by decide +kernel
theorem dX6_readStatement_81 : decode cX6_readStatement 81 = .ok (.iadd, 1) := by decide +kernel
theorem dX6_readStatement_82 : decode cX6_readStatement 82 = .ok (.istore 7, 2) := by decide +kernel
theorem dX6_readStatement_84 : decode cX6_readStatement 84 = .ok (.iinc 3 1, 3) := by decide +kernel
theorem dX6_readStatement_87 : decode cX6_readStatement 87 = .ok (.iload 6, 2) := by decide +kernel
theorem dX6_readStatement_89 : decode cX6_readStatement 89 = .ok (.bipush 65, 2) := by decide +kernel
theorem dX6_readStatement_91 : decode cX6_readStatement 91 = .ok (.if_icmp .lt 29, 3) := by decide +kernel
theorem dX6_readStatement_94 : decode cX6_readStatement 94 = .ok (.iload 6, 2) := by decide +kernel
theorem dX6_readStatement_96 : decode cX6_readStatement 96 = .ok (.bipush 90, 2) := by decide +kernel
theorem dX6_readStatement_98 : decode cX6_readStatement 98 = .ok (.if_icmp .gt 22, 3) := by decide +kernel
theorem dX6_readStatement_101 : decode cX6_readStatement 101 = .ok (.iload 4, 2) := by decide +kernel
theorem dX6_readStatement_103 : decode cX6_readStatement 103 = .ok (.bipush 6, 2) := by decide +kernel
theorem dX6_readStatement_105 : decode cX6_readStatement 105 = .ok (.if_icmp .ge 15, 3) := by decide +kernel
theorem dX6_readStatement_108 : decode cX6_readStatement 108 = .ok (.aload_n 0, 1) := by decide +kernel
theorem dX6_readStatement_109 : decode cX6_readStatement 109 = .ok (.getfield 15, 3) := by decide +kernel
theorem dX6_readStatement_112 : decode cX6_readStatement 112 = .ok (.iload 4, 2) := by decide +kernel
theorem dX6_readStatement_114 : decode cX6_readStatement 114 = .ok (.iload 7, 2) := by decide +kernel
theorem dX6_readStatement_116 : decode cX6_readStatement 116 = .ok (.iastore, 1) := by decide +kernel
theorem dX6_readStatement_117 : decode cX6_readStatement 117 = .ok (.iinc 4 1, 3) := by decide +kernel
theorem dX6_readStatement_120 : decode cX6_readStatement 120 = .ok (.iinc 5 1, 3) := by decide +kernel
theorem dX6_readStatement_123 : decode cX6_readStatement 123 = .ok (.goto (-109), 3) := by decide +kernel
theorem dX6_readStatement_126 : decode cX6_readStatement 126 = .ok (.iload_n 3, 1) := by decide +kernel
theorem dX6_readStatement_127 : decode cX6_readStatement 127 = .ok (.ireturn, 1) := by decide +kernel
theorem dX6_formAt_0 : decode cX6_formAt 0 = .ok (.aload_n 0, 1) := by decide +kernel
theorem dX6_formAt_1 : decode cX6_formAt 1 = .ok (.iload_n 1, 1) := by decide +kernel
theorem dX6_formAt_2 : decode cX6_formAt 2 = .ok (.invokevirtual 63, 3) := by decide +kernel
theorem dX6_formAt_5 : decode cX6_formAt 5 = .ok (.istore_n 2, 1) := by decide +kernel
theorem dX6_formAt_6 : decode cX6_formAt 6 = .ok (.iload_n 2, 1) := by decide +kernel
theorem dX6_formAt_7 : decode cX6_formAt 7 = .ok (.bipush 104, 2) := by decide +kernel
theorem dX6_formAt_9 : decode cX6_formAt 9 = .ok (.if_icmp .ne 6, 3) := by decide +kernel
theorem dX6_formAt_12 : decode cX6_formAt 12 = .ok (.ldc 66, 2) := by decide +kernel
theorem dX6_formAt_14 : decode cX6_formAt 14 = .ok (.areturn, 1) := by decide +kernel
theorem dX6_formAt_15 : decode cX6_formAt 15 = .ok (.iload_n 2, 1) := by decide +kernel
theorem dX6_formAt_16 : decode cX6_formAt 16 = .ok (.bipush 119, 2) := by decide +kernel
theorem dX6_formAt_18 : decode cX6_formAt 18 = .ok (.if_icmp .ne 8, 3) := by decide +kernel
theorem dX6_formAt_21 : decode cX6_formAt 21 = .ok (.ldc 68, 2) := by decide +kernel
theorem dX6_formAt_23 : decode cX6_formAt 23 = .ok (.goto 5, 3) := by decide +kernel
theorem dX6_formAt_26 : decode cX6_formAt 26 = .ok (.ldc 70, 2) := by decide +kernel
theorem dX6_formAt_28 : decode cX6_formAt 28 = .ok (.areturn, 1) := by decide +kernel
theorem dX6_signAt_0 : decode cX6_signAt 0 = .ok (.iload_n 1, 1) := by decide +kernel
theorem dX6_signAt_1 : decode cX6_signAt 1 = .ok (.ifCond .lt 20, 3) := by decide +kernel
theorem dX6_signAt_4 : decode cX6_signAt 4 = .ok (.iload_n 1, 1) := by decide +kernel
theorem dX6_signAt_5 : decode cX6_signAt 5 = .ok (.aload_n 0, 1) := by decide +kernel
theorem dX6_signAt_6 : decode cX6_signAt 6 = .ok (.getfield 18, 3) := by decide +kernel
theorem dX6_signAt_9 : decode cX6_signAt 9 = .ok (.if_icmp .ge 12, 3) := by decide +kernel
theorem dX6_signAt_12 : decode cX6_signAt 12 = .ok (.aload_n 0, 1) := by decide +kernel
theorem dX6_signAt_13 : decode cX6_signAt 13 = .ok (.getfield 9, 3) := by decide +kernel
theorem dX6_signAt_16 : decode cX6_signAt 16 = .ok (.iload_n 1, 1) := by decide +kernel
theorem dX6_signAt_17 : decode cX6_signAt 17 = .ok (.iaload, 1) := by decide +kernel
theorem dX6_signAt_18 : decode cX6_signAt 18 = .ok (.goto 4, 3) := by decide +kernel
theorem dX6_signAt_21 : decode cX6_signAt 21 = .ok (.iconst (-1), 1) := by decide +kernel
theorem dX6_signAt_22 : decode cX6_signAt 22 = .ok (.ireturn, 1) := by decide +kernel
theorem dX6_valueAt_0 : decode cX6_valueAt 0 = .ok (.aload_n 0, 1) := by decide +kernel
theorem dX6_valueAt_1 : decode cX6_valueAt 1 = .ok (.iload_n 1, 1) := by decide +kernel
theorem dX6_valueAt_2 : decode cX6_valueAt 2 = .ok (.invokevirtual 63, 3) := by decide +kernel
theorem dX6_valueAt_5 : decode cX6_valueAt 5 = .ok (.istore_n 3, 1) := by decide +kernel
theorem dX6_valueAt_6 : decode cX6_valueAt 6 = .ok (.iload_n 3, 1) := by decide +kernel
theorem dX6_valueAt_7 : decode cX6_valueAt 7 = .ok (.ifCond .ge 5, 3) := by decide +kernel
theorem dX6_valueAt_10 : decode cX6_valueAt 10 = .ok (.iconst (-1), 1) := by decide +kernel
theorem dX6_valueAt_11 : decode cX6_valueAt 11 = .ok (.ireturn, 1) := by decide +kernel
theorem dX6_valueAt_12 : decode cX6_valueAt 12 = .ok (.iload_n 2, 1) := by decide +kernel
theorem dX6_valueAt_13 : decode cX6_valueAt 13 = .ok (.lookupswitch 94 #[(68, 43), (75, 64), (78, 43), (82, 72)], 43) := by decide +kernel
theorem dX6_valueAt_56 : decode cX6_valueAt 56 = .ok (.iload_n 3, 1) := by decide +kernel
theorem dX6_valueAt_57 : decode cX6_valueAt 57 = .ok (.bipush 48, 2) := by decide +kernel
theorem dX6_valueAt_59 : decode cX6_valueAt 59 = .ok (.if_icmp .lt 16, 3) := by decide +kernel
theorem dX6_valueAt_62 : decode cX6_valueAt 62 = .ok (.iload_n 3, 1) := by decide +kernel
theorem dX6_valueAt_63 : decode cX6_valueAt 63 = .ok (.bipush 57, 2) := by decide +kernel
theorem dX6_valueAt_65 : decode cX6_valueAt 65 = .ok (.if_icmp .gt 10, 3) := by decide +kernel
theorem dX6_valueAt_68 : decode cX6_valueAt 68 = .ok (.iload_n 3, 1) := by decide +kernel
theorem dX6_valueAt_69 : decode cX6_valueAt 69 = .ok (.bipush 48, 2) := by decide +kernel
theorem dX6_valueAt_71 : decode cX6_valueAt 71 = .ok (.isub, 1) := by decide +kernel
theorem dX6_valueAt_72 : decode cX6_valueAt 72 = .ok (.goto 4, 3) := by decide +kernel
theorem dX6_valueAt_75 : decode cX6_valueAt 75 = .ok (.iconst (-1), 1) := by decide +kernel
theorem dX6_valueAt_76 : decode cX6_valueAt 76 = .ok (.ireturn, 1) := by decide +kernel
theorem dX6_valueAt_77 : decode cX6_valueAt 77 = .ok (.ldc 72, 2) := by decide +kernel
theorem dX6_valueAt_79 : decode cX6_valueAt 79 = .ok (.iload_n 3, 1) := by decide +kernel
theorem dX6_valueAt_80 : decode cX6_valueAt 80 = .ok (.i2c, 1) := by decide +kernel
theorem dX6_valueAt_81 : decode cX6_valueAt 81 = .ok (.invokevirtual 74, 3) := by decide +kernel
theorem dX6_valueAt_84 : decode cX6_valueAt 84 = .ok (.ireturn, 1) := by decide +kernel
theorem dX6_valueAt_85 : decode cX6_valueAt 85 = .ok (.iload_n 3, 1) := by decide +kernel
theorem dX6_valueAt_86 : decode cX6_valueAt 86 = .ok (.bipush 115, 2) := by decide +kernel
theorem dX6_valueAt_88 : decode cX6_valueAt 88 = .ok (.if_icmp .ne 7, 3) := by decide +kernel
theorem dX6_valueAt_91 : decode cX6_valueAt 91 = .ok (.iconst 1, 1) := by decide +kernel
theorem dX6_valueAt_92 : decode cX6_valueAt 92 = .ok (.goto 14, 3) := by decide +kernel
theorem dX6_valueAt_95 : decode cX6_valueAt 95 = .ok (.iload_n 3, 1) := by decide +kernel
theorem dX6_valueAt_96 : decode cX6_valueAt 96 = .ok (.bipush 114, 2) := by decide +kernel
theorem dX6_valueAt_98 : decode cX6_valueAt 98 = .ok (.if_icmp .ne 7, 3) := by decide +kernel
theorem dX6_valueAt_101 : decode cX6_valueAt 101 = .ok (.iconst 0, 1) := by decide +kernel
theorem dX6_valueAt_102 : decode cX6_valueAt 102 = .ok (.goto 4, 3) := by decide +kernel
theorem dX6_valueAt_105 : decode cX6_valueAt 105 = .ok (.iconst (-1), 1) := by decide +kernel
theorem dX6_valueAt_106 : decode cX6_valueAt 106 = .ok (.ireturn, 1) := by decide +kernel
theorem dX6_valueAt_107 : decode cX6_valueAt 107 = .ok (.iload_n 3, 1) := by decide +kernel
theorem dX6_valueAt_108 : decode cX6_valueAt 108 = .ok (.iload_n 2, 1) := by decide +kernel
theorem dX6_valueAt_109 : decode cX6_valueAt 109 = .ok (.if_icmp .ne 7, 3) := by decide +kernel
theorem dX6_valueAt_112 : decode cX6_valueAt 112 = .ok (.iconst 0, 1) := by decide +kernel
theorem dX6_valueAt_113 : decode cX6_valueAt 113 = .ok (.goto 4, 3) := by decide +kernel
theorem dX6_valueAt_116 : decode cX6_valueAt 116 = .ok (.iconst (-1), 1) := by decide +kernel
theorem dX6_valueAt_117 : decode cX6_valueAt 117 = .ok (.ireturn, 1) := by decide +kernel
theorem dX7_init_0 : decode cX7_init 0 = .ok (.aload_n 0, 1) := by decide +kernel
theorem dX7_init_1 : decode cX7_init 1 = .ok (.invokespecial 3, 3) := by decide +kernel
theorem dX7_init_4 : decode cX7_init 4 = .ok (.aload_n 0, 1) := by decide +kernel
theorem dX7_init_5 : decode cX7_init 5 = .ok (.bipush (-9), 2) := by decide +kernel
theorem dX7_init_7 : decode cX7_init 7 = .ok (.putfield 9, 3) := by decide +kernel
theorem dX7_init_10 : decode cX7_init 10 = .ok (.aload_n 0, 1) := by decide +kernel
theorem dX7_init_11 : decode cX7_init 11 = .ok (.bipush 8, 2) := by decide +kernel
theorem dX7_init_13 : decode cX7_init 13 = .ok (.iconst 3, 1) := by decide +kernel
theorem dX7_init_14 : decode cX7_init 14 = .ok (.multianewarray 15 2, 4) := by decide +kernel
theorem dX7_init_18 : decode cX7_init 18 = .ok (.putfield 17, 3) := by decide +kernel
theorem dX7_init_21 : decode cX7_init 21 = .ok (.aload_n 0, 1) := by decide +kernel
theorem dX7_init_22 : decode cX7_init 22 = .ok (.bipush 8, 2) := by decide +kernel
theorem dX7_init_24 : decode cX7_init 24 = .ok (.newarray .int, 2) := by decide +kernel
theorem dX7_init_26 : decode cX7_init 26 = .ok (.putfield 20, 3) := by decide +kernel
theorem dX7_init_29 : decode cX7_init 29 = .ok (.aload_n 0, 1) := by decide +kernel
theorem dX7_init_30 : decode cX7_init 30 = .ok (.bipush 8, 2) := by decide +kernel
theorem dX7_init_32 : decode cX7_init 32 = .ok (.newarray .int, 2) := by decide +kernel
theorem dX7_init_34 : decode cX7_init 34 = .ok (.dup, 1) := by decide +kernel
theorem dX7_init_35 : decode cX7_init 35 = .ok (.iconst 0, 1) := by decide +kernel
theorem dX7_init_36 : decode cX7_init 36 = .ok (.bipush (-9), 2) := by decide +kernel
theorem dX7_init_38 : decode cX7_init 38 = .ok (.iastore, 1) := by decide +kernel
theorem dX7_init_39 : decode cX7_init 39 = .ok (.dup, 1) := by decide +kernel
theorem dX7_init_40 : decode cX7_init 40 = .ok (.iconst 1, 1) := by decide +kernel
theorem dX7_init_41 : decode cX7_init 41 = .ok (.bipush (-9), 2) := by decide +kernel
theorem dX7_init_43 : decode cX7_init 43 = .ok (.iastore, 1) := by decide +kernel
theorem dX7_init_44 : decode cX7_init 44 = .ok (.dup, 1) := by decide +kernel
theorem dX7_init_45 : decode cX7_init 45 = .ok (.iconst 2, 1) := by decide +kernel
theorem dX7_init_46 : decode cX7_init 46 = .ok (.bipush (-9), 2) := by decide +kernel
theorem dX7_init_48 : decode cX7_init 48 = .ok (.iastore, 1) := by decide +kernel
theorem dX7_init_49 : decode cX7_init 49 = .ok (.dup, 1) := by decide +kernel
theorem dX7_init_50 : decode cX7_init 50 = .ok (.iconst 3, 1) := by decide +kernel
theorem dX7_init_51 : decode cX7_init 51 = .ok (.bipush (-9), 2) := by decide +kernel
theorem dX7_init_53 : decode cX7_init 53 = .ok (.iastore, 1) := by decide +kernel
theorem dX7_init_54 : decode cX7_init 54 = .ok (.dup, 1) := by decide +kernel
theorem dX7_init_55 : decode cX7_init 55 = .ok (.iconst 4, 1) := by decide +kernel
theorem dX7_init_56 : decode cX7_init 56 = .ok (.bipush (-9), 2) := by decide +kernel
theorem dX7_init_58 : decode cX7_init 58 = .ok (.iastore, 1) := by decide +kernel
theorem dX7_init_59 : decode cX7_init 59 = .ok (.dup, 1) := by decide +kernel
theorem dX7_init_60 : decode cX7_init 60 = .ok (.iconst 5, 1) := by decide +kernel
theorem dX7_init_61 : decode cX7_init 61 = .ok (.bipush (-9), 2) := by decide +kernel
theorem dX7_init_63 : decode cX7_init 63 = .ok (.iastore, 1) := by decide +kernel
theorem dX7_init_64 : decode cX7_init 64 = .ok (.dup, 1) := by decide +kernel
theorem dX7_init_65 : decode cX7_init 65 = .ok (.bipush 6, 2) := by decide +kernel
theorem dX7_init_67 : decode cX7_init 67 = .ok (.bipush (-9), 2) := by decide +kernel
theorem dX7_init_69 : decode cX7_init 69 = .ok (.iastore, 1) := by decide +kernel
theorem dX7_init_70 : decode cX7_init 70 = .ok (.dup, 1) := by decide +kernel
theorem dX7_init_71 : decode cX7_init 71 = .ok (.bipush 7, 2) := by decide +kernel
theorem dX7_init_73 : decode cX7_init 73 = .ok (.bipush (-9), 2) := by decide +kernel
theorem dX7_init_75 : decode cX7_init 75 = .ok (.iastore, 1) := by decide +kernel
theorem dX7_init_76 : decode cX7_init 76 = .ok (.putfield 24, 3) := by decide +kernel
theorem dX7_init_79 : decode cX7_init 79 = .ok (.aload_n 0, 1) := by decide +kernel
theorem dX7_init_80 : decode cX7_init 80 = .ok (.bipush 28, 2) := by decide +kernel
theorem dX7_init_82 : decode cX7_init 82 = .ok (.newarray .int, 2) := by decide +kernel
theorem dX7_init_84 : decode cX7_init 84 = .ok (.putfield 27, 3) := by decide +kernel
theorem dX7_init_87 : decode cX7_init 87 = .ok (.aload_n 0, 1) := by decide +kernel
theorem dX7_init_88 : decode cX7_init 88 = .ok (.bipush 28, 2) := by decide +kernel
theorem dX7_init_90 : decode cX7_init 90 = .ok (.iconst 3, 1) := by decide +kernel
theorem dX7_init_91 : decode cX7_init 91 = .ok (.multianewarray 15 2, 4) := by decide +kernel
theorem dX7_init_95 : decode cX7_init 95 = .ok (.putfield 30, 3) := by decide +kernel
theorem dX7_init_98 : decode cX7_init 98 = .ok (.aload_n 0, 1) := by decide +kernel
theorem dX7_init_99 : decode cX7_init 99 = .ok (.bipush 6, 2) := by decide +kernel
theorem dX7_init_101 : decode cX7_init 101 = .ok (.bipush 6, 2) := by decide +kernel
theorem dX7_init_103 : decode cX7_init 103 = .ok (.multianewarray 15 2, 4) := by decide +kernel
theorem dX7_init_107 : decode cX7_init 107 = .ok (.putfield 33, 3) := by decide +kernel
theorem dX7_init_110 : decode cX7_init 110 = .ok (.aload_n 0, 1) := by decide +kernel
theorem dX7_init_111 : decode cX7_init 111 = .ok (.iconst 4, 1) := by decide +kernel
theorem dX7_init_112 : decode cX7_init 112 = .ok (.newarray .int, 2) := by decide +kernel
theorem dX7_init_114 : decode cX7_init 114 = .ok (.dup, 1) := by decide +kernel
theorem dX7_init_115 : decode cX7_init 115 = .ok (.iconst 0, 1) := by decide +kernel
theorem dX7_init_116 : decode cX7_init 116 = .ok (.bipush 100, 2) := by decide +kernel
theorem dX7_init_118 : decode cX7_init 118 = .ok (.iastore, 1) := by decide +kernel
theorem dX7_init_119 : decode cX7_init 119 = .ok (.dup, 1) := by decide +kernel
theorem dX7_init_120 : decode cX7_init 120 = .ok (.iconst 1, 1) := by decide +kernel
theorem dX7_init_121 : decode cX7_init 121 = .ok (.bipush 100, 2) := by decide +kernel
theorem dX7_init_123 : decode cX7_init 123 = .ok (.iastore, 1) := by decide +kernel
theorem dX7_init_124 : decode cX7_init 124 = .ok (.dup, 1) := by decide +kernel
theorem dX7_init_125 : decode cX7_init 125 = .ok (.iconst 2, 1) := by decide +kernel
theorem dX7_init_126 : decode cX7_init 126 = .ok (.bipush 100, 2) := by decide +kernel
theorem dX7_init_128 : decode cX7_init 128 = .ok (.iastore, 1) := by decide +kernel
theorem dX7_init_129 : decode cX7_init 129 = .ok (.dup, 1) := by decide +kernel
theorem dX7_init_130 : decode cX7_init 130 = .ok (.iconst 3, 1) := by decide +kernel
theorem dX7_init_131 : decode cX7_init 131 = .ok (.bipush 100, 2) := by decide +kernel
theorem dX7_init_133 : decode cX7_init 133 = .ok (.iastore, 1) := by decide +kernel
theorem dX7_init_134 : decode cX7_init 134 = .ok (.putfield 36, 3) := by decide +kernel
theorem dX7_init_137 : decode cX7_init 137 = .ok (.return_, 1) := by decide +kernel
theorem dX7_copyFrom_0 : decode cX7_copyFrom 0 = .ok (.aload_n 0, 1) := by decide +kernel
theorem dX7_copyFrom_1 : decode cX7_copyFrom 1 = .ok (.aload_n 1, 1) := by decide +kernel
theorem dX7_copyFrom_2 : decode cX7_copyFrom 2 = .ok (.getfield 39, 3) := by decide +kernel
theorem dX7_copyFrom_5 : decode cX7_copyFrom 5 = .ok (.putfield 39, 3) := by decide +kernel
theorem dX7_copyFrom_8 : decode cX7_copyFrom 8 = .ok (.aload_n 0, 1) := by decide +kernel
theorem dX7_copyFrom_9 : decode cX7_copyFrom 9 = .ok (.aload_n 1, 1) := by decide +kernel
theorem dX7_copyFrom_10 : decode cX7_copyFrom 10 = .ok (.getfield 42, 3) := by decide +kernel
theorem dX7_copyFrom_13 : decode cX7_copyFrom 13 = .ok (.putfield 42, 3) := by decide +kernel
theorem dX7_copyFrom_16 : decode cX7_copyFrom 16 = .ok (.aload_n 0, 1) := by decide +kernel
theorem dX7_copyFrom_17 : decode cX7_copyFrom 17 = .ok (.aload_n 1, 1) := by decide +kernel
theorem dX7_copyFrom_18 : decode cX7_copyFrom 18 = .ok (.getfield 45, 3) := by decide +kernel
theorem dX7_copyFrom_21 : decode cX7_copyFrom 21 = .ok (.putfield 45, 3) := by decide +kernel
theorem dX7_copyFrom_24 : decode cX7_copyFrom 24 = .ok (.aload_n 0, 1) := by decide +kernel
theorem dX7_copyFrom_25 : decode cX7_copyFrom 25 = .ok (.aload_n 1, 1) := by decide +kernel
theorem dX7_copyFrom_26 : decode cX7_copyFrom 26 = .ok (.getfield 9, 3) := by decide +kernel
theorem dX7_copyFrom_29 : decode cX7_copyFrom 29 = .ok (.putfield 9, 3) := by decide +kernel
theorem dX7_copyFrom_32 : decode cX7_copyFrom 32 = .ok (.aload_n 0, 1) := by decide +kernel
theorem dX7_copyFrom_33 : decode cX7_copyFrom 33 = .ok (.aload_n 1, 1) := by decide +kernel
theorem dX7_copyFrom_34 : decode cX7_copyFrom 34 = .ok (.getfield 48, 3) := by decide +kernel
theorem dX7_copyFrom_37 : decode cX7_copyFrom 37 = .ok (.putfield 48, 3) := by decide +kernel
theorem dX7_copyFrom_40 : decode cX7_copyFrom 40 = .ok (.iconst 0, 1) := by decide +kernel
theorem dX7_copyFrom_41 : decode cX7_copyFrom 41 = .ok (.istore_n 2, 1) := by decide +kernel
theorem dX7_copyFrom_42 : decode cX7_copyFrom 42 = .ok (.iload_n 2, 1) := by decide +kernel
theorem dX7_copyFrom_43 : decode cX7_copyFrom 43 = .ok (.bipush 8, 2) := by decide +kernel
theorem dX7_copyFrom_45 : decode cX7_copyFrom 45 = .ok (.if_icmp .ge 27, 3) := by decide +kernel
theorem dX7_copyFrom_48 : decode cX7_copyFrom 48 = .ok (.aload_n 1, 1) := by decide +kernel
theorem dX7_copyFrom_49 : decode cX7_copyFrom 49 = .ok (.getfield 17, 3) := by decide +kernel
theorem dX7_copyFrom_52 : decode cX7_copyFrom 52 = .ok (.iload_n 2, 1) := by decide +kernel
theorem dX7_copyFrom_53 : decode cX7_copyFrom 53 = .ok (.aaload, 1) := by decide +kernel
theorem dX7_copyFrom_54 : decode cX7_copyFrom 54 = .ok (.iconst 0, 1) := by decide +kernel
theorem dX7_copyFrom_55 : decode cX7_copyFrom 55 = .ok (.aload_n 0, 1) := by decide +kernel
theorem dX7_copyFrom_56 : decode cX7_copyFrom 56 = .ok (.getfield 17, 3) := by decide +kernel
theorem dX7_copyFrom_59 : decode cX7_copyFrom 59 = .ok (.iload_n 2, 1) := by decide +kernel
theorem dX7_copyFrom_60 : decode cX7_copyFrom 60 = .ok (.aaload, 1) := by decide +kernel
theorem dX7_copyFrom_61 : decode cX7_copyFrom 61 = .ok (.iconst 0, 1) := by decide +kernel
theorem dX7_copyFrom_62 : decode cX7_copyFrom 62 = .ok (.iconst 3, 1) := by decide +kernel
theorem dX7_copyFrom_63 : decode cX7_copyFrom 63 = .ok (.invokestatic 51, 3) := by decide +kernel
theorem dX7_copyFrom_66 : decode cX7_copyFrom 66 = .ok (.iinc 2 1, 3) := by decide +kernel
theorem dX7_copyFrom_69 : decode cX7_copyFrom 69 = .ok (.goto (-27), 3) := by decide +kernel
theorem dX7_copyFrom_72 : decode cX7_copyFrom 72 = .ok (.iconst 0, 1) := by decide +kernel
theorem dX7_copyFrom_73 : decode cX7_copyFrom 73 = .ok (.istore_n 2, 1) := by decide +kernel
theorem dX7_copyFrom_74 : decode cX7_copyFrom 74 = .ok (.iload_n 2, 1) := by decide +kernel
theorem dX7_copyFrom_75 : decode cX7_copyFrom 75 = .ok (.bipush 28, 2) := by decide +kernel
theorem dX7_copyFrom_77 : decode cX7_copyFrom 77 = .ok (.if_icmp .ge 27, 3) := by decide +kernel
theorem dX7_copyFrom_80 : decode cX7_copyFrom 80 = .ok (.aload_n 1, 1) := by decide +kernel
theorem dX7_copyFrom_81 : decode cX7_copyFrom 81 = .ok (.getfield 30, 3) := by decide +kernel
theorem dX7_copyFrom_84 : decode cX7_copyFrom 84 = .ok (.iload_n 2, 1) := by decide +kernel
theorem dX7_copyFrom_85 : decode cX7_copyFrom 85 = .ok (.aaload, 1) := by decide +kernel
theorem dX7_copyFrom_86 : decode cX7_copyFrom 86 = .ok (.iconst 0, 1) := by decide +kernel
theorem dX7_copyFrom_87 : decode cX7_copyFrom 87 = .ok (.aload_n 0, 1) := by decide +kernel
theorem dX7_copyFrom_88 : decode cX7_copyFrom 88 = .ok (.getfield 30, 3) := by decide +kernel
theorem dX7_copyFrom_91 : decode cX7_copyFrom 91 = .ok (.iload_n 2, 1) := by decide +kernel
theorem dX7_copyFrom_92 : decode cX7_copyFrom 92 = .ok (.aaload, 1) := by decide +kernel
theorem dX7_copyFrom_93 : decode cX7_copyFrom 93 = .ok (.iconst 0, 1) := by decide +kernel
theorem dX7_copyFrom_94 : decode cX7_copyFrom 94 = .ok (.iconst 3, 1) := by decide +kernel
theorem dX7_copyFrom_95 : decode cX7_copyFrom 95 = .ok (.invokestatic 51, 3) := by decide +kernel
theorem dX7_copyFrom_98 : decode cX7_copyFrom 98 = .ok (.iinc 2 1, 3) := by decide +kernel
theorem dX7_copyFrom_101 : decode cX7_copyFrom 101 = .ok (.goto (-27), 3) := by decide +kernel
theorem dX7_copyFrom_104 : decode cX7_copyFrom 104 = .ok (.iconst 0, 1) := by decide +kernel
theorem dX7_copyFrom_105 : decode cX7_copyFrom 105 = .ok (.istore_n 2, 1) := by decide +kernel
theorem dX7_copyFrom_106 : decode cX7_copyFrom 106 = .ok (.iload_n 2, 1) := by decide +kernel
theorem dX7_copyFrom_107 : decode cX7_copyFrom 107 = .ok (.bipush 6, 2) := by decide +kernel
theorem dX7_copyFrom_109 : decode cX7_copyFrom 109 = .ok (.if_icmp .ge 28, 3) := by decide +kernel
theorem dX7_copyFrom_112 : decode cX7_copyFrom 112 = .ok (.aload_n 1, 1) := by decide +kernel
theorem dX7_copyFrom_113 : decode cX7_copyFrom 113 = .ok (.getfield 33, 3) := by decide +kernel
theorem dX7_copyFrom_116 : decode cX7_copyFrom 116 = .ok (.iload_n 2, 1) := by decide +kernel
theorem dX7_copyFrom_117 : decode cX7_copyFrom 117 = .ok (.aaload, 1) := by decide +kernel
theorem dX7_copyFrom_118 : decode cX7_copyFrom 118 = .ok (.iconst 0, 1) := by decide +kernel
theorem dX7_copyFrom_119 : decode cX7_copyFrom 119 = .ok (.aload_n 0, 1) := by decide +kernel
theorem dX7_copyFrom_120 : decode cX7_copyFrom 120 = .ok (.getfield 33, 3) := by decide +kernel
theorem dX7_copyFrom_123 : decode cX7_copyFrom 123 = .ok (.iload_n 2, 1) := by decide +kernel
theorem dX7_copyFrom_124 : decode cX7_copyFrom 124 = .ok (.aaload, 1) := by decide +kernel
theorem dX7_copyFrom_125 : decode cX7_copyFrom 125 = .ok (.iconst 0, 1) := by decide +kernel
theorem dX7_copyFrom_126 : decode cX7_copyFrom 126 = .ok (.bipush 6, 2) := by decide +kernel
theorem dX7_copyFrom_128 : decode cX7_copyFrom 128 = .ok (.invokestatic 51, 3) := by decide +kernel
theorem dX7_copyFrom_131 : decode cX7_copyFrom 131 = .ok (.iinc 2 1, 3) := by decide +kernel
theorem dX7_copyFrom_134 : decode cX7_copyFrom 134 = .ok (.goto (-28), 3) := by decide +kernel
theorem dX7_copyFrom_137 : decode cX7_copyFrom 137 = .ok (.aload_n 1, 1) := by decide +kernel
theorem dX7_copyFrom_138 : decode cX7_copyFrom 138 = .ok (.getfield 20, 3) := by decide +kernel
theorem dX7_copyFrom_141 : decode cX7_copyFrom 141 = .ok (.iconst 0, 1) := by decide +kernel
theorem dX7_copyFrom_142 : decode cX7_copyFrom 142 = .ok (.aload_n 0, 1) := by decide +kernel
theorem dX7_copyFrom_143 : decode cX7_copyFrom 143 = .ok (.getfield 20, 3) := by decide +kernel
theorem dX7_copyFrom_146 : decode cX7_copyFrom 146 = .ok (.iconst 0, 1) := by decide +kernel
theorem dX7_copyFrom_147 : decode cX7_copyFrom 147 = .ok (.bipush 8, 2) := by decide +kernel
theorem dX7_copyFrom_149 : decode cX7_copyFrom 149 = .ok (.invokestatic 51, 3) := by decide +kernel
theorem dX7_copyFrom_152 : decode cX7_copyFrom 152 = .ok (.aload_n 1, 1) := by decide +kernel
theorem dX7_copyFrom_153 : decode cX7_copyFrom 153 = .ok (.getfield 24, 3) := by decide +kernel
theorem dX7_copyFrom_156 : decode cX7_copyFrom 156 = .ok (.iconst 0, 1) := by decide +kernel
theorem dX7_copyFrom_157 : decode cX7_copyFrom 157 = .ok (.aload_n 0, 1) := by decide +kernel
theorem dX7_copyFrom_158 : decode cX7_copyFrom 158 = .ok (.getfield 24, 3) := by decide +kernel
theorem dX7_copyFrom_161 : decode cX7_copyFrom 161 = .ok (.iconst 0, 1) := by decide +kernel
theorem dX7_copyFrom_162 : decode cX7_copyFrom 162 = .ok (.bipush 8, 2) := by decide +kernel
theorem dX7_copyFrom_164 : decode cX7_copyFrom 164 = .ok (.invokestatic 51, 3) := by decide +kernel
theorem dX7_copyFrom_167 : decode cX7_copyFrom 167 = .ok (.aload_n 1, 1) := by decide +kernel
theorem dX7_copyFrom_168 : decode cX7_copyFrom 168 = .ok (.getfield 27, 3) := by decide +kernel
theorem dX7_copyFrom_171 : decode cX7_copyFrom 171 = .ok (.iconst 0, 1) := by decide +kernel
theorem dX7_copyFrom_172 : decode cX7_copyFrom 172 = .ok (.aload_n 0, 1) := by decide +kernel
theorem dX7_copyFrom_173 : decode cX7_copyFrom 173 = .ok (.getfield 27, 3) := by decide +kernel
theorem dX7_copyFrom_176 : decode cX7_copyFrom 176 = .ok (.iconst 0, 1) := by decide +kernel
theorem dX7_copyFrom_177 : decode cX7_copyFrom 177 = .ok (.bipush 28, 2) := by decide +kernel
theorem dX7_copyFrom_179 : decode cX7_copyFrom 179 = .ok (.invokestatic 51, 3) := by decide +kernel
theorem dX7_copyFrom_182 : decode cX7_copyFrom 182 = .ok (.aload_n 1, 1) := by decide +kernel
theorem dX7_copyFrom_183 : decode cX7_copyFrom 183 = .ok (.getfield 36, 3) := by decide +kernel
theorem dX7_copyFrom_186 : decode cX7_copyFrom 186 = .ok (.iconst 0, 1) := by decide +kernel
theorem dX7_copyFrom_187 : decode cX7_copyFrom 187 = .ok (.aload_n 0, 1) := by decide +kernel
theorem dX7_copyFrom_188 : decode cX7_copyFrom 188 = .ok (.getfield 36, 3) := by decide +kernel
theorem dX7_copyFrom_191 : decode cX7_copyFrom 191 = .ok (.iconst 0, 1) := by decide +kernel
theorem dX7_copyFrom_192 : decode cX7_copyFrom 192 = .ok (.iconst 4, 1) := by decide +kernel
theorem dX7_copyFrom_193 : decode cX7_copyFrom 193 = .ok (.invokestatic 51, 3) := by decide +kernel
theorem dX7_copyFrom_196 : decode cX7_copyFrom 196 = .ok (.return_, 1) := by decide +kernel
theorem dX7_hasHolder_0 : decode cX7_hasHolder 0 = .ok (.iload_n 1, 1) := by decide +kernel
theorem dX7_hasHolder_1 : decode cX7_hasHolder 1 = .ok (.ifCond .lt 15, 3) := by decide +kernel
theorem dX7_hasHolder_4 : decode cX7_hasHolder 4 = .ok (.iload_n 1, 1) := by decide +kernel
theorem dX7_hasHolder_5 : decode cX7_hasHolder 5 = .ok (.aload_n 0, 1) := by decide +kernel
theorem dX7_hasHolder_6 : decode cX7_hasHolder 6 = .ok (.getfield 39, 3) := by decide +kernel
theorem dX7_hasHolder_9 : decode cX7_hasHolder 9 = .ok (.if_icmp .ge 7, 3) := by decide +kernel
theorem dX7_hasHolder_12 : decode cX7_hasHolder 12 = .ok (.iconst 1, 1) := by decide +kernel
theorem dX7_hasHolder_13 : decode cX7_hasHolder 13 = .ok (.goto 4, 3) := by decide +kernel
theorem dX7_hasHolder_16 : decode cX7_hasHolder 16 = .ok (.iconst 0, 1) := by decide +kernel
theorem dX7_hasHolder_17 : decode cX7_hasHolder 17 = .ok (.ireturn, 1) := by decide +kernel
theorem dX7_hasWork_0 : decode cX7_hasWork 0 = .ok (.iload_n 1, 1) := by decide +kernel
theorem dX7_hasWork_1 : decode cX7_hasWork 1 = .ok (.ifCond .lt 15, 3) := by decide +kernel
theorem dX7_hasWork_4 : decode cX7_hasWork 4 = .ok (.iload_n 1, 1) := by decide +kernel
theorem dX7_hasWork_5 : decode cX7_hasWork 5 = .ok (.aload_n 0, 1) := by decide +kernel
theorem dX7_hasWork_6 : decode cX7_hasWork 6 = .ok (.getfield 42, 3) := by decide +kernel
theorem dX7_hasWork_9 : decode cX7_hasWork 9 = .ok (.if_icmp .ge 7, 3) := by decide +kernel
theorem dX7_hasWork_12 : decode cX7_hasWork 12 = .ok (.iconst 1, 1) := by decide +kernel
theorem dX7_hasWork_13 : decode cX7_hasWork 13 = .ok (.goto 4, 3) := by decide +kernel
theorem dX7_hasWork_16 : decode cX7_hasWork 16 = .ok (.iconst 0, 1) := by decide +kernel
theorem dX7_hasWork_17 : decode cX7_hasWork 17 = .ok (.ireturn, 1) := by decide +kernel
theorem dX7_everyone_0 : decode cX7_everyone 0 = .ok (.iconst 1, 1) := by decide +kernel
theorem dX7_everyone_1 : decode cX7_everyone 1 = .ok (.aload_n 0, 1) := by decide +kernel
theorem dX7_everyone_2 : decode cX7_everyone 2 = .ok (.getfield 39, 3) := by decide +kernel
theorem dX7_everyone_5 : decode cX7_everyone 5 = .ok (.ishl, 1) := by decide +kernel
theorem dX7_everyone_6 : decode cX7_everyone 6 = .ok (.iconst 1, 1) := by decide +kernel
theorem dX7_everyone_7 : decode cX7_everyone 7 = .ok (.isub, 1) := by decide +kernel
theorem dX7_everyone_8 : decode cX7_everyone 8 = .ok (.ireturn, 1) := by decide +kernel
theorem dX7_holds_0 : decode cX7_holds 0 = .ok (.aload_n 0, 1) := by decide +kernel
theorem dX7_holds_1 : decode cX7_holds 1 = .ok (.getfield 20, 3) := by decide +kernel
theorem dX7_holds_4 : decode cX7_holds 4 = .ok (.iload_n 1, 1) := by decide +kernel
theorem dX7_holds_5 : decode cX7_holds 5 = .ok (.iaload, 1) := by decide +kernel
theorem dX7_holds_6 : decode cX7_holds 6 = .ok (.iload_n 2, 1) := by decide +kernel
theorem dX7_holds_7 : decode cX7_holds 7 = .ok (.invokestatic 57, 3) := by decide +kernel
theorem dX7_holds_10 : decode cX7_holds 10 = .ok (.ireturn, 1) := by decide +kernel
theorem dX7_rowWorks_0 : decode cX7_rowWorks 0 = .ok (.iconst 0, 1) := by decide +kernel
theorem dX7_rowWorks_1 : decode cX7_rowWorks 1 = .ok (.istore_n 1, 1) := by decide +kernel
theorem dX7_rowWorks_2 : decode cX7_rowWorks 2 = .ok (.iconst 0, 1) := by decide +kernel
theorem dX7_rowWorks_3 : decode cX7_rowWorks 3 = .ok (.istore_n 2, 1) := by decide +kernel
theorem dX7_rowWorks_4 : decode cX7_rowWorks 4 = .ok (.iload_n 2, 1) := by decide +kernel
theorem dX7_rowWorks_5 : decode cX7_rowWorks 5 = .ok (.aload_n 0, 1) := by decide +kernel
theorem dX7_rowWorks_6 : decode cX7_rowWorks 6 = .ok (.getfield 42, 3) := by decide +kernel
theorem dX7_rowWorks_9 : decode cX7_rowWorks 9 = .ok (.if_icmp .ge 22, 3) := by decide +kernel
theorem dX7_rowWorks_12 : decode cX7_rowWorks 12 = .ok (.iload_n 1, 1) := by decide +kernel
theorem dX7_rowWorks_13 : decode cX7_rowWorks 13 = .ok (.iconst 1, 1) := by decide +kernel
theorem dX7_rowWorks_14 : decode cX7_rowWorks 14 = .ok (.aload_n 0, 1) := by decide +kernel
theorem dX7_rowWorks_15 : decode cX7_rowWorks 15 = .ok (.getfield 33, 3) := by decide +kernel
theorem dX7_rowWorks_18 : decode cX7_rowWorks 18 = .ok (.iload_n 2, 1) := by decide +kernel
theorem dX7_rowWorks_19 : decode cX7_rowWorks 19 = .ok (.aaload, 1) := by decide +kernel
theorem dX7_rowWorks_20 : decode cX7_rowWorks 20 = .ok (.iconst 1, 1) := by decide +kernel
theorem dX7_rowWorks_21 : decode cX7_rowWorks 21 = .ok (.iaload, 1) := by decide +kernel
theorem dX7_rowWorks_22 : decode cX7_rowWorks 22 = .ok (.isub, 1) := by decide +kernel
theorem dX7_rowWorks_23 : decode cX7_rowWorks 23 = .ok (.iadd, 1) := by decide +kernel
theorem dX7_rowWorks_24 : decode cX7_rowWorks 24 = .ok (.istore_n 1, 1) := by decide +kernel
theorem dX7_rowWorks_25 : decode cX7_rowWorks 25 = .ok (.iinc 2 1, 3) := by decide +kernel
theorem dX7_rowWorks_28 : decode cX7_rowWorks 28 = .ok (.goto (-24), 3) := by decide +kernel
theorem dX7_rowWorks_31 : decode cX7_rowWorks 31 = .ok (.iload_n 1, 1) := by decide +kernel
theorem dX7_rowWorks_32 : decode cX7_rowWorks 32 = .ok (.ireturn, 1) := by decide +kernel
theorem dX7_hoursOfNobody_0 : decode cX7_hoursOfNobody 0 = .ok (.iconst 0, 1) := by decide +kernel
theorem dX7_hoursOfNobody_1 : decode cX7_hoursOfNobody 1 = .ok (.istore_n 1, 1) := by decide +kernel
theorem dX7_hoursOfNobody_2 : decode cX7_hoursOfNobody 2 = .ok (.iconst 0, 1) := by decide +kernel
theorem dX7_hoursOfNobody_3 : decode cX7_hoursOfNobody 3 = .ok (.istore_n 2, 1) := by decide +kernel
theorem dX7_hoursOfNobody_4 : decode cX7_hoursOfNobody 4 = .ok (.iload_n 2, 1) := by decide +kernel
theorem dX7_hoursOfNobody_5 : decode cX7_hoursOfNobody 5 = .ok (.bipush 28, 2) := by decide +kernel
theorem dX7_hoursOfNobody_7 : decode cX7_hoursOfNobody 7 = .ok (.if_icmp .ge 21, 3) := by decide +kernel
theorem dX7_hoursOfNobody_10 : decode cX7_hoursOfNobody 10 = .ok (.aload_n 0, 1) := by decide +kernel
theorem dX7_hoursOfNobody_11 : decode cX7_hoursOfNobody 11 = .ok (.getfield 27, 3) := by decide +kernel
theorem dX7_hoursOfNobody_14 : decode cX7_hoursOfNobody 14 = .ok (.iload_n 2, 1) := by decide +kernel
theorem dX7_hoursOfNobody_15 : decode cX7_hoursOfNobody 15 = .ok (.iaload, 1) := by decide +kernel
theorem dX7_hoursOfNobody_16 : decode cX7_hoursOfNobody 16 = .ok (.ifCond .ne 6, 3) := by decide +kernel
theorem dX7_hoursOfNobody_19 : decode cX7_hoursOfNobody 19 = .ok (.iinc 1 1, 3) := by decide +kernel
theorem dX7_hoursOfNobody_22 : decode cX7_hoursOfNobody 22 = .ok (.iinc 2 1, 3) := by decide +kernel
theorem dX7_hoursOfNobody_25 : decode cX7_hoursOfNobody 25 = .ok (.goto (-21), 3) := by decide +kernel
theorem dX7_hoursOfNobody_28 : decode cX7_hoursOfNobody 28 = .ok (.iload_n 1, 1) := by decide +kernel
theorem dX7_hoursOfNobody_29 : decode cX7_hoursOfNobody 29 = .ok (.ireturn, 1) := by decide +kernel
theorem dX7_allParts_0 : decode cX7_allParts 0 = .ok (.iconst 0, 1) := by decide +kernel
theorem dX7_allParts_1 : decode cX7_allParts 1 = .ok (.istore_n 1, 1) := by decide +kernel
theorem dX7_allParts_2 : decode cX7_allParts 2 = .ok (.iconst 0, 1) := by decide +kernel
theorem dX7_allParts_3 : decode cX7_allParts 3 = .ok (.istore_n 2, 1) := by decide +kernel
theorem dX7_allParts_4 : decode cX7_allParts 4 = .ok (.iload_n 2, 1) := by decide +kernel
theorem dX7_allParts_5 : decode cX7_allParts 5 = .ok (.bipush 28, 2) := by decide +kernel
theorem dX7_allParts_7 : decode cX7_allParts 7 = .ok (.if_icmp .ge 18, 3) := by decide +kernel
theorem dX7_allParts_10 : decode cX7_allParts 10 = .ok (.iload_n 1, 1) := by decide +kernel
theorem dX7_allParts_11 : decode cX7_allParts 11 = .ok (.aload_n 0, 1) := by decide +kernel
theorem dX7_allParts_12 : decode cX7_allParts 12 = .ok (.getfield 27, 3) := by decide +kernel
theorem dX7_allParts_15 : decode cX7_allParts 15 = .ok (.iload_n 2, 1) := by decide +kernel
theorem dX7_allParts_16 : decode cX7_allParts 16 = .ok (.iaload, 1) := by decide +kernel
theorem dX7_allParts_17 : decode cX7_allParts 17 = .ok (.iadd, 1) := by decide +kernel
theorem dX7_allParts_18 : decode cX7_allParts 18 = .ok (.istore_n 1, 1) := by decide +kernel
theorem dX7_allParts_19 : decode cX7_allParts 19 = .ok (.iinc 2 1, 3) := by decide +kernel
theorem dX7_allParts_22 : decode cX7_allParts 22 = .ok (.goto (-18), 3) := by decide +kernel
theorem dX7_allParts_25 : decode cX7_allParts 25 = .ok (.iload_n 1, 1) := by decide +kernel
theorem dX7_allParts_26 : decode cX7_allParts 26 = .ok (.ireturn, 1) := by decide +kernel
theorem dX7_addHolder_0 : decode cX7_addHolder 0 = .ok (.aload_n 0, 1) := by decide +kernel
theorem dX7_addHolder_1 : decode cX7_addHolder 1 = .ok (.getfield 39, 3) := by decide +kernel
theorem dX7_addHolder_4 : decode cX7_addHolder 4 = .ok (.bipush 8, 2) := by decide +kernel
theorem dX7_addHolder_6 : decode cX7_addHolder 6 = .ok (.if_icmp .lt 5, 3) := by decide +kernel
theorem dX7_addHolder_9 : decode cX7_addHolder 9 = .ok (.iconst 0, 1) := by decide +kernel
theorem dX7_addHolder_10 : decode cX7_addHolder 10 = .ok (.ireturn, 1) := by decide +kernel
theorem dX7_addHolder_11 : decode cX7_addHolder 11 = .ok (.aload_n 1, 1) := by decide +kernel
theorem dX7_addHolder_12 : decode cX7_addHolder 12 = .ok (.iconst 0, 1) := by decide +kernel
theorem dX7_addHolder_13 : decode cX7_addHolder 13 = .ok (.aload_n 0, 1) := by decide +kernel
theorem dX7_addHolder_14 : decode cX7_addHolder 14 = .ok (.getfield 17, 3) := by decide +kernel
theorem dX7_addHolder_17 : decode cX7_addHolder 17 = .ok (.aload_n 0, 1) := by decide +kernel
theorem dX7_addHolder_18 : decode cX7_addHolder 18 = .ok (.getfield 39, 3) := by decide +kernel
theorem dX7_addHolder_21 : decode cX7_addHolder 21 = .ok (.aaload, 1) := by decide +kernel
theorem dX7_addHolder_22 : decode cX7_addHolder 22 = .ok (.iconst 0, 1) := by decide +kernel
theorem dX7_addHolder_23 : decode cX7_addHolder 23 = .ok (.iconst 3, 1) := by decide +kernel
theorem dX7_addHolder_24 : decode cX7_addHolder 24 = .ok (.invokestatic 51, 3) := by decide +kernel
theorem dX7_addHolder_27 : decode cX7_addHolder 27 = .ok (.aload_n 0, 1) := by decide +kernel
theorem dX7_addHolder_28 : decode cX7_addHolder 28 = .ok (.dup, 1) := by decide +kernel
theorem dX7_addHolder_29 : decode cX7_addHolder 29 = .ok (.getfield 39, 3) := by decide +kernel
theorem dX7_addHolder_32 : decode cX7_addHolder 32 = .ok (.iconst 1, 1) := by decide +kernel
theorem dX7_addHolder_33 : decode cX7_addHolder 33 = .ok (.iadd, 1) := by decide +kernel
theorem dX7_addHolder_34 : decode cX7_addHolder 34 = .ok (.putfield 39, 3) := by decide +kernel
theorem dX7_addHolder_37 : decode cX7_addHolder 37 = .ok (.iconst 1, 1) := by decide +kernel
theorem dX7_addHolder_38 : decode cX7_addHolder 38 = .ok (.ireturn, 1) := by decide +kernel
theorem dX7_addWork_0 : decode cX7_addWork 0 = .ok (.aload_n 0, 1) := by decide +kernel
theorem dX7_addWork_1 : decode cX7_addWork 1 = .ok (.getfield 42, 3) := by decide +kernel
theorem dX7_addWork_4 : decode cX7_addWork 4 = .ok (.bipush 6, 2) := by decide +kernel
theorem dX7_addWork_6 : decode cX7_addWork 6 = .ok (.if_icmp .ge 22, 3) := by decide +kernel
theorem dX7_addWork_9 : decode cX7_addWork 9 = .ok (.aload_n 0, 1) := by decide +kernel
theorem dX7_addWork_10 : decode cX7_addWork 10 = .ok (.aload_n 1, 1) := by decide +kernel
theorem dX7_addWork_11 : decode cX7_addWork 11 = .ok (.iconst 0, 1) := by decide +kernel
theorem dX7_addWork_12 : decode cX7_addWork 12 = .ok (.iaload, 1) := by decide +kernel
theorem dX7_addWork_13 : decode cX7_addWork 13 = .ok (.invokevirtual 61, 3) := by decide +kernel
theorem dX7_addWork_16 : decode cX7_addWork 16 = .ok (.ifCond .eq 12, 3) := by decide +kernel
theorem dX7_addWork_19 : decode cX7_addWork 19 = .ok (.aload_n 1, 1) := by decide +kernel
theorem dX7_addWork_20 : decode cX7_addWork 20 = .ok (.iconst 3, 1) := by decide +kernel
theorem dX7_addWork_21 : decode cX7_addWork 21 = .ok (.iaload, 1) := by decide +kernel
theorem dX7_addWork_22 : decode cX7_addWork 22 = .ok (.invokestatic 65, 3) := by decide +kernel
theorem dX7_addWork_25 : decode cX7_addWork 25 = .ok (.ifCond .ne 5, 3) := by decide +kernel
theorem dX7_addWork_28 : decode cX7_addWork 28 = .ok (.iconst 0, 1) := by decide +kernel
theorem dX7_addWork_29 : decode cX7_addWork 29 = .ok (.ireturn, 1) := by decide +kernel
theorem dX7_addWork_30 : decode cX7_addWork 30 = .ok (.aload_n 1, 1) := by decide +kernel
theorem dX7_addWork_31 : decode cX7_addWork 31 = .ok (.iconst 2, 1) := by decide +kernel
theorem dX7_addWork_32 : decode cX7_addWork 32 = .ok (.iaload, 1) := by decide +kernel
theorem dX7_addWork_33 : decode cX7_addWork 33 = .ok (.iconst 1, 1) := by decide +kernel
theorem dX7_addWork_34 : decode cX7_addWork 34 = .ok (.if_icmp .lt 11, 3) := by decide +kernel
theorem dX7_addWork_37 : decode cX7_addWork 37 = .ok (.aload_n 1, 1) := by decide +kernel
theorem dX7_addWork_38 : decode cX7_addWork 38 = .ok (.iconst 2, 1) := by decide +kernel
theorem dX7_addWork_39 : decode cX7_addWork 39 = .ok (.iaload, 1) := by decide +kernel
theorem dX7_addWork_40 : decode cX7_addWork 40 = .ok (.bipush 6, 2) := by decide +kernel
theorem dX7_addWork_42 : decode cX7_addWork 42 = .ok (.if_icmp .le 5, 3) := by decide +kernel
theorem dX7_addWork_45 : decode cX7_addWork 45 = .ok (.iconst 0, 1) := by decide +kernel
theorem dX7_addWork_46 : decode cX7_addWork 46 = .ok (.ireturn, 1) := by decide +kernel
theorem dX7_addWork_47 : decode cX7_addWork 47 = .ok (.aload_n 1, 1) := by decide +kernel
theorem dX7_addWork_48 : decode cX7_addWork 48 = .ok (.iconst 0, 1) := by decide +kernel
theorem dX7_addWork_49 : decode cX7_addWork 49 = .ok (.aload_n 0, 1) := by decide +kernel
theorem dX7_addWork_50 : decode cX7_addWork 50 = .ok (.getfield 33, 3) := by decide +kernel
theorem dX7_addWork_53 : decode cX7_addWork 53 = .ok (.aload_n 0, 1) := by decide +kernel
theorem dX7_addWork_54 : decode cX7_addWork 54 = .ok (.getfield 42, 3) := by decide +kernel
theorem dX7_addWork_57 : decode cX7_addWork 57 = .ok (.aaload, 1) := by decide +kernel
theorem dX7_addWork_58 : decode cX7_addWork 58 = .ok (.iconst 0, 1) := by decide +kernel
theorem dX7_addWork_59 : decode cX7_addWork 59 = .ok (.bipush 6, 2) := by decide +kernel
theorem dX7_addWork_61 : decode cX7_addWork 61 = .ok (.invokestatic 51, 3) := by decide +kernel
theorem dX7_addWork_64 : decode cX7_addWork 64 = .ok (.aload_n 0, 1) := by decide +kernel
theorem dX7_addWork_65 : decode cX7_addWork 65 = .ok (.dup, 1) := by decide +kernel
theorem dX7_addWork_66 : decode cX7_addWork 66 = .ok (.getfield 42, 3) := by decide +kernel
theorem dX7_addWork_69 : decode cX7_addWork 69 = .ok (.iconst 1, 1) := by decide +kernel
theorem dX7_addWork_70 : decode cX7_addWork 70 = .ok (.iadd, 1) := by decide +kernel
theorem dX7_addWork_71 : decode cX7_addWork 71 = .ok (.putfield 42, 3) := by decide +kernel
theorem dX7_addWork_74 : decode cX7_addWork 74 = .ok (.iconst 1, 1) := by decide +kernel
theorem dX7_addWork_75 : decode cX7_addWork 75 = .ok (.ireturn, 1) := by decide +kernel
theorem dX7_addParts_0 : decode cX7_addParts 0 = .ok (.aload_n 0, 1) := by decide +kernel
theorem dX7_addParts_1 : decode cX7_addParts 1 = .ok (.iload_n 1, 1) := by decide +kernel
theorem dX7_addParts_2 : decode cX7_addParts 2 = .ok (.invokevirtual 61, 3) := by decide +kernel
theorem dX7_addParts_5 : decode cX7_addParts 5 = .ok (.ifCond .eq 22, 3) := by decide +kernel
theorem dX7_addParts_8 : decode cX7_addParts 8 = .ok (.iload_n 2, 1) := by decide +kernel
theorem dX7_addParts_9 : decode cX7_addParts 9 = .ok (.invokestatic 65, 3) := by decide +kernel
theorem dX7_addParts_12 : decode cX7_addParts 12 = .ok (.ifCond .eq 15, 3) := by decide +kernel
theorem dX7_addParts_15 : decode cX7_addParts 15 = .ok (.iload_n 3, 1) := by decide +kernel
theorem dX7_addParts_16 : decode cX7_addParts 16 = .ok (.invokestatic 65, 3) := by decide +kernel
theorem dX7_addParts_19 : decode cX7_addParts 19 = .ok (.ifCond .eq 8, 3) := by decide +kernel
theorem dX7_addParts_22 : decode cX7_addParts 22 = .ok (.iload_n 2, 1) := by decide +kernel
theorem dX7_addParts_23 : decode cX7_addParts 23 = .ok (.iload_n 3, 1) := by decide +kernel
theorem dX7_addParts_24 : decode cX7_addParts 24 = .ok (.if_icmp .le 5, 3) := by decide +kernel
theorem dX7_addParts_27 : decode cX7_addParts 27 = .ok (.iconst 0, 1) := by decide +kernel
theorem dX7_addParts_28 : decode cX7_addParts 28 = .ok (.ireturn, 1) := by decide +kernel
theorem dX7_addParts_29 : decode cX7_addParts 29 = .ok (.iload_n 2, 1) := by decide +kernel
theorem dX7_addParts_30 : decode cX7_addParts 30 = .ok (.istore 4, 2) := by decide +kernel
theorem dX7_addParts_32 : decode cX7_addParts 32 = .ok (.iload 4, 2) := by decide +kernel
theorem dX7_addParts_34 : decode cX7_addParts 34 = .ok (.iload_n 3, 1) := by decide +kernel
theorem dX7_addParts_35 : decode cX7_addParts 35 = .ok (.if_icmp .gt 39, 3) := by decide +kernel
theorem dX7_addParts_38 : decode cX7_addParts 38 = .ok (.aload_n 0, 1) := by decide +kernel
theorem dX7_addParts_39 : decode cX7_addParts 39 = .ok (.getfield 27, 3) := by decide +kernel
theorem dX7_addParts_42 : decode cX7_addParts 42 = .ok (.iload 4, 2) := by decide +kernel
theorem dX7_addParts_44 : decode cX7_addParts 44 = .ok (.iaload, 1) := by decide +kernel
theorem dX7_addParts_45 : decode cX7_addParts 45 = .ok (.iconst 3, 1) := by decide +kernel
theorem dX7_addParts_46 : decode cX7_addParts 46 = .ok (.if_icmp .ge 13, 3) := by decide +kernel
theorem dX7_addParts_49 : decode cX7_addParts 49 = .ok (.aload_n 0, 1) := by decide +kernel
theorem dX7_addParts_50 : decode cX7_addParts 50 = .ok (.iload_n 1, 1) := by decide +kernel
theorem dX7_addParts_51 : decode cX7_addParts 51 = .ok (.iload 4, 2) := by decide +kernel
theorem dX7_addParts_53 : decode cX7_addParts 53 = .ok (.invokevirtual 68, 3) := by decide +kernel
theorem dX7_addParts_56 : decode cX7_addParts 56 = .ok (.ifCond .eq 5, 3) := by decide +kernel
theorem dX7_addParts_59 : decode cX7_addParts 59 = .ok (.iconst 0, 1) := by decide +kernel
theorem dX7_addParts_60 : decode cX7_addParts 60 = .ok (.ireturn, 1) := by decide +kernel
theorem dX7_addParts_61 : decode cX7_addParts 61 = .ok (.aload_n 0, 1) := by decide +kernel
theorem dX7_addParts_62 : decode cX7_addParts 62 = .ok (.iload_n 1, 1) := by decide +kernel
theorem dX7_addParts_63 : decode cX7_addParts 63 = .ok (.iload 4, 2) := by decide +kernel
theorem dX7_addParts_65 : decode cX7_addParts 65 = .ok (.invokevirtual 71, 3) := by decide +kernel
theorem dX7_addParts_68 : decode cX7_addParts 68 = .ok (.iinc 4 1, 3) := by decide +kernel
theorem dX7_addParts_71 : decode cX7_addParts 71 = .ok (.goto (-39), 3) := by decide +kernel
theorem dX7_addParts_74 : decode cX7_addParts 74 = .ok (.iconst 1, 1) := by decide +kernel
theorem dX7_addParts_75 : decode cX7_addParts 75 = .ok (.ireturn, 1) := by decide +kernel
theorem dX7_addPart_0 : decode cX7_addPart 0 = .ok (.aload_n 0, 1) := by decide +kernel
theorem dX7_addPart_1 : decode cX7_addPart 1 = .ok (.getfield 30, 3) := by decide +kernel
theorem dX7_addPart_4 : decode cX7_addPart 4 = .ok (.iload_n 2, 1) := by decide +kernel
theorem dX7_addPart_5 : decode cX7_addPart 5 = .ok (.aaload, 1) := by decide +kernel
theorem dX7_addPart_6 : decode cX7_addPart 6 = .ok (.aload_n 0, 1) := by decide +kernel
theorem dX7_addPart_7 : decode cX7_addPart 7 = .ok (.getfield 27, 3) := by decide +kernel
theorem dX7_addPart_10 : decode cX7_addPart 10 = .ok (.iload_n 2, 1) := by decide +kernel
theorem dX7_addPart_11 : decode cX7_addPart 11 = .ok (.iaload, 1) := by decide +kernel
theorem dX7_addPart_12 : decode cX7_addPart 12 = .ok (.iload_n 1, 1) := by decide +kernel
theorem dX7_addPart_13 : decode cX7_addPart 13 = .ok (.iastore, 1) := by decide +kernel
theorem dX7_addPart_14 : decode cX7_addPart 14 = .ok (.aload_n 0, 1) := by decide +kernel
theorem dX7_addPart_15 : decode cX7_addPart 15 = .ok (.getfield 27, 3) := by decide +kernel
theorem dX7_addPart_18 : decode cX7_addPart 18 = .ok (.iload_n 2, 1) := by decide +kernel
theorem dX7_addPart_19 : decode cX7_addPart 19 = .ok (.dup2, 1) := by decide +kernel
theorem dX7_addPart_20 : decode cX7_addPart 20 = .ok (.iaload, 1) := by decide +kernel
theorem dX7_addPart_21 : decode cX7_addPart 21 = .ok (.iconst 1, 1) := by decide +kernel
theorem dX7_addPart_22 : decode cX7_addPart 22 = .ok (.iadd, 1) := by decide +kernel
theorem dX7_addPart_23 : decode cX7_addPart 23 = .ok (.iastore, 1) := by decide +kernel
theorem dX7_addPart_24 : decode cX7_addPart 24 = .ok (.aload_n 0, 1) := by decide +kernel
theorem dX7_addPart_25 : decode cX7_addPart 25 = .ok (.getfield 20, 3) := by decide +kernel
theorem dX7_addPart_28 : decode cX7_addPart 28 = .ok (.iload_n 1, 1) := by decide +kernel
theorem dX7_addPart_29 : decode cX7_addPart 29 = .ok (.dup2, 1) := by decide +kernel
theorem dX7_addPart_30 : decode cX7_addPart 30 = .ok (.iaload, 1) := by decide +kernel
theorem dX7_addPart_31 : decode cX7_addPart 31 = .ok (.iconst 1, 1) := by decide +kernel
theorem dX7_addPart_32 : decode cX7_addPart 32 = .ok (.iload_n 2, 1) := by decide +kernel
theorem dX7_addPart_33 : decode cX7_addPart 33 = .ok (.ishl, 1) := by decide +kernel
theorem dX7_addPart_34 : decode cX7_addPart 34 = .ok (.ior, 1) := by decide +kernel
theorem dX7_addPart_35 : decode cX7_addPart 35 = .ok (.iastore, 1) := by decide +kernel
theorem dX7_addPart_36 : decode cX7_addPart 36 = .ok (.return_, 1) := by decide +kernel
theorem dX7_takeOnlyPart_0 : decode cX7_takeOnlyPart 0 = .ok (.aload_n 0, 1) := by decide +kernel
theorem dX7_takeOnlyPart_1 : decode cX7_takeOnlyPart 1 = .ok (.getfield 27, 3) := by decide +kernel
theorem dX7_takeOnlyPart_4 : decode cX7_takeOnlyPart 4 = .ok (.iload_n 2, 1) := by decide +kernel
theorem dX7_takeOnlyPart_5 : decode cX7_takeOnlyPart 5 = .ok (.iconst 0, 1) := by decide +kernel
theorem dX7_takeOnlyPart_6 : decode cX7_takeOnlyPart 6 = .ok (.iastore, 1) := by decide +kernel
theorem dX7_takeOnlyPart_7 : decode cX7_takeOnlyPart 7 = .ok (.aload_n 0, 1) := by decide +kernel
theorem dX7_takeOnlyPart_8 : decode cX7_takeOnlyPart 8 = .ok (.getfield 20, 3) := by decide +kernel
theorem dX7_takeOnlyPart_11 : decode cX7_takeOnlyPart 11 = .ok (.iload_n 1, 1) := by decide +kernel
theorem dX7_takeOnlyPart_12 : decode cX7_takeOnlyPart 12 = .ok (.dup2, 1) := by decide +kernel
theorem dX7_takeOnlyPart_13 : decode cX7_takeOnlyPart 13 = .ok (.iaload, 1) := by decide +kernel
theorem dX7_takeOnlyPart_14 : decode cX7_takeOnlyPart 14 = .ok (.iconst 1, 1) := by decide +kernel
theorem dX7_takeOnlyPart_15 : decode cX7_takeOnlyPart 15 = .ok (.iload_n 2, 1) := by decide +kernel
theorem dX7_takeOnlyPart_16 : decode cX7_takeOnlyPart 16 = .ok (.ishl, 1) := by decide +kernel
theorem dX7_takeOnlyPart_17 : decode cX7_takeOnlyPart 17 = .ok (.iconst (-1), 1) := by decide +kernel
theorem dX7_takeOnlyPart_18 : decode cX7_takeOnlyPart 18 = .ok (.ixor, 1) := by decide +kernel
theorem dX7_takeOnlyPart_19 : decode cX7_takeOnlyPart 19 = .ok (.iand, 1) := by decide +kernel
theorem dX7_takeOnlyPart_20 : decode cX7_takeOnlyPart 20 = .ok (.iastore, 1) := by decide +kernel
theorem dX7_takeOnlyPart_21 : decode cX7_takeOnlyPart 21 = .ok (.return_, 1) := by decide +kernel
theorem dX7_unwed_0 : decode cX7_unwed 0 = .ok (.aload_n 0, 1) := by decide +kernel
theorem dX7_unwed_1 : decode cX7_unwed 1 = .ok (.getfield 24, 3) := by decide +kernel
theorem dX7_unwed_4 : decode cX7_unwed 4 = .ok (.iload_n 1, 1) := by decide +kernel
theorem dX7_unwed_5 : decode cX7_unwed 5 = .ok (.iaload, 1) := by decide +kernel
theorem dX7_unwed_6 : decode cX7_unwed 6 = .ok (.istore_n 2, 1) := by decide +kernel
theorem dX7_unwed_7 : decode cX7_unwed 7 = .ok (.iload_n 2, 1) := by decide +kernel
theorem dX7_unwed_8 : decode cX7_unwed 8 = .ok (.ifCond .lt 11, 3) := by decide +kernel
theorem dX7_unwed_11 : decode cX7_unwed 11 = .ok (.aload_n 0, 1) := by decide +kernel
theorem dX7_unwed_12 : decode cX7_unwed 12 = .ok (.getfield 24, 3) := by decide +kernel
theorem dX7_unwed_15 : decode cX7_unwed 15 = .ok (.iload_n 2, 1) := by decide +kernel
theorem dX7_unwed_16 : decode cX7_unwed 16 = .ok (.bipush (-9), 2) := by decide +kernel
theorem dX7_unwed_18 : decode cX7_unwed 18 = .ok (.iastore, 1) := by decide +kernel
theorem dX7_unwed_19 : decode cX7_unwed 19 = .ok (.aload_n 0, 1) := by decide +kernel
theorem dX7_unwed_20 : decode cX7_unwed 20 = .ok (.getfield 24, 3) := by decide +kernel
theorem dX7_unwed_23 : decode cX7_unwed 23 = .ok (.iload_n 1, 1) := by decide +kernel
theorem dX7_unwed_24 : decode cX7_unwed 24 = .ok (.bipush (-9), 2) := by decide +kernel
theorem dX7_unwed_26 : decode cX7_unwed 26 = .ok (.iastore, 1) := by decide +kernel
theorem dX7_unwed_27 : decode cX7_unwed 27 = .ok (.return_, 1) := by decide +kernel
theorem dX7_isFree_0 : decode cX7_isFree 0 = .ok (.aload_n 0, 1) := by decide +kernel
theorem dX7_isFree_1 : decode cX7_isFree 1 = .ok (.getfield 33, 3) := by decide +kernel
theorem dX7_isFree_4 : decode cX7_isFree 4 = .ok (.iload_n 1, 1) := by decide +kernel
theorem dX7_isFree_5 : decode cX7_isFree 5 = .ok (.aaload, 1) := by decide +kernel
theorem dX7_isFree_6 : decode cX7_isFree 6 = .ok (.iconst 0, 1) := by decide +kernel
theorem dX7_isFree_7 : decode cX7_isFree 7 = .ok (.iaload, 1) := by decide +kernel
theorem dX7_isFree_8 : decode cX7_isFree 8 = .ok (.istore 4, 2) := by decide +kernel
theorem dX7_isFree_10 : decode cX7_isFree 10 = .ok (.iload_n 2, 1) := by decide +kernel
theorem dX7_isFree_11 : decode cX7_isFree 11 = .ok (.iload 4, 2) := by decide +kernel
theorem dX7_isFree_13 : decode cX7_isFree 13 = .ok (.if_icmp .eq 37, 3) := by decide +kernel
theorem dX7_isFree_16 : decode cX7_isFree 16 = .ok (.aload_n 0, 1) := by decide +kernel
theorem dX7_isFree_17 : decode cX7_isFree 17 = .ok (.getfield 24, 3) := by decide +kernel
theorem dX7_isFree_20 : decode cX7_isFree 20 = .ok (.iload 4, 2) := by decide +kernel
theorem dX7_isFree_22 : decode cX7_isFree 22 = .ok (.iaload, 1) := by decide +kernel
theorem dX7_isFree_23 : decode cX7_isFree 23 = .ok (.iload_n 2, 1) := by decide +kernel
theorem dX7_isFree_24 : decode cX7_isFree 24 = .ok (.if_icmp .eq 26, 3) := by decide +kernel
theorem dX7_isFree_27 : decode cX7_isFree 27 = .ok (.iload_n 3, 1) := by decide +kernel
theorem dX7_isFree_28 : decode cX7_isFree 28 = .ok (.aload_n 0, 1) := by decide +kernel
theorem dX7_isFree_29 : decode cX7_isFree 29 = .ok (.getfield 9, 3) := by decide +kernel
theorem dX7_isFree_32 : decode cX7_isFree 32 = .ok (.if_icmp .ne 22, 3) := by decide +kernel
theorem dX7_isFree_35 : decode cX7_isFree 35 = .ok (.aload_n 0, 1) := by decide +kernel
theorem dX7_isFree_36 : decode cX7_isFree 36 = .ok (.getfield 33, 3) := by decide +kernel
theorem dX7_isFree_39 : decode cX7_isFree 39 = .ok (.iload_n 1, 1) := by decide +kernel
theorem dX7_isFree_40 : decode cX7_isFree 40 = .ok (.aaload, 1) := by decide +kernel
theorem dX7_isFree_41 : decode cX7_isFree 41 = .ok (.iconst 5, 1) := by decide +kernel
theorem dX7_isFree_42 : decode cX7_isFree 42 = .ok (.iaload, 1) := by decide +kernel
theorem dX7_isFree_43 : decode cX7_isFree 43 = .ok (.aload_n 0, 1) := by decide +kernel
theorem dX7_isFree_44 : decode cX7_isFree 44 = .ok (.getfield 48, 3) := by decide +kernel
theorem dX7_isFree_47 : decode cX7_isFree 47 = .ok (.if_icmp .ne 7, 3) := by decide +kernel
theorem dX7_isFree_50 : decode cX7_isFree 50 = .ok (.iconst 1, 1) := by decide +kernel
theorem dX7_isFree_51 : decode cX7_isFree 51 = .ok (.goto 4, 3) := by decide +kernel
theorem dX7_isFree_54 : decode cX7_isFree 54 = .ok (.iconst 0, 1) := by decide +kernel
theorem dX7_isFree_55 : decode cX7_isFree 55 = .ok (.ireturn, 1) := by decide +kernel
theorem dX7_kindLets_0 : decode cX7_kindLets 0 = .ok (.aload_n 0, 1) := by decide +kernel
theorem dX7_kindLets_1 : decode cX7_kindLets 1 = .ok (.getfield 17, 3) := by decide +kernel
theorem dX7_kindLets_4 : decode cX7_kindLets 4 = .ok (.iload_n 2, 1) := by decide +kernel
theorem dX7_kindLets_5 : decode cX7_kindLets 5 = .ok (.aaload, 1) := by decide +kernel
theorem dX7_kindLets_6 : decode cX7_kindLets 6 = .ok (.iconst 0, 1) := by decide +kernel
theorem dX7_kindLets_7 : decode cX7_kindLets 7 = .ok (.iaload, 1) := by decide +kernel
theorem dX7_kindLets_8 : decode cX7_kindLets 8 = .ok (.istore_n 3, 1) := by decide +kernel
theorem dX7_kindLets_9 : decode cX7_kindLets 9 = .ok (.iload_n 3, 1) := by decide +kernel
theorem dX7_kindLets_10 : decode cX7_kindLets 10 = .ok (.bipush 6, 2) := by decide +kernel
theorem dX7_kindLets_12 : decode cX7_kindLets 12 = .ok (.if_icmp .ne 5, 3) := by decide +kernel
theorem dX7_kindLets_15 : decode cX7_kindLets 15 = .ok (.iconst 0, 1) := by decide +kernel
theorem dX7_kindLets_16 : decode cX7_kindLets 16 = .ok (.ireturn, 1) := by decide +kernel
theorem dX7_kindLets_17 : decode cX7_kindLets 17 = .ok (.iload_n 3, 1) := by decide +kernel
theorem dX7_kindLets_18 : decode cX7_kindLets 18 = .ok (.iconst 4, 1) := by decide +kernel
theorem dX7_kindLets_19 : decode cX7_kindLets 19 = .ok (.if_icmp .ne 22, 3) := by decide +kernel
theorem dX7_kindLets_22 : decode cX7_kindLets 22 = .ok (.aload_n 0, 1) := by decide +kernel
theorem dX7_kindLets_23 : decode cX7_kindLets 23 = .ok (.getfield 17, 3) := by decide +kernel
theorem dX7_kindLets_26 : decode cX7_kindLets 26 = .ok (.iload_n 2, 1) := by decide +kernel
theorem dX7_kindLets_27 : decode cX7_kindLets 27 = .ok (.aaload, 1) := by decide +kernel
theorem dX7_kindLets_28 : decode cX7_kindLets 28 = .ok (.iconst 2, 1) := by decide +kernel
theorem dX7_kindLets_29 : decode cX7_kindLets 29 = .ok (.iaload, 1) := by decide +kernel
theorem dX7_kindLets_30 : decode cX7_kindLets 30 = .ok (.aload_n 0, 1) := by decide +kernel
theorem dX7_kindLets_31 : decode cX7_kindLets 31 = .ok (.getfield 33, 3) := by decide +kernel
theorem dX7_kindLets_34 : decode cX7_kindLets 34 = .ok (.iload_n 1, 1) := by decide +kernel
theorem dX7_kindLets_35 : decode cX7_kindLets 35 = .ok (.aaload, 1) := by decide +kernel
theorem dX7_kindLets_36 : decode cX7_kindLets 36 = .ok (.iconst 5, 1) := by decide +kernel
theorem dX7_kindLets_37 : decode cX7_kindLets 37 = .ok (.iaload, 1) := by decide +kernel
theorem dX7_kindLets_38 : decode cX7_kindLets 38 = .ok (.if_icmp .ne 7, 3) := by decide +kernel
theorem dX7_kindLets_41 : decode cX7_kindLets 41 = .ok (.iconst 1, 1) := by decide +kernel
theorem dX7_kindLets_42 : decode cX7_kindLets 42 = .ok (.goto 4, 3) := by decide +kernel
theorem dX7_kindLets_45 : decode cX7_kindLets 45 = .ok (.iconst 0, 1) := by decide +kernel
theorem dX7_kindLets_46 : decode cX7_kindLets 46 = .ok (.ireturn, 1) := by decide +kernel
theorem dX8_init_0 : decode cX8_init 0 = .ok (.aload_n 0, 1) := by decide +kernel
theorem dX8_init_1 : decode cX8_init 1 = .ok (.invokespecial 1, 3) := by decide +kernel
theorem dX8_init_4 : decode cX8_init 4 = .ok (.aload_n 0, 1) := by decide +kernel
theorem dX8_init_5 : decode cX8_init 5 = .ok (.new 7, 3) := by decide +kernel
theorem dX8_init_8 : decode cX8_init 8 = .ok (.dup, 1) := by decide +kernel
theorem dX8_init_9 : decode cX8_init 9 = .ok (.invokespecial 9, 3) := by decide +kernel
theorem dX8_init_12 : decode cX8_init 12 = .ok (.putfield 10, 3) := by decide +kernel
theorem dX8_init_15 : decode cX8_init 15 = .ok (.aload_n 0, 1) := by decide +kernel
theorem dX8_init_16 : decode cX8_init 16 = .ok (.new 7, 3) := by decide +kernel
theorem dX8_init_19 : decode cX8_init 19 = .ok (.dup, 1) := by decide +kernel
theorem dX8_init_20 : decode cX8_init 20 = .ok (.invokespecial 9, 3) := by decide +kernel
theorem dX8_init_23 : decode cX8_init 23 = .ok (.putfield 16, 3) := by decide +kernel
theorem dX8_init_26 : decode cX8_init 26 = .ok (.aload_n 0, 1) := by decide +kernel
theorem dX8_init_27 : decode cX8_init 27 = .ok (.new 7, 3) := by decide +kernel
theorem dX8_init_30 : decode cX8_init 30 = .ok (.dup, 1) := by decide +kernel
theorem dX8_init_31 : decode cX8_init 31 = .ok (.invokespecial 9, 3) := by decide +kernel
theorem dX8_init_34 : decode cX8_init 34 = .ok (.putfield 19, 3) := by decide +kernel
theorem dX8_init_37 : decode cX8_init 37 = .ok (.aload_n 0, 1) := by decide +kernel
theorem dX8_init_38 : decode cX8_init 38 = .ok (.new 22, 3) := by decide +kernel
theorem dX8_init_41 : decode cX8_init 41 = .ok (.dup, 1) := by decide +kernel
theorem dX8_init_42 : decode cX8_init 42 = .ok (.invokespecial 24, 3) := by decide +kernel
theorem dX8_init_45 : decode cX8_init 45 = .ok (.putfield 25, 3) := by decide +kernel
theorem dX8_init_48 : decode cX8_init 48 = .ok (.aload_n 0, 1) := by decide +kernel
theorem dX8_init_49 : decode cX8_init 49 = .ok (.new 29, 3) := by decide +kernel
theorem dX8_init_52 : decode cX8_init 52 = .ok (.dup, 1) := by decide +kernel
theorem dX8_init_53 : decode cX8_init 53 = .ok (.aload_n 0, 1) := by decide +kernel
theorem dX8_init_54 : decode cX8_init 54 = .ok (.getfield 10, 3) := by decide +kernel
theorem dX8_init_57 : decode cX8_init 57 = .ok (.invokespecial 31, 3) := by decide +kernel
theorem dX8_init_60 : decode cX8_init 60 = .ok (.putfield 34, 3) := by decide +kernel
theorem dX8_init_63 : decode cX8_init 63 = .ok (.aload_n 0, 1) := by decide +kernel
theorem dX8_init_64 : decode cX8_init 64 = .ok (.new 38, 3) := by decide +kernel
theorem dX8_init_67 : decode cX8_init 67 = .ok (.dup, 1) := by decide +kernel
theorem dX8_init_68 : decode cX8_init 68 = .ok (.aload_n 0, 1) := by decide +kernel
theorem dX8_init_69 : decode cX8_init 69 = .ok (.getfield 10, 3) := by decide +kernel
theorem dX8_init_72 : decode cX8_init 72 = .ok (.aload_n 0, 1) := by decide +kernel
theorem dX8_init_73 : decode cX8_init 73 = .ok (.getfield 34, 3) := by decide +kernel
theorem dX8_init_76 : decode cX8_init 76 = .ok (.invokespecial 40, 3) := by decide +kernel
theorem dX8_init_79 : decode cX8_init 79 = .ok (.putfield 43, 3) := by decide +kernel
theorem dX8_init_82 : decode cX8_init 82 = .ok (.aload_n 0, 1) := by decide +kernel
theorem dX8_init_83 : decode cX8_init 83 = .ok (.new 47, 3) := by decide +kernel
theorem dX8_init_86 : decode cX8_init 86 = .ok (.dup, 1) := by decide +kernel
theorem dX8_init_87 : decode cX8_init 87 = .ok (.aload_n 0, 1) := by decide +kernel
theorem dX8_init_88 : decode cX8_init 88 = .ok (.getfield 10, 3) := by decide +kernel
theorem dX8_init_91 : decode cX8_init 91 = .ok (.aload_n 0, 1) := by decide +kernel
theorem dX8_init_92 : decode cX8_init 92 = .ok (.getfield 34, 3) := by decide +kernel
theorem dX8_init_95 : decode cX8_init 95 = .ok (.invokespecial 49, 3) := by decide +kernel
theorem dX8_init_98 : decode cX8_init 98 = .ok (.putfield 50, 3) := by decide +kernel
theorem dX8_init_101 : decode cX8_init 101 = .ok (.aload_n 0, 1) := by decide +kernel
theorem dX8_init_102 : decode cX8_init 102 = .ok (.new 54, 3) := by decide +kernel
theorem dX8_init_105 : decode cX8_init 105 = .ok (.dup, 1) := by decide +kernel
theorem dX8_init_106 : decode cX8_init 106 = .ok (.aload_n 0, 1) := by decide +kernel
theorem dX8_init_107 : decode cX8_init 107 = .ok (.getfield 10, 3) := by decide +kernel
theorem dX8_init_110 : decode cX8_init 110 = .ok (.invokespecial 56, 3) := by decide +kernel
theorem dX8_init_113 : decode cX8_init 113 = .ok (.putfield 57, 3) := by decide +kernel
theorem dX8_init_116 : decode cX8_init 116 = .ok (.aload_n 0, 1) := by decide +kernel
theorem dX8_init_117 : decode cX8_init 117 = .ok (.new 61, 3) := by decide +kernel
theorem dX8_init_120 : decode cX8_init 120 = .ok (.dup, 1) := by decide +kernel
theorem dX8_init_121 : decode cX8_init 121 = .ok (.aload_n 0, 1) := by decide +kernel
theorem dX8_init_122 : decode cX8_init 122 = .ok (.getfield 10, 3) := by decide +kernel
theorem dX8_init_125 : decode cX8_init 125 = .ok (.aload_n 0, 1) := by decide +kernel
theorem dX8_init_126 : decode cX8_init 126 = .ok (.getfield 34, 3) := by decide +kernel
theorem dX8_init_129 : decode cX8_init 129 = .ok (.invokespecial 63, 3) := by decide +kernel
theorem dX8_init_132 : decode cX8_init 132 = .ok (.putfield 64, 3) := by decide +kernel
theorem dX8_init_135 : decode cX8_init 135 = .ok (.aload_n 0, 1) := by decide +kernel
theorem dX8_init_136 : decode cX8_init 136 = .ok (.new 68, 3) := by decide +kernel
theorem dX8_init_139 : decode cX8_init 139 = .ok (.dup, 1) := by decide +kernel
theorem dX8_init_140 : decode cX8_init 140 = .ok (.aload_n 0, 1) := by decide +kernel
theorem dX8_init_141 : decode cX8_init 141 = .ok (.getfield 10, 3) := by decide +kernel
theorem dX8_init_144 : decode cX8_init 144 = .ok (.aload_n 0, 1) := by decide +kernel
theorem dX8_init_145 : decode cX8_init 145 = .ok (.getfield 34, 3) := by decide +kernel
theorem dX8_init_148 : decode cX8_init 148 = .ok (.invokespecial 70, 3) := by decide +kernel
theorem dX8_init_151 : decode cX8_init 151 = .ok (.putfield 71, 3) := by decide +kernel
theorem dX8_init_154 : decode cX8_init 154 = .ok (.aload_n 0, 1) := by decide +kernel
theorem dX8_init_155 : decode cX8_init 155 = .ok (.bipush 7, 2) := by decide +kernel
theorem dX8_init_157 : decode cX8_init 157 = .ok (.newarray .int, 2) := by decide +kernel
theorem dX8_init_159 : decode cX8_init 159 = .ok (.putfield 75, 3) := by decide +kernel
theorem dX8_init_162 : decode cX8_init 162 = .ok (.return_, 1) := by decide +kernel
theorem dX8_feed_0 : decode cX8_feed 0 = .ok (.iload_n 1, 1) := by decide +kernel
theorem dX8_feed_1 : decode cX8_feed 1 = .ok (.iconst 1, 1) := by decide +kernel
theorem dX8_feed_2 : decode cX8_feed 2 = .ok (.if_icmp .ge 10, 3) := by decide +kernel
theorem dX8_feed_5 : decode cX8_feed 5 = .ok (.aload_n 0, 1) := by decide +kernel
theorem dX8_feed_6 : decode cX8_feed 6 = .ok (.bipush (-4), 2) := by decide +kernel
theorem dX8_feed_8 : decode cX8_feed 8 = .ok (.invokevirtual 79, 3) := by decide +kernel
theorem dX8_feed_11 : decode cX8_feed 11 = .ok (.ireturn, 1) := by decide +kernel
theorem dX8_feed_12 : decode cX8_feed 12 = .ok (.iload_n 1, 1) := by decide +kernel
theorem dX8_feed_13 : decode cX8_feed 13 = .ok (.bipush 8, 2) := by decide +kernel
theorem dX8_feed_15 : decode cX8_feed 15 = .ok (.if_icmp .gt 17, 3) := by decide +kernel
theorem dX8_feed_18 : decode cX8_feed 18 = .ok (.aload_n 0, 1) := by decide +kernel
theorem dX8_feed_19 : decode cX8_feed 19 = .ok (.getfield 25, 3) := by decide +kernel
theorem dX8_feed_22 : decode cX8_feed 22 = .ok (.getfield 83, 3) := by decide +kernel
theorem dX8_feed_25 : decode cX8_feed 25 = .ok (.iload_n 1, 1) := by decide +kernel
theorem dX8_feed_26 : decode cX8_feed 26 = .ok (.iadd, 1) := by decide +kernel
theorem dX8_feed_27 : decode cX8_feed 27 = .ok (.bipush 64, 2) := by decide +kernel
theorem dX8_feed_29 : decode cX8_feed 29 = .ok (.if_icmp .le 10, 3) := by decide +kernel
theorem dX8_feed_32 : decode cX8_feed 32 = .ok (.aload_n 0, 1) := by decide +kernel
theorem dX8_feed_33 : decode cX8_feed 33 = .ok (.bipush (-6), 2) := by decide +kernel
theorem dX8_feed_35 : decode cX8_feed 35 = .ok (.invokevirtual 79, 3) := by decide +kernel
theorem dX8_feed_38 : decode cX8_feed 38 = .ok (.ireturn, 1) := by decide +kernel
theorem dX8_feed_39 : decode cX8_feed 39 = .ok (.aload_n 0, 1) := by decide +kernel
theorem dX8_feed_40 : decode cX8_feed 40 = .ok (.getfield 25, 3) := by decide +kernel
theorem dX8_feed_43 : decode cX8_feed 43 = .ok (.iload_n 1, 1) := by decide +kernel
theorem dX8_feed_44 : decode cX8_feed 44 = .ok (.lload_n 2, 1) := by decide +kernel
theorem dX8_feed_45 : decode cX8_feed 45 = .ok (.invokevirtual 87, 3) := by decide +kernel
theorem dX8_feed_48 : decode cX8_feed 48 = .ok (.aload_n 0, 1) := by decide +kernel
theorem dX8_feed_49 : decode cX8_feed 49 = .ok (.getfield 25, 3) := by decide +kernel
theorem dX8_feed_52 : decode cX8_feed 52 = .ok (.getfield 83, 3) := by decide +kernel
theorem dX8_feed_55 : decode cX8_feed 55 = .ok (.ireturn, 1) := by decide +kernel
theorem dX8_town_0 : decode cX8_town 0 = .ok (.aload_n 0, 1) := by decide +kernel
theorem dX8_town_1 : decode cX8_town 1 = .ok (.getfield 25, 3) := by decide +kernel
theorem dX8_town_4 : decode cX8_town 4 = .ok (.invokevirtual 91, 3) := by decide +kernel
theorem dX8_town_7 : decode cX8_town 7 = .ok (.istore_n 1, 1) := by decide +kernel
theorem dX8_town_8 : decode cX8_town 8 = .ok (.iload_n 1, 1) := by decide +kernel
theorem dX8_town_9 : decode cX8_town 9 = .ok (.ifCond .ne 41, 3) := by decide +kernel
theorem dX8_town_12 : decode cX8_town 12 = .ok (.aload_n 0, 1) := by decide +kernel
theorem dX8_town_13 : decode cX8_town 13 = .ok (.getfield 16, 3) := by decide +kernel
theorem dX8_town_16 : decode cX8_town 16 = .ok (.aload_n 0, 1) := by decide +kernel
theorem dX8_town_17 : decode cX8_town 17 = .ok (.getfield 10, 3) := by decide +kernel
theorem dX8_town_20 : decode cX8_town 20 = .ok (.invokevirtual 95, 3) := by decide +kernel
theorem dX8_town_23 : decode cX8_town 23 = .ok (.aload_n 0, 1) := by decide +kernel
theorem dX8_town_24 : decode cX8_town 24 = .ok (.getfield 25, 3) := by decide +kernel
theorem dX8_town_27 : decode cX8_town 27 = .ok (.aload_n 0, 1) := by decide +kernel
theorem dX8_town_28 : decode cX8_town 28 = .ok (.getfield 16, 3) := by decide +kernel
theorem dX8_town_31 : decode cX8_town 31 = .ok (.invokevirtual 98, 3) := by decide +kernel
theorem dX8_town_34 : decode cX8_town 34 = .ok (.istore_n 1, 1) := by decide +kernel
theorem dX8_town_35 : decode cX8_town 35 = .ok (.iload_n 1, 1) := by decide +kernel
theorem dX8_town_36 : decode cX8_town 36 = .ok (.ifCond .le 14, 3) := by decide +kernel
theorem dX8_town_39 : decode cX8_town 39 = .ok (.aload_n 0, 1) := by decide +kernel
theorem dX8_town_40 : decode cX8_town 40 = .ok (.getfield 10, 3) := by decide +kernel
theorem dX8_town_43 : decode cX8_town 43 = .ok (.aload_n 0, 1) := by decide +kernel
theorem dX8_town_44 : decode cX8_town 44 = .ok (.getfield 16, 3) := by decide +kernel
theorem dX8_town_47 : decode cX8_town 47 = .ok (.invokevirtual 95, 3) := by decide +kernel
theorem dX8_town_50 : decode cX8_town 50 = .ok (.aload_n 0, 1) := by decide +kernel
theorem dX8_town_51 : decode cX8_town 51 = .ok (.getfield 25, 3) := by decide +kernel
theorem dX8_town_54 : decode cX8_town 54 = .ok (.iconst 0, 1) := by decide +kernel
theorem dX8_town_55 : decode cX8_town 55 = .ok (.putfield 83, 3) := by decide +kernel
theorem dX8_town_58 : decode cX8_town 58 = .ok (.iload_n 1, 1) := by decide +kernel
theorem dX8_town_59 : decode cX8_town 59 = .ok (.ireturn, 1) := by decide +kernel
theorem dX8_holder_0 : decode cX8_holder 0 = .ok (.aload_n 0, 1) := by decide +kernel
theorem dX8_holder_1 : decode cX8_holder 1 = .ok (.getfield 10, 3) := by decide +kernel
theorem dX8_holder_4 : decode cX8_holder 4 = .ok (.iload_n 1, 1) := by decide +kernel
theorem dX8_holder_5 : decode cX8_holder 5 = .ok (.invokevirtual 102, 3) := by decide +kernel
theorem dX8_holder_8 : decode cX8_holder 8 = .ok (.ifCond .ne 9, 3) := by decide +kernel
theorem dX8_holder_11 : decode cX8_holder 11 = .ok (.aload_n 0, 1) := by decide +kernel
theorem dX8_holder_12 : decode cX8_holder 12 = .ok (.iconst (-1), 1) := by decide +kernel
theorem dX8_holder_13 : decode cX8_holder 13 = .ok (.invokevirtual 79, 3) := by decide +kernel
theorem dX8_holder_16 : decode cX8_holder 16 = .ok (.ireturn, 1) := by decide +kernel
theorem dX8_holder_17 : decode cX8_holder 17 = .ok (.iload_n 2, 1) := by decide +kernel
theorem dX8_holder_18 : decode cX8_holder 18 = .ok (.ifCond .lt 8, 3) := by decide +kernel
theorem dX8_holder_21 : decode cX8_holder 21 = .ok (.iload_n 2, 1) := by decide +kernel
theorem dX8_holder_22 : decode cX8_holder 22 = .ok (.iconst 4, 1) := by decide +kernel
theorem dX8_holder_23 : decode cX8_holder 23 = .ok (.if_icmp .le 10, 3) := by decide +kernel
theorem dX8_holder_26 : decode cX8_holder 26 = .ok (.aload_n 0, 1) := by decide +kernel
theorem dX8_holder_27 : decode cX8_holder 27 = .ok (.bipush (-2), 2) := by decide +kernel
theorem dX8_holder_29 : decode cX8_holder 29 = .ok (.invokevirtual 79, 3) := by decide +kernel
theorem dX8_holder_32 : decode cX8_holder 32 = .ok (.ireturn, 1) := by decide +kernel
theorem dX8_holder_33 : decode cX8_holder 33 = .ok (.iload_n 2, 1) := by decide +kernel
theorem dX8_holder_34 : decode cX8_holder 34 = .ok (.iconst 3, 1) := by decide +kernel
theorem dX8_holder_35 : decode cX8_holder 35 = .ok (.if_icmp .ne 16, 3) := by decide +kernel
theorem dX8_holder_38 : decode cX8_holder 38 = .ok (.aload_n 0, 1) := by decide +kernel
theorem dX8_holder_39 : decode cX8_holder 39 = .ok (.getfield 10, 3) := by decide +kernel
theorem dX8_holder_42 : decode cX8_holder 42 = .ok (.getfield 106, 3) := by decide +kernel
theorem dX8_holder_45 : decode cX8_holder 45 = .ok (.iload_n 1, 1) := by decide +kernel
theorem dX8_holder_46 : decode cX8_holder 46 = .ok (.iaload, 1) := by decide +kernel
theorem dX8_holder_47 : decode cX8_holder 47 = .ok (.invokestatic 109, 3) := by decide +kernel
theorem dX8_holder_50 : decode cX8_holder 50 = .ok (.ireturn, 1) := by decide +kernel
theorem dX8_holder_51 : decode cX8_holder 51 = .ok (.iload_n 2, 1) := by decide +kernel
theorem dX8_holder_52 : decode cX8_holder 52 = .ok (.iconst 4, 1) := by decide +kernel
theorem dX8_holder_53 : decode cX8_holder 53 = .ok (.if_icmp .ne 12, 3) := by decide +kernel
theorem dX8_holder_56 : decode cX8_holder 56 = .ok (.aload_n 0, 1) := by decide +kernel
theorem dX8_holder_57 : decode cX8_holder 57 = .ok (.getfield 43, 3) := by decide +kernel
theorem dX8_holder_60 : decode cX8_holder 60 = .ok (.iload_n 1, 1) := by decide +kernel
theorem dX8_holder_61 : decode cX8_holder 61 = .ok (.invokevirtual 114, 3) := by decide +kernel
theorem dX8_holder_64 : decode cX8_holder 64 = .ok (.ireturn, 1) := by decide +kernel
theorem dX8_holder_65 : decode cX8_holder 65 = .ok (.aload_n 0, 1) := by decide +kernel
theorem dX8_holder_66 : decode cX8_holder 66 = .ok (.getfield 10, 3) := by decide +kernel
theorem dX8_holder_69 : decode cX8_holder 69 = .ok (.getfield 117, 3) := by decide +kernel
theorem dX8_holder_72 : decode cX8_holder 72 = .ok (.iload_n 1, 1) := by decide +kernel
theorem dX8_holder_73 : decode cX8_holder 73 = .ok (.aaload, 1) := by decide +kernel
theorem dX8_holder_74 : decode cX8_holder 74 = .ok (.iload_n 2, 1) := by decide +kernel
theorem dX8_holder_75 : decode cX8_holder 75 = .ok (.iaload, 1) := by decide +kernel
theorem dX8_holder_76 : decode cX8_holder 76 = .ok (.ireturn, 1) := by decide +kernel
theorem dX8_hour_0 : decode cX8_hour 0 = .ok (.iload_n 1, 1) := by decide +kernel
theorem dX8_hour_1 : decode cX8_hour 1 = .ok (.invokestatic 121, 3) := by decide +kernel
theorem dX8_hour_4 : decode cX8_hour 4 = .ok (.ifCond .ne 9, 3) := by decide +kernel
theorem dX8_hour_7 : decode cX8_hour 7 = .ok (.aload_n 0, 1) := by decide +kernel
theorem dX8_hour_8 : decode cX8_hour 8 = .ok (.iconst (-1), 1) := by decide +kernel
theorem dX8_hour_9 : decode cX8_hour 9 = .ok (.invokevirtual 79, 3) := by decide +kernel
theorem dX8_hour_12 : decode cX8_hour 12 = .ok (.ireturn, 1) := by decide +kernel
theorem dX8_hour_13 : decode cX8_hour 13 = .ok (.iload_n 2, 1) := by decide +kernel
theorem dX8_hour_14 : decode cX8_hour 14 = .ok (.iconst (-1), 1) := by decide +kernel
theorem dX8_hour_15 : decode cX8_hour 15 = .ok (.if_icmp .ge 10, 3) := by decide +kernel
theorem dX8_hour_18 : decode cX8_hour 18 = .ok (.aload_n 0, 1) := by decide +kernel
theorem dX8_hour_19 : decode cX8_hour 19 = .ok (.bipush (-4), 2) := by decide +kernel
theorem dX8_hour_21 : decode cX8_hour 21 = .ok (.invokevirtual 79, 3) := by decide +kernel
theorem dX8_hour_24 : decode cX8_hour 24 = .ok (.ireturn, 1) := by decide +kernel
theorem dX8_hour_25 : decode cX8_hour 25 = .ok (.iload_n 2, 1) := by decide +kernel
theorem dX8_hour_26 : decode cX8_hour 26 = .ok (.iconst (-1), 1) := by decide +kernel
theorem dX8_hour_27 : decode cX8_hour 27 = .ok (.if_icmp .ne 13, 3) := by decide +kernel
theorem dX8_hour_30 : decode cX8_hour 30 = .ok (.aload_n 0, 1) := by decide +kernel
theorem dX8_hour_31 : decode cX8_hour 31 = .ok (.getfield 10, 3) := by decide +kernel
theorem dX8_hour_34 : decode cX8_hour 34 = .ok (.getfield 124, 3) := by decide +kernel
theorem dX8_hour_37 : decode cX8_hour 37 = .ok (.iload_n 1, 1) := by decide +kernel
theorem dX8_hour_38 : decode cX8_hour 38 = .ok (.iaload, 1) := by decide +kernel
theorem dX8_hour_39 : decode cX8_hour 39 = .ok (.ireturn, 1) := by decide +kernel
theorem dX8_hour_40 : decode cX8_hour 40 = .ok (.iload_n 2, 1) := by decide +kernel
theorem dX8_hour_41 : decode cX8_hour 41 = .ok (.aload_n 0, 1) := by decide +kernel
theorem dX8_hour_42 : decode cX8_hour 42 = .ok (.getfield 10, 3) := by decide +kernel
theorem dX8_hour_45 : decode cX8_hour 45 = .ok (.getfield 124, 3) := by decide +kernel
theorem dX8_hour_48 : decode cX8_hour 48 = .ok (.iload_n 1, 1) := by decide +kernel
theorem dX8_hour_49 : decode cX8_hour 49 = .ok (.iaload, 1) := by decide +kernel
theorem dX8_hour_50 : decode cX8_hour 50 = .ok (.if_icmp .ge 17, 3) := by decide +kernel
theorem dX8_hour_53 : decode cX8_hour 53 = .ok (.aload_n 0, 1) := by decide +kernel
theorem dX8_hour_54 : decode cX8_hour 54 = .ok (.getfield 10, 3) := by decide +kernel
theorem dX8_hour_57 : decode cX8_hour 57 = .ok (.getfield 127, 3) := by decide +kernel
theorem dX8_hour_60 : decode cX8_hour 60 = .ok (.iload_n 1, 1) := by decide +kernel
theorem dX8_hour_61 : decode cX8_hour 61 = .ok (.aaload, 1) := by decide +kernel
theorem dX8_hour_62 : decode cX8_hour 62 = .ok (.iload_n 2, 1) := by decide +kernel
theorem dX8_hour_63 : decode cX8_hour 63 = .ok (.iaload, 1) := by decide +kernel
theorem dX8_hour_64 : decode cX8_hour 64 = .ok (.goto 5, 3) := by decide +kernel
theorem dX8_hour_67 : decode cX8_hour 67 = .ok (.bipush (-9), 2) := by decide +kernel
theorem dX8_hour_69 : decode cX8_hour 69 = .ok (.ireturn, 1) := by decide +kernel
theorem dX8_work_0 : decode cX8_work 0 = .ok (.aload_n 0, 1) := by decide +kernel
theorem dX8_work_1 : decode cX8_work 1 = .ok (.getfield 10, 3) := by decide +kernel
theorem dX8_work_4 : decode cX8_work 4 = .ok (.iload_n 1, 1) := by decide +kernel
theorem dX8_work_5 : decode cX8_work 5 = .ok (.invokevirtual 130, 3) := by decide +kernel
theorem dX8_work_8 : decode cX8_work 8 = .ok (.ifCond .ne 9, 3) := by decide +kernel
theorem dX8_work_11 : decode cX8_work 11 = .ok (.aload_n 0, 1) := by decide +kernel
theorem dX8_work_12 : decode cX8_work 12 = .ok (.iconst (-1), 1) := by decide +kernel
theorem dX8_work_13 : decode cX8_work 13 = .ok (.invokevirtual 79, 3) := by decide +kernel
theorem dX8_work_16 : decode cX8_work 16 = .ok (.ireturn, 1) := by decide +kernel
theorem dX8_work_17 : decode cX8_work 17 = .ok (.iload_n 2, 1) := by decide +kernel
theorem dX8_work_18 : decode cX8_work 18 = .ok (.ifCond .lt 9, 3) := by decide +kernel
theorem dX8_work_21 : decode cX8_work 21 = .ok (.iload_n 2, 1) := by decide +kernel
theorem dX8_work_22 : decode cX8_work 22 = .ok (.bipush 6, 2) := by decide +kernel
theorem dX8_work_24 : decode cX8_work 24 = .ok (.if_icmp .lt 10, 3) := by decide +kernel
theorem dX8_work_27 : decode cX8_work 27 = .ok (.aload_n 0, 1) := by decide +kernel
theorem dX8_work_28 : decode cX8_work 28 = .ok (.bipush (-2), 2) := by decide +kernel
theorem dX8_work_30 : decode cX8_work 30 = .ok (.invokevirtual 79, 3) := by decide +kernel
theorem dX8_work_33 : decode cX8_work 33 = .ok (.ireturn, 1) := by decide +kernel
theorem dX8_work_34 : decode cX8_work 34 = .ok (.aload_n 0, 1) := by decide +kernel
theorem dX8_work_35 : decode cX8_work 35 = .ok (.getfield 10, 3) := by decide +kernel
theorem dX8_work_38 : decode cX8_work 38 = .ok (.getfield 133, 3) := by decide +kernel
theorem dX8_work_41 : decode cX8_work 41 = .ok (.iload_n 1, 1) := by decide +kernel
theorem dX8_work_42 : decode cX8_work 42 = .ok (.aaload, 1) := by decide +kernel
theorem dX8_work_43 : decode cX8_work 43 = .ok (.iload_n 2, 1) := by decide +kernel
theorem dX8_work_44 : decode cX8_work 44 = .ok (.iaload, 1) := by decide +kernel
theorem dX8_work_45 : decode cX8_work 45 = .ok (.ireturn, 1) := by decide +kernel
theorem dX8_price_0 : decode cX8_price 0 = .ok (.aload_n 0, 1) := by decide +kernel
theorem dX8_price_1 : decode cX8_price 1 = .ok (.getfield 10, 3) := by decide +kernel
theorem dX8_price_4 : decode cX8_price 4 = .ok (.iload_n 1, 1) := by decide +kernel
theorem dX8_price_5 : decode cX8_price 5 = .ok (.invokevirtual 102, 3) := by decide +kernel
theorem dX8_price_8 : decode cX8_price 8 = .ok (.ifCond .ne 9, 3) := by decide +kernel
theorem dX8_price_11 : decode cX8_price 11 = .ok (.aload_n 0, 1) := by decide +kernel
theorem dX8_price_12 : decode cX8_price 12 = .ok (.iconst (-1), 1) := by decide +kernel
theorem dX8_price_13 : decode cX8_price 13 = .ok (.invokevirtual 79, 3) := by decide +kernel
theorem dX8_price_16 : decode cX8_price 16 = .ok (.ireturn, 1) := by decide +kernel
theorem dX8_price_17 : decode cX8_price 17 = .ok (.iload_n 2, 1) := by decide +kernel
theorem dX8_price_18 : decode cX8_price 18 = .ok (.bipush 9, 2) := by decide +kernel
theorem dX8_price_20 : decode cX8_price 20 = .ok (.invokestatic 136, 3) := by decide +kernel
theorem dX8_price_23 : decode cX8_price 23 = .ok (.istore_n 3, 1) := by decide +kernel
theorem dX8_price_24 : decode cX8_price 24 = .ok (.iload_n 3, 1) := by decide +kernel
theorem dX8_price_25 : decode cX8_price 25 = .ok (.ifCond .eq 9, 3) := by decide +kernel
theorem dX8_price_28 : decode cX8_price 28 = .ok (.aload_n 0, 1) := by decide +kernel
theorem dX8_price_29 : decode cX8_price 29 = .ok (.iload_n 3, 1) := by decide +kernel
theorem dX8_price_30 : decode cX8_price 30 = .ok (.invokevirtual 79, 3) := by decide +kernel
theorem dX8_price_33 : decode cX8_price 33 = .ok (.ireturn, 1) := by decide +kernel
theorem dX8_price_34 : decode cX8_price 34 = .ok (.aload_n 0, 1) := by decide +kernel
theorem dX8_price_35 : decode cX8_price 35 = .ok (.getfield 10, 3) := by decide +kernel
theorem dX8_price_38 : decode cX8_price 38 = .ok (.getfield 117, 3) := by decide +kernel
theorem dX8_price_41 : decode cX8_price 41 = .ok (.iload_n 1, 1) := by decide +kernel
theorem dX8_price_42 : decode cX8_price 42 = .ok (.aaload, 1) := by decide +kernel
theorem dX8_price_43 : decode cX8_price 43 = .ok (.iconst 1, 1) := by decide +kernel
theorem dX8_price_44 : decode cX8_price 44 = .ok (.iaload, 1) := by decide +kernel
theorem dX8_price_45 : decode cX8_price 45 = .ok (.istore 4, 2) := by decide +kernel
theorem dX8_price_47 : decode cX8_price 47 = .ok (.aload_n 0, 1) := by decide +kernel
theorem dX8_price_48 : decode cX8_price 48 = .ok (.getfield 10, 3) := by decide +kernel
theorem dX8_price_51 : decode cX8_price 51 = .ok (.getfield 117, 3) := by decide +kernel
theorem dX8_price_54 : decode cX8_price 54 = .ok (.iload_n 1, 1) := by decide +kernel
theorem dX8_price_55 : decode cX8_price 55 = .ok (.aaload, 1) := by decide +kernel
theorem dX8_price_56 : decode cX8_price 56 = .ok (.iconst 1, 1) := by decide +kernel
theorem dX8_price_57 : decode cX8_price 57 = .ok (.iload_n 2, 1) := by decide +kernel
theorem dX8_price_58 : decode cX8_price 58 = .ok (.iastore, 1) := by decide +kernel
theorem dX8_price_59 : decode cX8_price 59 = .ok (.iload 4, 2) := by decide +kernel
theorem dX8_price_61 : decode cX8_price 61 = .ok (.ireturn, 1) := by decide +kernel
theorem dX8_strike_0 : decode cX8_strike 0 = .ok (.iload_n 1, 1) := by decide +kernel
theorem dX8_strike_1 : decode cX8_strike 1 = .ok (.aload_n 0, 1) := by decide +kernel
theorem dX8_strike_2 : decode cX8_strike 2 = .ok (.getfield 10, 3) := by decide +kernel
theorem dX8_strike_5 : decode cX8_strike 5 = .ok (.invokevirtual 140, 3) := by decide +kernel
theorem dX8_strike_8 : decode cX8_strike 8 = .ok (.iconst (-1), 1) := by decide +kernel
theorem dX8_strike_9 : decode cX8_strike 9 = .ok (.ixor, 1) := by decide +kernel
theorem dX8_strike_10 : decode cX8_strike 10 = .ok (.iand, 1) := by decide +kernel
theorem dX8_strike_11 : decode cX8_strike 11 = .ok (.ifCond .eq 9, 3) := by decide +kernel
theorem dX8_strike_14 : decode cX8_strike 14 = .ok (.aload_n 0, 1) := by decide +kernel
theorem dX8_strike_15 : decode cX8_strike 15 = .ok (.iconst (-1), 1) := by decide +kernel
theorem dX8_strike_16 : decode cX8_strike 16 = .ok (.invokevirtual 79, 3) := by decide +kernel
theorem dX8_strike_19 : decode cX8_strike 19 = .ok (.ireturn, 1) := by decide +kernel
theorem dX8_strike_20 : decode cX8_strike 20 = .ok (.aload_n 0, 1) := by decide +kernel
theorem dX8_strike_21 : decode cX8_strike 21 = .ok (.getfield 10, 3) := by decide +kernel
theorem dX8_strike_24 : decode cX8_strike 24 = .ok (.getfield 143, 3) := by decide +kernel
theorem dX8_strike_27 : decode cX8_strike 27 = .ok (.istore_n 2, 1) := by decide +kernel
theorem dX8_strike_28 : decode cX8_strike 28 = .ok (.aload_n 0, 1) := by decide +kernel
theorem dX8_strike_29 : decode cX8_strike 29 = .ok (.getfield 10, 3) := by decide +kernel
theorem dX8_strike_32 : decode cX8_strike 32 = .ok (.iload_n 1, 1) := by decide +kernel
theorem dX8_strike_33 : decode cX8_strike 33 = .ok (.putfield 143, 3) := by decide +kernel
theorem dX8_strike_36 : decode cX8_strike 36 = .ok (.iload_n 2, 1) := by decide +kernel
theorem dX8_strike_37 : decode cX8_strike 37 = .ok (.ireturn, 1) := by decide +kernel
theorem dX8_bell_0 : decode cX8_bell 0 = .ok (.iload_n 1, 1) := by decide +kernel
theorem dX8_bell_1 : decode cX8_bell 1 = .ok (.iconst (-1), 1) := by decide +kernel
theorem dX8_bell_2 : decode cX8_bell 2 = .ok (.if_icmp .eq 16, 3) := by decide +kernel
theorem dX8_bell_5 : decode cX8_bell 5 = .ok (.iload_n 1, 1) := by decide +kernel
theorem dX8_bell_6 : decode cX8_bell 6 = .ok (.invokestatic 121, 3) := by decide +kernel
theorem dX8_bell_9 : decode cX8_bell 9 = .ok (.ifCond .ne 9, 3) := by decide +kernel
theorem dX8_bell_12 : decode cX8_bell 12 = .ok (.aload_n 0, 1) := by decide +kernel
theorem dX8_bell_13 : decode cX8_bell 13 = .ok (.iconst (-1), 1) := by decide +kernel
theorem dX8_bell_14 : decode cX8_bell 14 = .ok (.invokevirtual 79, 3) := by decide +kernel
theorem dX8_bell_17 : decode cX8_bell 17 = .ok (.ireturn, 1) := by decide +kernel
theorem dX8_bell_18 : decode cX8_bell 18 = .ok (.iload_n 2, 1) := by decide +kernel
theorem dX8_bell_19 : decode cX8_bell 19 = .ok (.bipush 9, 2) := by decide +kernel
theorem dX8_bell_21 : decode cX8_bell 21 = .ok (.invokestatic 136, 3) := by decide +kernel
theorem dX8_bell_24 : decode cX8_bell 24 = .ok (.istore_n 3, 1) := by decide +kernel
theorem dX8_bell_25 : decode cX8_bell 25 = .ok (.iload_n 3, 1) := by decide +kernel
theorem dX8_bell_26 : decode cX8_bell 26 = .ok (.ifCond .eq 9, 3) := by decide +kernel
theorem dX8_bell_29 : decode cX8_bell 29 = .ok (.aload_n 0, 1) := by decide +kernel
theorem dX8_bell_30 : decode cX8_bell 30 = .ok (.iload_n 3, 1) := by decide +kernel
theorem dX8_bell_31 : decode cX8_bell 31 = .ok (.invokevirtual 79, 3) := by decide +kernel
theorem dX8_bell_34 : decode cX8_bell 34 = .ok (.ireturn, 1) := by decide +kernel
theorem dX8_bell_35 : decode cX8_bell 35 = .ok (.aload_n 0, 1) := by decide +kernel
theorem dX8_bell_36 : decode cX8_bell 36 = .ok (.getfield 10, 3) := by decide +kernel
theorem dX8_bell_39 : decode cX8_bell 39 = .ok (.getfield 146, 3) := by decide +kernel
theorem dX8_bell_42 : decode cX8_bell 42 = .ok (.istore 4, 2) := by decide +kernel
theorem dX8_bell_44 : decode cX8_bell 44 = .ok (.aload_n 0, 1) := by decide +kernel
theorem dX8_bell_45 : decode cX8_bell 45 = .ok (.getfield 10, 3) := by decide +kernel
theorem dX8_bell_48 : decode cX8_bell 48 = .ok (.iload_n 1, 1) := by decide +kernel
theorem dX8_bell_49 : decode cX8_bell 49 = .ok (.iconst (-1), 1) := by decide +kernel
theorem dX8_bell_50 : decode cX8_bell 50 = .ok (.if_icmp .ne 8, 3) := by decide +kernel
theorem dX8_bell_53 : decode cX8_bell 53 = .ok (.bipush (-9), 2) := by decide +kernel
theorem dX8_bell_55 : decode cX8_bell 55 = .ok (.goto 4, 3) := by decide +kernel
theorem dX8_bell_58 : decode cX8_bell 58 = .ok (.iload_n 1, 1) := by decide +kernel
theorem dX8_bell_59 : decode cX8_bell 59 = .ok (.putfield 146, 3) := by decide +kernel
theorem dX8_bell_62 : decode cX8_bell 62 = .ok (.aload_n 0, 1) := by decide +kernel
theorem dX8_bell_63 : decode cX8_bell 63 = .ok (.getfield 10, 3) := by decide +kernel
theorem dX8_bell_66 : decode cX8_bell 66 = .ok (.iload_n 2, 1) := by decide +kernel
theorem dX8_bell_67 : decode cX8_bell 67 = .ok (.putfield 149, 3) := by decide +kernel
theorem dX8_bell_70 : decode cX8_bell 70 = .ok (.iload 4, 2) := by decide +kernel
theorem dX8_bell_72 : decode cX8_bell 72 = .ok (.ireturn, 1) := by decide +kernel
theorem dX8_leave_0 : decode cX8_leave 0 = .ok (.aload_n 0, 1) := by decide +kernel
theorem dX8_leave_1 : decode cX8_leave 1 = .ok (.getfield 10, 3) := by decide +kernel
theorem dX8_leave_4 : decode cX8_leave 4 = .ok (.iload_n 1, 1) := by decide +kernel
theorem dX8_leave_5 : decode cX8_leave 5 = .ok (.invokevirtual 130, 3) := by decide +kernel
theorem dX8_leave_8 : decode cX8_leave 8 = .ok (.ifCond .eq 21, 3) := by decide +kernel
theorem dX8_leave_11 : decode cX8_leave 11 = .ok (.aload_n 0, 1) := by decide +kernel
theorem dX8_leave_12 : decode cX8_leave 12 = .ok (.getfield 10, 3) := by decide +kernel
theorem dX8_leave_15 : decode cX8_leave 15 = .ok (.iload_n 2, 1) := by decide +kernel
theorem dX8_leave_16 : decode cX8_leave 16 = .ok (.invokevirtual 102, 3) := by decide +kernel
theorem dX8_leave_19 : decode cX8_leave 19 = .ok (.ifCond .eq 10, 3) := by decide +kernel
theorem dX8_leave_22 : decode cX8_leave 22 = .ok (.iload_n 3, 1) := by decide +kernel
theorem dX8_leave_23 : decode cX8_leave 23 = .ok (.invokestatic 121, 3) := by decide +kernel
theorem dX8_leave_26 : decode cX8_leave 26 = .ok (.ifCond .ne 9, 3) := by decide +kernel
theorem dX8_leave_29 : decode cX8_leave 29 = .ok (.aload_n 0, 1) := by decide +kernel
theorem dX8_leave_30 : decode cX8_leave 30 = .ok (.iconst (-1), 1) := by decide +kernel
theorem dX8_leave_31 : decode cX8_leave 31 = .ok (.invokevirtual 79, 3) := by decide +kernel
theorem dX8_leave_34 : decode cX8_leave 34 = .ok (.ireturn, 1) := by decide +kernel
theorem dX8_leave_35 : decode cX8_leave 35 = .ok (.aload_n 0, 1) := by decide +kernel
theorem dX8_leave_36 : decode cX8_leave 36 = .ok (.getfield 10, 3) := by decide +kernel
theorem dX8_leave_39 : decode cX8_leave 39 = .ok (.iload_n 2, 1) := by decide +kernel
theorem dX8_leave_40 : decode cX8_leave 40 = .ok (.iload_n 3, 1) := by decide +kernel
theorem dX8_leave_41 : decode cX8_leave 41 = .ok (.invokevirtual 152, 3) := by decide +kernel
theorem dX8_leave_44 : decode cX8_leave 44 = .ok (.ifCond .eq 16, 3) := by decide +kernel
theorem dX8_leave_47 : decode cX8_leave 47 = .ok (.aload_n 0, 1) := by decide +kernel
theorem dX8_leave_48 : decode cX8_leave 48 = .ok (.getfield 34, 3) := by decide +kernel
theorem dX8_leave_51 : decode cX8_leave 51 = .ok (.iload_n 1, 1) := by decide +kernel
theorem dX8_leave_52 : decode cX8_leave 52 = .ok (.iload_n 2, 1) := by decide +kernel
theorem dX8_leave_53 : decode cX8_leave 53 = .ok (.iload_n 3, 1) := by decide +kernel
theorem dX8_leave_54 : decode cX8_leave 54 = .ok (.invokevirtual 156, 3) := by decide +kernel
theorem dX8_leave_57 : decode cX8_leave 57 = .ok (.goto 4, 3) := by decide +kernel
theorem dX8_leave_60 : decode cX8_leave 60 = .ok (.iconst 0, 1) := by decide +kernel
theorem dX8_leave_61 : decode cX8_leave 61 = .ok (.ireturn, 1) := by decide +kernel
theorem dX8_one_0 : decode cX8_one 0 = .ok (.aload_n 0, 1) := by decide +kernel
theorem dX8_one_1 : decode cX8_one 1 = .ok (.getfield 10, 3) := by decide +kernel
theorem dX8_one_4 : decode cX8_one 4 = .ok (.iload_n 1, 1) := by decide +kernel
theorem dX8_one_5 : decode cX8_one 5 = .ok (.invokevirtual 130, 3) := by decide +kernel
theorem dX8_one_8 : decode cX8_one 8 = .ok (.ifCond .ne 9, 3) := by decide +kernel
theorem dX8_one_11 : decode cX8_one 11 = .ok (.aload_n 0, 1) := by decide +kernel
theorem dX8_one_12 : decode cX8_one 12 = .ok (.iconst (-1), 1) := by decide +kernel
theorem dX8_one_13 : decode cX8_one 13 = .ok (.invokevirtual 79, 3) := by decide +kernel
theorem dX8_one_16 : decode cX8_one 16 = .ok (.ireturn, 1) := by decide +kernel
theorem dX8_one_17 : decode cX8_one 17 = .ok (.aload_n 0, 1) := by decide +kernel
theorem dX8_one_18 : decode cX8_one 18 = .ok (.getfield 34, 3) := by decide +kernel
theorem dX8_one_21 : decode cX8_one 21 = .ok (.iload_n 1, 1) := by decide +kernel
theorem dX8_one_22 : decode cX8_one 22 = .ok (.invokevirtual 160, 3) := by decide +kernel
theorem dX8_one_25 : decode cX8_one 25 = .ok (.aload_n 0, 1) := by decide +kernel
theorem dX8_one_26 : decode cX8_one 26 = .ok (.getfield 34, 3) := by decide +kernel
theorem dX8_one_29 : decode cX8_one 29 = .ok (.getfield 164, 3) := by decide +kernel
theorem dX8_one_32 : decode cX8_one 32 = .ok (.ireturn, 1) := by decide +kernel
theorem dX8_cost_0 : decode cX8_cost 0 = .ok (.aload_n 0, 1) := by decide +kernel
theorem dX8_cost_1 : decode cX8_cost 1 = .ok (.getfield 10, 3) := by decide +kernel
theorem dX8_cost_4 : decode cX8_cost 4 = .ok (.iload_n 1, 1) := by decide +kernel
theorem dX8_cost_5 : decode cX8_cost 5 = .ok (.invokevirtual 130, 3) := by decide +kernel
theorem dX8_cost_8 : decode cX8_cost 8 = .ok (.ifCond .ne 9, 3) := by decide +kernel
theorem dX8_cost_11 : decode cX8_cost 11 = .ok (.aload_n 0, 1) := by decide +kernel
theorem dX8_cost_12 : decode cX8_cost 12 = .ok (.iconst (-1), 1) := by decide +kernel
theorem dX8_cost_13 : decode cX8_cost 13 = .ok (.invokevirtual 79, 3) := by decide +kernel
theorem dX8_cost_16 : decode cX8_cost 16 = .ok (.ireturn, 1) := by decide +kernel
theorem dX8_cost_17 : decode cX8_cost 17 = .ok (.aload_n 0, 1) := by decide +kernel
theorem dX8_cost_18 : decode cX8_cost 18 = .ok (.getfield 34, 3) := by decide +kernel
theorem dX8_cost_21 : decode cX8_cost 21 = .ok (.iload_n 1, 1) := by decide +kernel
theorem dX8_cost_22 : decode cX8_cost 22 = .ok (.invokevirtual 160, 3) := by decide +kernel
theorem dX8_cost_25 : decode cX8_cost 25 = .ok (.aload_n 0, 1) := by decide +kernel
theorem dX8_cost_26 : decode cX8_cost 26 = .ok (.getfield 34, 3) := by decide +kernel
theorem dX8_cost_29 : decode cX8_cost 29 = .ok (.getfield 167, 3) := by decide +kernel
theorem dX8_cost_32 : decode cX8_cost 32 = .ok (.ireturn, 1) := by decide +kernel
theorem dX8_net_0 : decode cX8_net 0 = .ok (.aload_n 0, 1) := by decide +kernel
theorem dX8_net_1 : decode cX8_net 1 = .ok (.getfield 10, 3) := by decide +kernel
theorem dX8_net_4 : decode cX8_net 4 = .ok (.iload_n 1, 1) := by decide +kernel
theorem dX8_net_5 : decode cX8_net 5 = .ok (.invokevirtual 130, 3) := by decide +kernel
theorem dX8_net_8 : decode cX8_net 8 = .ok (.ifCond .ne 9, 3) := by decide +kernel
theorem dX8_net_11 : decode cX8_net 11 = .ok (.aload_n 0, 1) := by decide +kernel
theorem dX8_net_12 : decode cX8_net 12 = .ok (.iconst (-1), 1) := by decide +kernel
theorem dX8_net_13 : decode cX8_net 13 = .ok (.invokevirtual 79, 3) := by decide +kernel
theorem dX8_net_16 : decode cX8_net 16 = .ok (.ireturn, 1) := by decide +kernel
theorem dX8_net_17 : decode cX8_net 17 = .ok (.aload_n 0, 1) := by decide +kernel
theorem dX8_net_18 : decode cX8_net 18 = .ok (.getfield 34, 3) := by decide +kernel
theorem dX8_net_21 : decode cX8_net 21 = .ok (.iload_n 1, 1) := by decide +kernel
theorem dX8_net_22 : decode cX8_net 22 = .ok (.invokevirtual 160, 3) := by decide +kernel
theorem dX8_net_25 : decode cX8_net 25 = .ok (.aload_n 0, 1) := by decide +kernel
theorem dX8_net_26 : decode cX8_net 26 = .ok (.getfield 10, 3) := by decide +kernel
theorem dX8_net_29 : decode cX8_net 29 = .ok (.getfield 133, 3) := by decide +kernel
theorem dX8_net_32 : decode cX8_net 32 = .ok (.iload_n 1, 1) := by decide +kernel
theorem dX8_net_33 : decode cX8_net 33 = .ok (.aaload, 1) := by decide +kernel
theorem dX8_net_34 : decode cX8_net 34 = .ok (.iconst 4, 1) := by decide +kernel
theorem dX8_net_35 : decode cX8_net 35 = .ok (.iaload, 1) := by decide +kernel
theorem dX8_net_36 : decode cX8_net 36 = .ok (.aload_n 0, 1) := by decide +kernel
theorem dX8_net_37 : decode cX8_net 37 = .ok (.getfield 34, 3) := by decide +kernel
theorem dX8_net_40 : decode cX8_net 40 = .ok (.getfield 167, 3) := by decide +kernel
theorem dX8_net_43 : decode cX8_net 43 = .ok (.invokestatic 170, 3) := by decide +kernel
theorem dX8_net_46 : decode cX8_net 46 = .ok (.ireturn, 1) := by decide +kernel
theorem dX8_bars_0 : decode cX8_bars 0 = .ok (.aload_n 0, 1) := by decide +kernel
theorem dX8_bars_1 : decode cX8_bars 1 = .ok (.getfield 10, 3) := by decide +kernel
theorem dX8_bars_4 : decode cX8_bars 4 = .ok (.iload_n 1, 1) := by decide +kernel
theorem dX8_bars_5 : decode cX8_bars 5 = .ok (.invokevirtual 130, 3) := by decide +kernel
theorem dX8_bars_8 : decode cX8_bars 8 = .ok (.ifCond .ne 9, 3) := by decide +kernel
theorem dX8_bars_11 : decode cX8_bars 11 = .ok (.aload_n 0, 1) := by decide +kernel
theorem dX8_bars_12 : decode cX8_bars 12 = .ok (.iconst (-1), 1) := by decide +kernel
theorem dX8_bars_13 : decode cX8_bars 13 = .ok (.invokevirtual 79, 3) := by decide +kernel
theorem dX8_bars_16 : decode cX8_bars 16 = .ok (.ireturn, 1) := by decide +kernel
theorem dX8_bars_17 : decode cX8_bars 17 = .ok (.aload_n 0, 1) := by decide +kernel
theorem dX8_bars_18 : decode cX8_bars 18 = .ok (.getfield 57, 3) := by decide +kernel
theorem dX8_bars_21 : decode cX8_bars 21 = .ok (.iload_n 1, 1) := by decide +kernel
theorem dX8_bars_22 : decode cX8_bars 22 = .ok (.invokevirtual 173, 3) := by decide +kernel
theorem dX8_bars_25 : decode cX8_bars 25 = .ok (.istore_n 2, 1) := by decide +kernel
theorem dX8_bars_26 : decode cX8_bars 26 = .ok (.iload_n 2, 1) := by decide +kernel
theorem dX8_bars_27 : decode cX8_bars 27 = .ok (.bipush (-9), 2) := by decide +kernel
theorem dX8_bars_29 : decode cX8_bars 29 = .ok (.if_icmp .ne 12, 3) := by decide +kernel
theorem dX8_bars_32 : decode cX8_bars 32 = .ok (.aload_n 0, 1) := by decide +kernel
theorem dX8_bars_33 : decode cX8_bars 33 = .ok (.bipush (-3), 2) := by decide +kernel
theorem dX8_bars_35 : decode cX8_bars 35 = .ok (.invokevirtual 79, 3) := by decide +kernel
theorem dX8_bars_38 : decode cX8_bars 38 = .ok (.goto 4, 3) := by decide +kernel
theorem dX8_bars_41 : decode cX8_bars 41 = .ok (.iload_n 2, 1) := by decide +kernel
theorem dX8_bars_42 : decode cX8_bars 42 = .ok (.ireturn, 1) := by decide +kernel
theorem dX8_all_0 : decode cX8_all 0 = .ok (.aload_n 0, 1) := by decide +kernel
theorem dX8_all_1 : decode cX8_all 1 = .ok (.getfield 10, 3) := by decide +kernel
theorem dX8_all_4 : decode cX8_all 4 = .ok (.invokevirtual 176, 3) := by decide +kernel
theorem dX8_all_7 : decode cX8_all 7 = .ok (.iconst 3, 1) := by decide +kernel
theorem dX8_all_8 : decode cX8_all 8 = .ok (.if_icmp .le 10, 3) := by decide +kernel
theorem dX8_all_11 : decode cX8_all 11 = .ok (.aload_n 0, 1) := by decide +kernel
theorem dX8_all_12 : decode cX8_all 12 = .ok (.bipush (-6), 2) := by decide +kernel
theorem dX8_all_14 : decode cX8_all 14 = .ok (.invokevirtual 79, 3) := by decide +kernel
theorem dX8_all_17 : decode cX8_all 17 = .ok (.ireturn, 1) := by decide +kernel
theorem dX8_all_18 : decode cX8_all 18 = .ok (.aload_n 0, 1) := by decide +kernel
theorem dX8_all_19 : decode cX8_all 19 = .ok (.getfield 50, 3) := by decide +kernel
theorem dX8_all_22 : decode cX8_all 22 = .ok (.invokevirtual 179, 3) := by decide +kernel
theorem dX8_all_25 : decode cX8_all 25 = .ok (.aload_n 0, 1) := by decide +kernel
theorem dX8_all_26 : decode cX8_all 26 = .ok (.getfield 50, 3) := by decide +kernel
theorem dX8_all_29 : decode cX8_all 29 = .ok (.getfield 182, 3) := by decide +kernel
theorem dX8_all_32 : decode cX8_all 32 = .ok (.ireturn, 1) := by decide +kernel
theorem dX8_begin_0 : decode cX8_begin 0 = .ok (.aload_n 0, 1) := by decide +kernel
theorem dX8_begin_1 : decode cX8_begin 1 = .ok (.getfield 10, 3) := by decide +kernel
theorem dX8_begin_4 : decode cX8_begin 4 = .ok (.iload_n 1, 1) := by decide +kernel
theorem dX8_begin_5 : decode cX8_begin 5 = .ok (.invokevirtual 130, 3) := by decide +kernel
theorem dX8_begin_8 : decode cX8_begin 8 = .ok (.ifCond .ne 9, 3) := by decide +kernel
theorem dX8_begin_11 : decode cX8_begin 11 = .ok (.aload_n 0, 1) := by decide +kernel
theorem dX8_begin_12 : decode cX8_begin 12 = .ok (.iconst (-1), 1) := by decide +kernel
theorem dX8_begin_13 : decode cX8_begin 13 = .ok (.invokevirtual 79, 3) := by decide +kernel
theorem dX8_begin_16 : decode cX8_begin 16 = .ok (.ireturn, 1) := by decide +kernel
theorem dX8_begin_17 : decode cX8_begin 17 = .ok (.aload_n 0, 1) := by decide +kernel
theorem dX8_begin_18 : decode cX8_begin 18 = .ok (.getfield 10, 3) := by decide +kernel
theorem dX8_begin_21 : decode cX8_begin 21 = .ok (.invokevirtual 176, 3) := by decide +kernel
theorem dX8_begin_24 : decode cX8_begin 24 = .ok (.iconst 3, 1) := by decide +kernel
theorem dX8_begin_25 : decode cX8_begin 25 = .ok (.if_icmp .le 10, 3) := by decide +kernel
theorem dX8_begin_28 : decode cX8_begin 28 = .ok (.aload_n 0, 1) := by decide +kernel
theorem dX8_begin_29 : decode cX8_begin 29 = .ok (.bipush (-6), 2) := by decide +kernel
theorem dX8_begin_31 : decode cX8_begin 31 = .ok (.invokevirtual 79, 3) := by decide +kernel
theorem dX8_begin_34 : decode cX8_begin 34 = .ok (.ireturn, 1) := by decide +kernel
theorem dX8_begin_35 : decode cX8_begin 35 = .ok (.aload_n 0, 1) := by decide +kernel
theorem dX8_begin_36 : decode cX8_begin 36 = .ok (.getfield 50, 3) := by decide +kernel
theorem dX8_begin_39 : decode cX8_begin 39 = .ok (.invokevirtual 179, 3) := by decide +kernel
theorem dX8_begin_42 : decode cX8_begin 42 = .ok (.aload_n 0, 1) := by decide +kernel
theorem dX8_begin_43 : decode cX8_begin 43 = .ok (.getfield 50, 3) := by decide +kernel
theorem dX8_begin_46 : decode cX8_begin 46 = .ok (.iload_n 1, 1) := by decide +kernel
theorem dX8_begin_47 : decode cX8_begin 47 = .ok (.invokevirtual 185, 3) := by decide +kernel
theorem dX8_begin_50 : decode cX8_begin 50 = .ok (.ireturn, 1) := by decide +kernel
theorem dX8_ask_0 : decode cX8_ask 0 = .ok (.aload_n 0, 1) := by decide +kernel
theorem dX8_ask_1 : decode cX8_ask 1 = .ok (.getfield 10, 3) := by decide +kernel
theorem dX8_ask_4 : decode cX8_ask 4 = .ok (.iload_n 1, 1) := by decide +kernel
theorem dX8_ask_5 : decode cX8_ask 5 = .ok (.invokevirtual 102, 3) := by decide +kernel
theorem dX8_ask_8 : decode cX8_ask 8 = .ok (.ifCond .eq 14, 3) := by decide +kernel
theorem dX8_ask_11 : decode cX8_ask 11 = .ok (.aload_n 0, 1) := by decide +kernel
theorem dX8_ask_12 : decode cX8_ask 12 = .ok (.getfield 43, 3) := by decide +kernel
theorem dX8_ask_15 : decode cX8_ask 15 = .ok (.iload_n 1, 1) := by decide +kernel
theorem dX8_ask_16 : decode cX8_ask 16 = .ok (.invokevirtual 188, 3) := by decide +kernel
theorem dX8_ask_19 : decode cX8_ask 19 = .ok (.goto 8, 3) := by decide +kernel
theorem dX8_ask_22 : decode cX8_ask 22 = .ok (.aload_n 0, 1) := by decide +kernel
theorem dX8_ask_23 : decode cX8_ask 23 = .ok (.iconst (-1), 1) := by decide +kernel
theorem dX8_ask_24 : decode cX8_ask 24 = .ok (.invokevirtual 79, 3) := by decide +kernel
theorem dX8_ask_27 : decode cX8_ask 27 = .ok (.ireturn, 1) := by decide +kernel
theorem dX8_rest_0 : decode cX8_rest 0 = .ok (.aload_n 0, 1) := by decide +kernel
theorem dX8_rest_1 : decode cX8_rest 1 = .ok (.getfield 43, 3) := by decide +kernel
theorem dX8_rest_4 : decode cX8_rest 4 = .ok (.invokevirtual 191, 3) := by decide +kernel
theorem dX8_rest_7 : decode cX8_rest 7 = .ok (.ireturn, 1) := by decide +kernel
theorem dX8_stop_0 : decode cX8_stop 0 = .ok (.aload_n 0, 1) := by decide +kernel
theorem dX8_stop_1 : decode cX8_stop 1 = .ok (.getfield 10, 3) := by decide +kernel
theorem dX8_stop_4 : decode cX8_stop 4 = .ok (.iload_n 1, 1) := by decide +kernel
theorem dX8_stop_5 : decode cX8_stop 5 = .ok (.invokevirtual 130, 3) := by decide +kernel
theorem dX8_stop_8 : decode cX8_stop 8 = .ok (.ifCond .eq 14, 3) := by decide +kernel
theorem dX8_stop_11 : decode cX8_stop 11 = .ok (.aload_n 0, 1) := by decide +kernel
theorem dX8_stop_12 : decode cX8_stop 12 = .ok (.getfield 57, 3) := by decide +kernel
theorem dX8_stop_15 : decode cX8_stop 15 = .ok (.iload_n 1, 1) := by decide +kernel
theorem dX8_stop_16 : decode cX8_stop 16 = .ok (.invokevirtual 194, 3) := by decide +kernel
theorem dX8_stop_19 : decode cX8_stop 19 = .ok (.goto 8, 3) := by decide +kernel
theorem dX8_stop_22 : decode cX8_stop 22 = .ok (.aload_n 0, 1) := by decide +kernel
theorem dX8_stop_23 : decode cX8_stop 23 = .ok (.iconst (-1), 1) := by decide +kernel
theorem dX8_stop_24 : decode cX8_stop 24 = .ok (.invokevirtual 79, 3) := by decide +kernel
theorem dX8_stop_27 : decode cX8_stop 27 = .ok (.ireturn, 1) := by decide +kernel
theorem dX8_stopAll_0 : decode cX8_stopAll 0 = .ok (.aload_n 0, 1) := by decide +kernel
theorem dX8_stopAll_1 : decode cX8_stopAll 1 = .ok (.getfield 57, 3) := by decide +kernel
theorem dX8_stopAll_4 : decode cX8_stopAll 4 = .ok (.invokevirtual 197, 3) := by decide +kernel
theorem dX8_stopAll_7 : decode cX8_stopAll 7 = .ok (.ireturn, 1) := by decide +kernel
theorem dX8_power_0 : decode cX8_power 0 = .ok (.aload_n 0, 1) := by decide +kernel
theorem dX8_power_1 : decode cX8_power 1 = .ok (.getfield 10, 3) := by decide +kernel
theorem dX8_power_4 : decode cX8_power 4 = .ok (.iload_n 1, 1) := by decide +kernel
theorem dX8_power_5 : decode cX8_power 5 = .ok (.invokevirtual 102, 3) := by decide +kernel
theorem dX8_power_8 : decode cX8_power 8 = .ok (.ifCond .eq 29, 3) := by decide +kernel
theorem dX8_power_11 : decode cX8_power 11 = .ok (.aload_n 0, 1) := by decide +kernel
theorem dX8_power_12 : decode cX8_power 12 = .ok (.getfield 10, 3) := by decide +kernel
theorem dX8_power_15 : decode cX8_power 15 = .ok (.iload_n 2, 1) := by decide +kernel
theorem dX8_power_16 : decode cX8_power 16 = .ok (.invokevirtual 130, 3) := by decide +kernel
theorem dX8_power_19 : decode cX8_power 19 = .ok (.ifCond .eq 18, 3) := by decide +kernel
theorem dX8_power_22 : decode cX8_power 22 = .ok (.aload_n 0, 1) := by decide +kernel
theorem dX8_power_23 : decode cX8_power 23 = .ok (.getfield 10, 3) := by decide +kernel
theorem dX8_power_26 : decode cX8_power 26 = .ok (.getfield 133, 3) := by decide +kernel
theorem dX8_power_29 : decode cX8_power 29 = .ok (.iload_n 2, 1) := by decide +kernel
theorem dX8_power_30 : decode cX8_power 30 = .ok (.aaload, 1) := by decide +kernel
theorem dX8_power_31 : decode cX8_power 31 = .ok (.iconst 0, 1) := by decide +kernel
theorem dX8_power_32 : decode cX8_power 32 = .ok (.iaload, 1) := by decide +kernel
theorem dX8_power_33 : decode cX8_power 33 = .ok (.iload_n 1, 1) := by decide +kernel
theorem dX8_power_34 : decode cX8_power 34 = .ok (.if_icmp .ne 9, 3) := by decide +kernel
theorem dX8_power_37 : decode cX8_power 37 = .ok (.aload_n 0, 1) := by decide +kernel
theorem dX8_power_38 : decode cX8_power 38 = .ok (.iconst (-1), 1) := by decide +kernel
theorem dX8_power_39 : decode cX8_power 39 = .ok (.invokevirtual 79, 3) := by decide +kernel
theorem dX8_power_42 : decode cX8_power 42 = .ok (.ireturn, 1) := by decide +kernel
theorem dX8_power_43 : decode cX8_power 43 = .ok (.iload_n 3, 1) := by decide +kernel
theorem dX8_power_44 : decode cX8_power 44 = .ok (.ifCond .lt 8, 3) := by decide +kernel
theorem dX8_power_47 : decode cX8_power 47 = .ok (.iload_n 3, 1) := by decide +kernel
theorem dX8_power_48 : decode cX8_power 48 = .ok (.iconst 1, 1) := by decide +kernel
theorem dX8_power_49 : decode cX8_power 49 = .ok (.if_icmp .le 10, 3) := by decide +kernel
theorem dX8_power_52 : decode cX8_power 52 = .ok (.aload_n 0, 1) := by decide +kernel
theorem dX8_power_53 : decode cX8_power 53 = .ok (.bipush (-2), 2) := by decide +kernel
theorem dX8_power_55 : decode cX8_power 55 = .ok (.invokevirtual 79, 3) := by decide +kernel
theorem dX8_power_58 : decode cX8_power 58 = .ok (.ireturn, 1) := by decide +kernel
theorem dX8_power_59 : decode cX8_power 59 = .ok (.aload_n 0, 1) := by decide +kernel
theorem dX8_power_60 : decode cX8_power 60 = .ok (.getfield 10, 3) := by decide +kernel
theorem dX8_power_63 : decode cX8_power 63 = .ok (.getfield 200, 3) := by decide +kernel
theorem dX8_power_66 : decode cX8_power 66 = .ok (.bipush 6, 2) := by decide +kernel
theorem dX8_power_68 : decode cX8_power 68 = .ok (.if_icmp .le 10, 3) := by decide +kernel
theorem dX8_power_71 : decode cX8_power 71 = .ok (.aload_n 0, 1) := by decide +kernel
theorem dX8_power_72 : decode cX8_power 72 = .ok (.bipush (-6), 2) := by decide +kernel
theorem dX8_power_74 : decode cX8_power 74 = .ok (.invokevirtual 79, 3) := by decide +kernel
theorem dX8_power_77 : decode cX8_power 77 = .ok (.ireturn, 1) := by decide +kernel
theorem dX8_power_78 : decode cX8_power 78 = .ok (.aload_n 0, 1) := by decide +kernel
theorem dX8_power_79 : decode cX8_power 79 = .ok (.getfield 57, 3) := by decide +kernel
theorem dX8_power_82 : decode cX8_power 82 = .ok (.iload_n 1, 1) := by decide +kernel
theorem dX8_power_83 : decode cX8_power 83 = .ok (.iload_n 2, 1) := by decide +kernel
theorem dX8_power_84 : decode cX8_power 84 = .ok (.invokevirtual 203, 3) := by decide +kernel
theorem dX8_power_87 : decode cX8_power 87 = .ok (.istore 4, 2) := by decide +kernel
theorem dX8_power_89 : decode cX8_power 89 = .ok (.aload_n 0, 1) := by decide +kernel
theorem dX8_power_90 : decode cX8_power 90 = .ok (.getfield 57, 3) := by decide +kernel
theorem dX8_power_93 : decode cX8_power 93 = .ok (.invokevirtual 206, 3) := by decide +kernel
theorem dX8_power_96 : decode cX8_power 96 = .ok (.istore 5, 2) := by decide +kernel
theorem dX8_power_98 : decode cX8_power 98 = .ok (.iload 4, 2) := by decide +kernel
theorem dX8_power_100 : decode cX8_power 100 = .ok (.iload 5, 2) := by decide +kernel
theorem dX8_power_102 : decode cX8_power 102 = .ok (.invokestatic 209, 3) := by decide +kernel
theorem dX8_power_105 : decode cX8_power 105 = .ok (.istore 6, 2) := by decide +kernel
theorem dX8_power_107 : decode cX8_power 107 = .ok (.iload_n 3, 1) := by decide +kernel
theorem dX8_power_108 : decode cX8_power 108 = .ok (.ifCond .ne 8, 3) := by decide +kernel
theorem dX8_power_111 : decode cX8_power 111 = .ok (.iload 4, 2) := by decide +kernel
theorem dX8_power_113 : decode cX8_power 113 = .ok (.goto 5, 3) := by decide +kernel
theorem dX8_power_116 : decode cX8_power 116 = .ok (.iload 5, 2) := by decide +kernel
theorem dX8_power_118 : decode cX8_power 118 = .ok (.iconst 1, 1) := by decide +kernel
theorem dX8_power_119 : decode cX8_power 119 = .ok (.iload 6, 2) := by decide +kernel
theorem dX8_power_121 : decode cX8_power 121 = .ok (.invokestatic 212, 3) := by decide +kernel
theorem dX8_power_124 : decode cX8_power 124 = .ok (.idiv, 1) := by decide +kernel
theorem dX8_power_125 : decode cX8_power 125 = .ok (.ireturn, 1) := by decide +kernel
theorem dX8_wed_0 : decode cX8_wed 0 = .ok (.aload_n 0, 1) := by decide +kernel
theorem dX8_wed_1 : decode cX8_wed 1 = .ok (.getfield 10, 3) := by decide +kernel
theorem dX8_wed_4 : decode cX8_wed 4 = .ok (.iload_n 1, 1) := by decide +kernel
theorem dX8_wed_5 : decode cX8_wed 5 = .ok (.invokevirtual 102, 3) := by decide +kernel
theorem dX8_wed_8 : decode cX8_wed 8 = .ok (.ifCond .eq 14, 3) := by decide +kernel
theorem dX8_wed_11 : decode cX8_wed 11 = .ok (.aload_n 0, 1) := by decide +kernel
theorem dX8_wed_12 : decode cX8_wed 12 = .ok (.getfield 64, 3) := by decide +kernel
theorem dX8_wed_15 : decode cX8_wed 15 = .ok (.iload_n 1, 1) := by decide +kernel
theorem dX8_wed_16 : decode cX8_wed 16 = .ok (.invokevirtual 217, 3) := by decide +kernel
theorem dX8_wed_19 : decode cX8_wed 19 = .ok (.goto 8, 3) := by decide +kernel
theorem dX8_wed_22 : decode cX8_wed 22 = .ok (.aload_n 0, 1) := by decide +kernel
theorem dX8_wed_23 : decode cX8_wed 23 = .ok (.iconst (-1), 1) := by decide +kernel
theorem dX8_wed_24 : decode cX8_wed 24 = .ok (.invokevirtual 79, 3) := by decide +kernel
theorem dX8_wed_27 : decode cX8_wed 27 = .ok (.ireturn, 1) := by decide +kernel
theorem dX8_marry_0 : decode cX8_marry 0 = .ok (.aload_n 0, 1) := by decide +kernel
theorem dX8_marry_1 : decode cX8_marry 1 = .ok (.getfield 10, 3) := by decide +kernel
theorem dX8_marry_4 : decode cX8_marry 4 = .ok (.iload_n 1, 1) := by decide +kernel
theorem dX8_marry_5 : decode cX8_marry 5 = .ok (.invokevirtual 102, 3) := by decide +kernel
theorem dX8_marry_8 : decode cX8_marry 8 = .ok (.ifCond .eq 19, 3) := by decide +kernel
theorem dX8_marry_11 : decode cX8_marry 11 = .ok (.aload_n 0, 1) := by decide +kernel
theorem dX8_marry_12 : decode cX8_marry 12 = .ok (.getfield 10, 3) := by decide +kernel
theorem dX8_marry_15 : decode cX8_marry 15 = .ok (.iload_n 2, 1) := by decide +kernel
theorem dX8_marry_16 : decode cX8_marry 16 = .ok (.invokevirtual 102, 3) := by decide +kernel
theorem dX8_marry_19 : decode cX8_marry 19 = .ok (.ifCond .eq 8, 3) := by decide +kernel
theorem dX8_marry_22 : decode cX8_marry 22 = .ok (.iload_n 1, 1) := by decide +kernel
theorem dX8_marry_23 : decode cX8_marry 23 = .ok (.iload_n 2, 1) := by decide +kernel
theorem dX8_marry_24 : decode cX8_marry 24 = .ok (.if_icmp .ne 9, 3) := by decide +kernel
theorem dX8_marry_27 : decode cX8_marry 27 = .ok (.aload_n 0, 1) := by decide +kernel
theorem dX8_marry_28 : decode cX8_marry 28 = .ok (.iconst (-1), 1) := by decide +kernel
theorem dX8_marry_29 : decode cX8_marry 29 = .ok (.invokevirtual 79, 3) := by decide +kernel
theorem dX8_marry_32 : decode cX8_marry 32 = .ok (.ireturn, 1) := by decide +kernel
theorem dX8_marry_33 : decode cX8_marry 33 = .ok (.aload_n 0, 1) := by decide +kernel
theorem dX8_marry_34 : decode cX8_marry 34 = .ok (.getfield 10, 3) := by decide +kernel
theorem dX8_marry_37 : decode cX8_marry 37 = .ok (.iload_n 1, 1) := by decide +kernel
theorem dX8_marry_38 : decode cX8_marry 38 = .ok (.invokevirtual 220, 3) := by decide +kernel
theorem dX8_marry_41 : decode cX8_marry 41 = .ok (.aload_n 0, 1) := by decide +kernel
theorem dX8_marry_42 : decode cX8_marry 42 = .ok (.getfield 10, 3) := by decide +kernel
theorem dX8_marry_45 : decode cX8_marry 45 = .ok (.iload_n 2, 1) := by decide +kernel
theorem dX8_marry_46 : decode cX8_marry 46 = .ok (.invokevirtual 220, 3) := by decide +kernel
theorem dX8_marry_49 : decode cX8_marry 49 = .ok (.aload_n 0, 1) := by decide +kernel
theorem dX8_marry_50 : decode cX8_marry 50 = .ok (.getfield 10, 3) := by decide +kernel
theorem dX8_marry_53 : decode cX8_marry 53 = .ok (.getfield 223, 3) := by decide +kernel
theorem dX8_marry_56 : decode cX8_marry 56 = .ok (.iload_n 1, 1) := by decide +kernel
theorem dX8_marry_57 : decode cX8_marry 57 = .ok (.iload_n 2, 1) := by decide +kernel
theorem dX8_marry_58 : decode cX8_marry 58 = .ok (.iastore, 1) := by decide +kernel
theorem dX8_marry_59 : decode cX8_marry 59 = .ok (.aload_n 0, 1) := by decide +kernel
theorem dX8_marry_60 : decode cX8_marry 60 = .ok (.getfield 10, 3) := by decide +kernel
theorem dX8_marry_63 : decode cX8_marry 63 = .ok (.getfield 223, 3) := by decide +kernel
theorem dX8_marry_66 : decode cX8_marry 66 = .ok (.iload_n 2, 1) := by decide +kernel
theorem dX8_marry_67 : decode cX8_marry 67 = .ok (.iload_n 1, 1) := by decide +kernel
theorem dX8_marry_68 : decode cX8_marry 68 = .ok (.iastore, 1) := by decide +kernel
theorem dX8_marry_69 : decode cX8_marry 69 = .ok (.iconst 1, 1) := by decide +kernel
theorem dX8_marry_70 : decode cX8_marry 70 = .ok (.ireturn, 1) := by decide +kernel
theorem dX8_wedTo_0 : decode cX8_wedTo 0 = .ok (.aload_n 0, 1) := by decide +kernel
theorem dX8_wedTo_1 : decode cX8_wedTo 1 = .ok (.getfield 10, 3) := by decide +kernel
theorem dX8_wedTo_4 : decode cX8_wedTo 4 = .ok (.iload_n 1, 1) := by decide +kernel
theorem dX8_wedTo_5 : decode cX8_wedTo 5 = .ok (.invokevirtual 102, 3) := by decide +kernel
theorem dX8_wedTo_8 : decode cX8_wedTo 8 = .ok (.ifCond .eq 15, 3) := by decide +kernel
theorem dX8_wedTo_11 : decode cX8_wedTo 11 = .ok (.aload_n 0, 1) := by decide +kernel
theorem dX8_wedTo_12 : decode cX8_wedTo 12 = .ok (.getfield 10, 3) := by decide +kernel
theorem dX8_wedTo_15 : decode cX8_wedTo 15 = .ok (.getfield 223, 3) := by decide +kernel
theorem dX8_wedTo_18 : decode cX8_wedTo 18 = .ok (.iload_n 1, 1) := by decide +kernel
theorem dX8_wedTo_19 : decode cX8_wedTo 19 = .ok (.iaload, 1) := by decide +kernel
theorem dX8_wedTo_20 : decode cX8_wedTo 20 = .ok (.goto 8, 3) := by decide +kernel
theorem dX8_wedTo_23 : decode cX8_wedTo 23 = .ok (.aload_n 0, 1) := by decide +kernel
theorem dX8_wedTo_24 : decode cX8_wedTo 24 = .ok (.iconst (-1), 1) := by decide +kernel
theorem dX8_wedTo_25 : decode cX8_wedTo 25 = .ok (.invokevirtual 79, 3) := by decide +kernel
theorem dX8_wedTo_28 : decode cX8_wedTo 28 = .ok (.ireturn, 1) := by decide +kernel
theorem dX8_heirs_0 : decode cX8_heirs 0 = .ok (.iload_n 1, 1) := by decide +kernel
theorem dX8_heirs_1 : decode cX8_heirs 1 = .ok (.invokestatic 121, 3) := by decide +kernel
theorem dX8_heirs_4 : decode cX8_heirs 4 = .ok (.ifCond .ne 9, 3) := by decide +kernel
theorem dX8_heirs_7 : decode cX8_heirs 7 = .ok (.aload_n 0, 1) := by decide +kernel
theorem dX8_heirs_8 : decode cX8_heirs 8 = .ok (.iconst (-1), 1) := by decide +kernel
theorem dX8_heirs_9 : decode cX8_heirs 9 = .ok (.invokevirtual 79, 3) := by decide +kernel
theorem dX8_heirs_12 : decode cX8_heirs 12 = .ok (.ireturn, 1) := by decide +kernel
theorem dX8_heirs_13 : decode cX8_heirs 13 = .ok (.iload_n 2, 1) := by decide +kernel
theorem dX8_heirs_14 : decode cX8_heirs 14 = .ok (.sipush 9999, 3) := by decide +kernel
theorem dX8_heirs_17 : decode cX8_heirs 17 = .ok (.invokestatic 136, 3) := by decide +kernel
theorem dX8_heirs_20 : decode cX8_heirs 20 = .ok (.istore_n 3, 1) := by decide +kernel
theorem dX8_heirs_21 : decode cX8_heirs 21 = .ok (.iload_n 3, 1) := by decide +kernel
theorem dX8_heirs_22 : decode cX8_heirs 22 = .ok (.ifCond .eq 9, 3) := by decide +kernel
theorem dX8_heirs_25 : decode cX8_heirs 25 = .ok (.aload_n 0, 1) := by decide +kernel
theorem dX8_heirs_26 : decode cX8_heirs 26 = .ok (.iload_n 3, 1) := by decide +kernel
theorem dX8_heirs_27 : decode cX8_heirs 27 = .ok (.invokevirtual 79, 3) := by decide +kernel
theorem dX8_heirs_30 : decode cX8_heirs 30 = .ok (.ireturn, 1) := by decide +kernel
theorem dX8_heirs_31 : decode cX8_heirs 31 = .ok (.iconst 0, 1) := by decide +kernel
theorem dX8_heirs_32 : decode cX8_heirs 32 = .ok (.istore 4, 2) := by decide +kernel
theorem dX8_heirs_34 : decode cX8_heirs 34 = .ok (.iload 4, 2) := by decide +kernel
theorem dX8_heirs_36 : decode cX8_heirs 36 = .ok (.bipush 20, 2) := by decide +kernel
theorem dX8_heirs_38 : decode cX8_heirs 38 = .ok (.if_icmp .gt 28, 3) := by decide +kernel
theorem dX8_heirs_41 : decode cX8_heirs 41 = .ok (.aload_n 0, 1) := by decide +kernel
theorem dX8_heirs_42 : decode cX8_heirs 42 = .ok (.getfield 10, 3) := by decide +kernel
theorem dX8_heirs_45 : decode cX8_heirs 45 = .ok (.getfield 124, 3) := by decide +kernel
theorem dX8_heirs_48 : decode cX8_heirs 48 = .ok (.iload_n 1, 1) := by decide +kernel
theorem dX8_heirs_49 : decode cX8_heirs 49 = .ok (.iaload, 1) := by decide +kernel
theorem dX8_heirs_50 : decode cX8_heirs 50 = .ok (.iload 4, 2) := by decide +kernel
theorem dX8_heirs_52 : decode cX8_heirs 52 = .ok (.ishl, 1) := by decide +kernel
theorem dX8_heirs_53 : decode cX8_heirs 53 = .ok (.iload_n 2, 1) := by decide +kernel
theorem dX8_heirs_54 : decode cX8_heirs 54 = .ok (.if_icmp .le 6, 3) := by decide +kernel
theorem dX8_heirs_57 : decode cX8_heirs 57 = .ok (.iload 4, 2) := by decide +kernel
theorem dX8_heirs_59 : decode cX8_heirs 59 = .ok (.ireturn, 1) := by decide +kernel
theorem dX8_heirs_60 : decode cX8_heirs 60 = .ok (.iinc 4 1, 3) := by decide +kernel
theorem dX8_heirs_63 : decode cX8_heirs 63 = .ok (.goto (-29), 3) := by decide +kernel
theorem dX8_heirs_66 : decode cX8_heirs 66 = .ok (.bipush (-9), 2) := by decide +kernel
theorem dX8_heirs_68 : decode cX8_heirs 68 = .ok (.ireturn, 1) := by decide +kernel
theorem dX8_give_0 : decode cX8_give 0 = .ok (.aload_n 0, 1) := by decide +kernel
theorem dX8_give_1 : decode cX8_give 1 = .ok (.getfield 64, 3) := by decide +kernel
theorem dX8_give_4 : decode cX8_give 4 = .ok (.invokevirtual 226, 3) := by decide +kernel
theorem dX8_give_7 : decode cX8_give 7 = .ok (.ireturn, 1) := by decide +kernel
theorem dX8_together_0 : decode cX8_together 0 = .ok (.aload_n 0, 1) := by decide +kernel
theorem dX8_together_1 : decode cX8_together 1 = .ok (.getfield 10, 3) := by decide +kernel
theorem dX8_together_4 : decode cX8_together 4 = .ok (.iload_n 1, 1) := by decide +kernel
theorem dX8_together_5 : decode cX8_together 5 = .ok (.invokevirtual 102, 3) := by decide +kernel
theorem dX8_together_8 : decode cX8_together 8 = .ok (.ifCond .eq 19, 3) := by decide +kernel
theorem dX8_together_11 : decode cX8_together 11 = .ok (.aload_n 0, 1) := by decide +kernel
theorem dX8_together_12 : decode cX8_together 12 = .ok (.getfield 10, 3) := by decide +kernel
theorem dX8_together_15 : decode cX8_together 15 = .ok (.iload_n 2, 1) := by decide +kernel
theorem dX8_together_16 : decode cX8_together 16 = .ok (.invokevirtual 102, 3) := by decide +kernel
theorem dX8_together_19 : decode cX8_together 19 = .ok (.ifCond .eq 8, 3) := by decide +kernel
theorem dX8_together_22 : decode cX8_together 22 = .ok (.iload_n 1, 1) := by decide +kernel
theorem dX8_together_23 : decode cX8_together 23 = .ok (.iload_n 2, 1) := by decide +kernel
theorem dX8_together_24 : decode cX8_together 24 = .ok (.if_icmp .ne 9, 3) := by decide +kernel
theorem dX8_together_27 : decode cX8_together 27 = .ok (.aload_n 0, 1) := by decide +kernel
theorem dX8_together_28 : decode cX8_together 28 = .ok (.iconst (-1), 1) := by decide +kernel
theorem dX8_together_29 : decode cX8_together 29 = .ok (.invokevirtual 79, 3) := by decide +kernel
theorem dX8_together_32 : decode cX8_together 32 = .ok (.ireturn, 1) := by decide +kernel
theorem dX8_together_33 : decode cX8_together 33 = .ok (.aload_n 0, 1) := by decide +kernel
theorem dX8_together_34 : decode cX8_together 34 = .ok (.getfield 10, 3) := by decide +kernel
theorem dX8_together_37 : decode cX8_together 37 = .ok (.getfield 106, 3) := by decide +kernel
theorem dX8_together_40 : decode cX8_together 40 = .ok (.iload_n 1, 1) := by decide +kernel
theorem dX8_together_41 : decode cX8_together 41 = .ok (.iaload, 1) := by decide +kernel
theorem dX8_together_42 : decode cX8_together 42 = .ok (.aload_n 0, 1) := by decide +kernel
theorem dX8_together_43 : decode cX8_together 43 = .ok (.getfield 10, 3) := by decide +kernel
theorem dX8_together_46 : decode cX8_together 46 = .ok (.getfield 106, 3) := by decide +kernel
theorem dX8_together_49 : decode cX8_together 49 = .ok (.iload_n 2, 1) := by decide +kernel
theorem dX8_together_50 : decode cX8_together 50 = .ok (.iaload, 1) := by decide +kernel
theorem dX8_together_51 : decode cX8_together 51 = .ok (.iand, 1) := by decide +kernel
theorem dX8_together_52 : decode cX8_together 52 = .ok (.invokestatic 109, 3) := by decide +kernel
theorem dX8_together_55 : decode cX8_together 55 = .ok (.ireturn, 1) := by decide +kernel
theorem dX8_season_0 : decode cX8_season 0 = .ok (.iload_n 1, 1) := by decide +kernel
theorem dX8_season_1 : decode cX8_season 1 = .ok (.ifCond .lt 8, 3) := by decide +kernel
theorem dX8_season_4 : decode cX8_season 4 = .ok (.iload_n 1, 1) := by decide +kernel
theorem dX8_season_5 : decode cX8_season 5 = .ok (.iconst 4, 1) := by decide +kernel
theorem dX8_season_6 : decode cX8_season 6 = .ok (.if_icmp .lt 9, 3) := by decide +kernel
theorem dX8_season_9 : decode cX8_season 9 = .ok (.aload_n 0, 1) := by decide +kernel
theorem dX8_season_10 : decode cX8_season 10 = .ok (.iconst (-1), 1) := by decide +kernel
theorem dX8_season_11 : decode cX8_season 11 = .ok (.invokevirtual 79, 3) := by decide +kernel
theorem dX8_season_14 : decode cX8_season 14 = .ok (.ireturn, 1) := by decide +kernel
theorem dX8_season_15 : decode cX8_season 15 = .ok (.iload_n 2, 1) := by decide +kernel
theorem dX8_season_16 : decode cX8_season 16 = .ok (.sipush 300, 3) := by decide +kernel
theorem dX8_season_19 : decode cX8_season 19 = .ok (.invokestatic 136, 3) := by decide +kernel
theorem dX8_season_22 : decode cX8_season 22 = .ok (.istore_n 3, 1) := by decide +kernel
theorem dX8_season_23 : decode cX8_season 23 = .ok (.iload_n 3, 1) := by decide +kernel
theorem dX8_season_24 : decode cX8_season 24 = .ok (.ifCond .eq 9, 3) := by decide +kernel
theorem dX8_season_27 : decode cX8_season 27 = .ok (.aload_n 0, 1) := by decide +kernel
theorem dX8_season_28 : decode cX8_season 28 = .ok (.iload_n 3, 1) := by decide +kernel
theorem dX8_season_29 : decode cX8_season 29 = .ok (.invokevirtual 79, 3) := by decide +kernel
theorem dX8_season_32 : decode cX8_season 32 = .ok (.ireturn, 1) := by decide +kernel
theorem dX8_season_33 : decode cX8_season 33 = .ok (.aload_n 0, 1) := by decide +kernel
theorem dX8_season_34 : decode cX8_season 34 = .ok (.getfield 10, 3) := by decide +kernel
theorem dX8_season_37 : decode cX8_season 37 = .ok (.getfield 229, 3) := by decide +kernel
theorem dX8_season_40 : decode cX8_season 40 = .ok (.iload_n 1, 1) := by decide +kernel
theorem dX8_season_41 : decode cX8_season 41 = .ok (.iaload, 1) := by decide +kernel
theorem dX8_season_42 : decode cX8_season 42 = .ok (.istore 4, 2) := by decide +kernel
theorem dX8_season_44 : decode cX8_season 44 = .ok (.aload_n 0, 1) := by decide +kernel
theorem dX8_season_45 : decode cX8_season 45 = .ok (.getfield 10, 3) := by decide +kernel
theorem dX8_season_48 : decode cX8_season 48 = .ok (.getfield 229, 3) := by decide +kernel
theorem dX8_season_51 : decode cX8_season 51 = .ok (.iload_n 1, 1) := by decide +kernel
theorem dX8_season_52 : decode cX8_season 52 = .ok (.iload_n 2, 1) := by decide +kernel
theorem dX8_season_53 : decode cX8_season 53 = .ok (.iastore, 1) := by decide +kernel
theorem dX8_season_54 : decode cX8_season 54 = .ok (.iload 4, 2) := by decide +kernel
theorem dX8_season_56 : decode cX8_season 56 = .ok (.ireturn, 1) := by decide +kernel
theorem dX8_year_0 : decode cX8_year 0 = .ok (.aload_n 0, 1) := by decide +kernel
theorem dX8_year_1 : decode cX8_year 1 = .ok (.getfield 64, 3) := by decide +kernel
theorem dX8_year_4 : decode cX8_year 4 = .ok (.invokevirtual 232, 3) := by decide +kernel
theorem dX8_year_7 : decode cX8_year 7 = .ok (.ireturn, 1) := by decide +kernel
theorem dX8_years_0 : decode cX8_years 0 = .ok (.iload_n 1, 1) := by decide +kernel
theorem dX8_years_1 : decode cX8_years 1 = .ok (.iconst 1, 1) := by decide +kernel
theorem dX8_years_2 : decode cX8_years 2 = .ok (.if_icmp .ge 10, 3) := by decide +kernel
theorem dX8_years_5 : decode cX8_years 5 = .ok (.aload_n 0, 1) := by decide +kernel
theorem dX8_years_6 : decode cX8_years 6 = .ok (.bipush (-4), 2) := by decide +kernel
theorem dX8_years_8 : decode cX8_years 8 = .ok (.invokevirtual 79, 3) := by decide +kernel
theorem dX8_years_11 : decode cX8_years 11 = .ok (.ireturn, 1) := by decide +kernel
theorem dX8_years_12 : decode cX8_years 12 = .ok (.iload_n 1, 1) := by decide +kernel
theorem dX8_years_13 : decode cX8_years 13 = .ok (.bipush 10, 2) := by decide +kernel
theorem dX8_years_15 : decode cX8_years 15 = .ok (.if_icmp .le 10, 3) := by decide +kernel
theorem dX8_years_18 : decode cX8_years 18 = .ok (.aload_n 0, 1) := by decide +kernel
theorem dX8_years_19 : decode cX8_years 19 = .ok (.bipush (-6), 2) := by decide +kernel
theorem dX8_years_21 : decode cX8_years 21 = .ok (.invokevirtual 79, 3) := by decide +kernel
theorem dX8_years_24 : decode cX8_years 24 = .ok (.ireturn, 1) := by decide +kernel
theorem dX8_years_25 : decode cX8_years 25 = .ok (.aload_n 0, 1) := by decide +kernel
theorem dX8_years_26 : decode cX8_years 26 = .ok (.getfield 64, 3) := by decide +kernel
theorem dX8_years_29 : decode cX8_years 29 = .ok (.iload_n 1, 1) := by decide +kernel
theorem dX8_years_30 : decode cX8_years 30 = .ok (.iload_n 2, 1) := by decide +kernel
theorem dX8_years_31 : decode cX8_years 31 = .ok (.invokevirtual 235, 3) := by decide +kernel
theorem dX8_years_34 : decode cX8_years 34 = .ok (.ireturn, 1) := by decide +kernel
theorem dX8_row_0 : decode cX8_row 0 = .ok (.iload_n 1, 1) := by decide +kernel
theorem dX8_row_1 : decode cX8_row 1 = .ok (.ifCond .ge 10, 3) := by decide +kernel
theorem dX8_row_4 : decode cX8_row 4 = .ok (.aload_n 0, 1) := by decide +kernel
theorem dX8_row_5 : decode cX8_row 5 = .ok (.bipush (-4), 2) := by decide +kernel
theorem dX8_row_7 : decode cX8_row 7 = .ok (.invokevirtual 79, 3) := by decide +kernel
theorem dX8_row_10 : decode cX8_row 10 = .ok (.ireturn, 1) := by decide +kernel
theorem dX8_row_11 : decode cX8_row 11 = .ok (.iload_n 1, 1) := by decide +kernel
theorem dX8_row_12 : decode cX8_row 12 = .ok (.bipush 9, 2) := by decide +kernel
theorem dX8_row_14 : decode cX8_row 14 = .ok (.if_icmp .gt 15, 3) := by decide +kernel
theorem dX8_row_17 : decode cX8_row 17 = .ok (.aload_n 0, 1) := by decide +kernel
theorem dX8_row_18 : decode cX8_row 18 = .ok (.getfield 71, 3) := by decide +kernel
theorem dX8_row_21 : decode cX8_row 21 = .ok (.getfield 238, 3) := by decide +kernel
theorem dX8_row_24 : decode cX8_row 24 = .ok (.bipush 28, 2) := by decide +kernel
theorem dX8_row_26 : decode cX8_row 26 = .ok (.if_icmp .lt 10, 3) := by decide +kernel
theorem dX8_row_29 : decode cX8_row 29 = .ok (.aload_n 0, 1) := by decide +kernel
theorem dX8_row_30 : decode cX8_row 30 = .ok (.bipush (-6), 2) := by decide +kernel
theorem dX8_row_32 : decode cX8_row 32 = .ok (.invokevirtual 79, 3) := by decide +kernel
theorem dX8_row_35 : decode cX8_row 35 = .ok (.ireturn, 1) := by decide +kernel
theorem dX8_row_36 : decode cX8_row 36 = .ok (.aload_n 0, 1) := by decide +kernel
theorem dX8_row_37 : decode cX8_row 37 = .ok (.getfield 71, 3) := by decide +kernel
theorem dX8_row_40 : decode cX8_row 40 = .ok (.iload_n 1, 1) := by decide +kernel
theorem dX8_row_41 : decode cX8_row 41 = .ok (.invokevirtual 239, 3) := by decide +kernel
theorem dX8_row_44 : decode cX8_row 44 = .ok (.aload_n 0, 1) := by decide +kernel
theorem dX8_row_45 : decode cX8_row 45 = .ok (.getfield 71, 3) := by decide +kernel
theorem dX8_row_48 : decode cX8_row 48 = .ok (.getfield 238, 3) := by decide +kernel
theorem dX8_row_51 : decode cX8_row 51 = .ok (.ireturn, 1) := by decide +kernel
theorem dX8_judge_0 : decode cX8_judge 0 = .ok (.iload_n 1, 1) := by decide +kernel
theorem dX8_judge_1 : decode cX8_judge 1 = .ok (.ifCond .lt 8, 3) := by decide +kernel
theorem dX8_judge_4 : decode cX8_judge 4 = .ok (.iload_n 1, 1) := by decide +kernel
theorem dX8_judge_5 : decode cX8_judge 5 = .ok (.iconst 1, 1) := by decide +kernel
theorem dX8_judge_6 : decode cX8_judge 6 = .ok (.if_icmp .le 10, 3) := by decide +kernel
theorem dX8_judge_9 : decode cX8_judge 9 = .ok (.aload_n 0, 1) := by decide +kernel
theorem dX8_judge_10 : decode cX8_judge 10 = .ok (.bipush (-2), 2) := by decide +kernel
theorem dX8_judge_12 : decode cX8_judge 12 = .ok (.invokevirtual 79, 3) := by decide +kernel
theorem dX8_judge_15 : decode cX8_judge 15 = .ok (.ireturn, 1) := by decide +kernel
theorem dX8_judge_16 : decode cX8_judge 16 = .ok (.iload_n 1, 1) := by decide +kernel
theorem dX8_judge_17 : decode cX8_judge 17 = .ok (.ifCond .ne 13, 3) := by decide +kernel
theorem dX8_judge_20 : decode cX8_judge 20 = .ok (.aload_n 0, 1) := by decide +kernel
theorem dX8_judge_21 : decode cX8_judge 21 = .ok (.getfield 71, 3) := by decide +kernel
theorem dX8_judge_24 : decode cX8_judge 24 = .ok (.invokevirtual 241, 3) := by decide +kernel
theorem dX8_judge_27 : decode cX8_judge 27 = .ok (.goto 10, 3) := by decide +kernel
theorem dX8_judge_30 : decode cX8_judge 30 = .ok (.aload_n 0, 1) := by decide +kernel
theorem dX8_judge_31 : decode cX8_judge 31 = .ok (.getfield 71, 3) := by decide +kernel
theorem dX8_judge_34 : decode cX8_judge 34 = .ok (.invokevirtual 244, 3) := by decide +kernel
theorem dX8_judge_37 : decode cX8_judge 37 = .ok (.istore_n 2, 1) := by decide +kernel
theorem dX8_judge_38 : decode cX8_judge 38 = .ok (.aload_n 0, 1) := by decide +kernel
theorem dX8_judge_39 : decode cX8_judge 39 = .ok (.getfield 71, 3) := by decide +kernel
theorem dX8_judge_42 : decode cX8_judge 42 = .ok (.iconst 0, 1) := by decide +kernel
theorem dX8_judge_43 : decode cX8_judge 43 = .ok (.putfield 238, 3) := by decide +kernel
theorem dX8_judge_46 : decode cX8_judge 46 = .ok (.iload_n 2, 1) := by decide +kernel
theorem dX8_judge_47 : decode cX8_judge 47 = .ok (.ireturn, 1) := by decide +kernel
theorem dX8_image_0 : decode cX8_image 0 = .ok (.aload_n 0, 1) := by decide +kernel
theorem dX8_image_1 : decode cX8_image 1 = .ok (.getfield 19, 3) := by decide +kernel
theorem dX8_image_4 : decode cX8_image 4 = .ok (.aload_n 0, 1) := by decide +kernel
theorem dX8_image_5 : decode cX8_image 5 = .ok (.getfield 10, 3) := by decide +kernel
theorem dX8_image_8 : decode cX8_image 8 = .ok (.invokevirtual 95, 3) := by decide +kernel
theorem dX8_image_11 : decode cX8_image 11 = .ok (.aload_n 0, 1) := by decide +kernel
theorem dX8_image_12 : decode cX8_image 12 = .ok (.iconst 1, 1) := by decide +kernel
theorem dX8_image_13 : decode cX8_image 13 = .ok (.putfield 247, 3) := by decide +kernel
theorem dX8_image_16 : decode cX8_image 16 = .ok (.aload_n 0, 1) := by decide +kernel
theorem dX8_image_17 : decode cX8_image 17 = .ok (.getfield 19, 3) := by decide +kernel
theorem dX8_image_20 : decode cX8_image 20 = .ok (.getfield 200, 3) := by decide +kernel
theorem dX8_image_23 : decode cX8_image 23 = .ok (.ireturn, 1) := by decide +kernel
theorem dX8_on_0 : decode cX8_on 0 = .ok (.aload_n 0, 1) := by decide +kernel
theorem dX8_on_1 : decode cX8_on 1 = .ok (.getfield 247, 3) := by decide +kernel
theorem dX8_on_4 : decode cX8_on 4 = .ok (.ifCond .ne 10, 3) := by decide +kernel
theorem dX8_on_7 : decode cX8_on 7 = .ok (.aload_n 0, 1) := by decide +kernel
theorem dX8_on_8 : decode cX8_on 8 = .ok (.bipush (-3), 2) := by decide +kernel
theorem dX8_on_10 : decode cX8_on 10 = .ok (.invokevirtual 79, 3) := by decide +kernel
theorem dX8_on_13 : decode cX8_on 13 = .ok (.ireturn, 1) := by decide +kernel
theorem dX8_on_14 : decode cX8_on 14 = .ok (.aload_n 0, 1) := by decide +kernel
theorem dX8_on_15 : decode cX8_on 15 = .ok (.getfield 10, 3) := by decide +kernel
theorem dX8_on_18 : decode cX8_on 18 = .ok (.aload_n 0, 1) := by decide +kernel
theorem dX8_on_19 : decode cX8_on 19 = .ok (.getfield 19, 3) := by decide +kernel
theorem dX8_on_22 : decode cX8_on 22 = .ok (.invokevirtual 95, 3) := by decide +kernel
theorem dX8_on_25 : decode cX8_on 25 = .ok (.aload_n 0, 1) := by decide +kernel
theorem dX8_on_26 : decode cX8_on 26 = .ok (.getfield 10, 3) := by decide +kernel
theorem dX8_on_29 : decode cX8_on 29 = .ok (.getfield 200, 3) := by decide +kernel
theorem dX8_on_32 : decode cX8_on 32 = .ok (.ireturn, 1) := by decide +kernel
theorem dX8_count_0 : decode cX8_count 0 = .ok (.iload_n 1, 1) := by decide +kernel
theorem dX8_count_1 : decode cX8_count 1 = .ok (.tableswitch 102 0 6 #[43, 51, 59, 67, 75, 86, 94], 43) := by decide +kernel
theorem dX8_count_44 : decode cX8_count 44 = .ok (.aload_n 0, 1) := by decide +kernel
theorem dX8_count_45 : decode cX8_count 45 = .ok (.getfield 10, 3) := by decide +kernel
theorem dX8_count_48 : decode cX8_count 48 = .ok (.getfield 200, 3) := by decide +kernel
theorem dX8_count_51 : decode cX8_count 51 = .ok (.ireturn, 1) := by decide +kernel
theorem dX8_count_52 : decode cX8_count 52 = .ok (.aload_n 0, 1) := by decide +kernel
theorem dX8_count_53 : decode cX8_count 53 = .ok (.getfield 10, 3) := by decide +kernel
theorem dX8_count_56 : decode cX8_count 56 = .ok (.getfield 251, 3) := by decide +kernel
theorem dX8_count_59 : decode cX8_count 59 = .ok (.ireturn, 1) := by decide +kernel
theorem dX8_count_60 : decode cX8_count 60 = .ok (.aload_n 0, 1) := by decide +kernel
theorem dX8_count_61 : decode cX8_count 61 = .ok (.getfield 10, 3) := by decide +kernel
theorem dX8_count_64 : decode cX8_count 64 = .ok (.invokevirtual 254, 3) := by decide +kernel
theorem dX8_count_67 : decode cX8_count 67 = .ok (.ireturn, 1) := by decide +kernel
theorem dX8_count_68 : decode cX8_count 68 = .ok (.aload_n 0, 1) := by decide +kernel
theorem dX8_count_69 : decode cX8_count 69 = .ok (.getfield 10, 3) := by decide +kernel
theorem dX8_count_72 : decode cX8_count 72 = .ok (.invokevirtual 257, 3) := by decide +kernel
theorem dX8_count_75 : decode cX8_count 75 = .ok (.ireturn, 1) := by decide +kernel
theorem dX8_count_76 : decode cX8_count 76 = .ok (.aload_n 0, 1) := by decide +kernel
theorem dX8_count_77 : decode cX8_count 77 = .ok (.getfield 10, 3) := by decide +kernel
theorem dX8_count_80 : decode cX8_count 80 = .ok (.getfield 143, 3) := by decide +kernel
theorem dX8_count_83 : decode cX8_count 83 = .ok (.invokestatic 109, 3) := by decide +kernel
theorem dX8_count_86 : decode cX8_count 86 = .ok (.ireturn, 1) := by decide +kernel
theorem dX8_count_87 : decode cX8_count 87 = .ok (.aload_n 0, 1) := by decide +kernel
theorem dX8_count_88 : decode cX8_count 88 = .ok (.getfield 71, 3) := by decide +kernel
theorem dX8_count_91 : decode cX8_count 91 = .ok (.getfield 238, 3) := by decide +kernel
theorem dX8_count_94 : decode cX8_count 94 = .ok (.ireturn, 1) := by decide +kernel
theorem dX8_count_95 : decode cX8_count 95 = .ok (.aload_n 0, 1) := by decide +kernel
theorem dX8_count_96 : decode cX8_count 96 = .ok (.getfield 25, 3) := by decide +kernel
theorem dX8_count_99 : decode cX8_count 99 = .ok (.getfield 83, 3) := by decide +kernel
theorem dX8_count_102 : decode cX8_count 102 = .ok (.ireturn, 1) := by decide +kernel
theorem dX8_count_103 : decode cX8_count 103 = .ok (.iload_n 1, 1) := by decide +kernel
theorem dX8_count_104 : decode cX8_count 104 = .ok (.bipush 10, 2) := by decide +kernel
theorem dX8_count_106 : decode cX8_count 106 = .ok (.if_icmp .le 21, 3) := by decide +kernel
theorem dX8_count_109 : decode cX8_count 109 = .ok (.iload_n 1, 1) := by decide +kernel
theorem dX8_count_110 : decode cX8_count 110 = .ok (.bipush 16, 2) := by decide +kernel
theorem dX8_count_112 : decode cX8_count 112 = .ok (.if_icmp .gt 15, 3) := by decide +kernel
theorem dX8_count_115 : decode cX8_count 115 = .ok (.aload_n 0, 1) := by decide +kernel
theorem dX8_count_116 : decode cX8_count 116 = .ok (.getfield 75, 3) := by decide +kernel
theorem dX8_count_119 : decode cX8_count 119 = .ok (.iload_n 1, 1) := by decide +kernel
theorem dX8_count_120 : decode cX8_count 120 = .ok (.bipush 10, 2) := by decide +kernel
theorem dX8_count_122 : decode cX8_count 122 = .ok (.isub, 1) := by decide +kernel
theorem dX8_count_123 : decode cX8_count 123 = .ok (.iaload, 1) := by decide +kernel
theorem dX8_count_124 : decode cX8_count 124 = .ok (.goto 5, 3) := by decide +kernel
theorem dX8_count_127 : decode cX8_count 127 = .ok (.bipush (-9), 2) := by decide +kernel
theorem dX8_count_129 : decode cX8_count 129 = .ok (.ireturn, 1) := by decide +kernel
theorem dX8_refuse_0 : decode cX8_refuse 0 = .ok (.iload_n 1, 1) := by decide +kernel
theorem dX8_refuse_1 : decode cX8_refuse 1 = .ok (.ifCond .ge 20, 3) := by decide +kernel
theorem dX8_refuse_4 : decode cX8_refuse 4 = .ok (.iload_n 1, 1) := by decide +kernel
theorem dX8_refuse_5 : decode cX8_refuse 5 = .ok (.bipush (-6), 2) := by decide +kernel
theorem dX8_refuse_7 : decode cX8_refuse 7 = .ok (.if_icmp .lt 14, 3) := by decide +kernel
theorem dX8_refuse_10 : decode cX8_refuse 10 = .ok (.aload_n 0, 1) := by decide +kernel
theorem dX8_refuse_11 : decode cX8_refuse 11 = .ok (.getfield 75, 3) := by decide +kernel
theorem dX8_refuse_14 : decode cX8_refuse 14 = .ok (.iload_n 1, 1) := by decide +kernel
theorem dX8_refuse_15 : decode cX8_refuse 15 = .ok (.ineg, 1) := by decide +kernel
theorem dX8_refuse_16 : decode cX8_refuse 16 = .ok (.dup2, 1) := by decide +kernel
theorem dX8_refuse_17 : decode cX8_refuse 17 = .ok (.iaload, 1) := by decide +kernel
theorem dX8_refuse_18 : decode cX8_refuse 18 = .ok (.iconst 1, 1) := by decide +kernel
theorem dX8_refuse_19 : decode cX8_refuse 19 = .ok (.iadd, 1) := by decide +kernel
theorem dX8_refuse_20 : decode cX8_refuse 20 = .ok (.iastore, 1) := by decide +kernel
theorem dX8_refuse_21 : decode cX8_refuse 21 = .ok (.iload_n 1, 1) := by decide +kernel
theorem dX8_refuse_22 : decode cX8_refuse 22 = .ok (.ireturn, 1) := by decide +kernel
theorem dX8_outside_0 : decode cX8_outside 0 = .ok (.iload_n 0, 1) := by decide +kernel
theorem dX8_outside_1 : decode cX8_outside 1 = .ok (.ifCond .ge 6, 3) := by decide +kernel
theorem dX8_outside_4 : decode cX8_outside 4 = .ok (.bipush (-4), 2) := by decide +kernel
theorem dX8_outside_6 : decode cX8_outside 6 = .ok (.ireturn, 1) := by decide +kernel
theorem dX8_outside_7 : decode cX8_outside 7 = .ok (.iload_n 0, 1) := by decide +kernel
theorem dX8_outside_8 : decode cX8_outside 8 = .ok (.iload_n 1, 1) := by decide +kernel
theorem dX8_outside_9 : decode cX8_outside 9 = .ok (.if_icmp .le 8, 3) := by decide +kernel
theorem dX8_outside_12 : decode cX8_outside 12 = .ok (.bipush (-6), 2) := by decide +kernel
theorem dX8_outside_14 : decode cX8_outside 14 = .ok (.goto 4, 3) := by decide +kernel
theorem dX8_outside_17 : decode cX8_outside 17 = .ok (.iconst 0, 1) := by decide +kernel
theorem dX8_outside_18 : decode cX8_outside 18 = .ok (.ireturn, 1) := by decide +kernel
theorem dX8_isHour_0 : decode cX8_isHour 0 = .ok (.iload_n 0, 1) := by decide +kernel
theorem dX8_isHour_1 : decode cX8_isHour 1 = .ok (.ifCond .lt 13, 3) := by decide +kernel
theorem dX8_isHour_4 : decode cX8_isHour 4 = .ok (.iload_n 0, 1) := by decide +kernel
theorem dX8_isHour_5 : decode cX8_isHour 5 = .ok (.bipush 28, 2) := by decide +kernel
theorem dX8_isHour_7 : decode cX8_isHour 7 = .ok (.if_icmp .ge 7, 3) := by decide +kernel
theorem dX8_isHour_10 : decode cX8_isHour 10 = .ok (.iconst 1, 1) := by decide +kernel
theorem dX8_isHour_11 : decode cX8_isHour 11 = .ok (.goto 4, 3) := by decide +kernel
theorem dX8_isHour_14 : decode cX8_isHour 14 = .ok (.iconst 0, 1) := by decide +kernel
theorem dX8_isHour_15 : decode cX8_isHour 15 = .ok (.ireturn, 1) := by decide +kernel
theorem dX8_isIn_0 : decode cX8_isIn 0 = .ok (.iload_n 0, 1) := by decide +kernel
theorem dX8_isIn_1 : decode cX8_isIn 1 = .ok (.iload_n 1, 1) := by decide +kernel
theorem dX8_isIn_2 : decode cX8_isIn 2 = .ok (.ishr, 1) := by decide +kernel
theorem dX8_isIn_3 : decode cX8_isIn 3 = .ok (.iconst 1, 1) := by decide +kernel
theorem dX8_isIn_4 : decode cX8_isIn 4 = .ok (.iand, 1) := by decide +kernel
theorem dX8_isIn_5 : decode cX8_isIn 5 = .ok (.iconst 1, 1) := by decide +kernel
theorem dX8_isIn_6 : decode cX8_isIn 6 = .ok (.if_icmp .ne 7, 3) := by decide +kernel
theorem dX8_isIn_9 : decode cX8_isIn 9 = .ok (.iconst 1, 1) := by decide +kernel
theorem dX8_isIn_10 : decode cX8_isIn 10 = .ok (.goto 4, 3) := by decide +kernel
theorem dX8_isIn_13 : decode cX8_isIn 13 = .ok (.iconst 0, 1) := by decide +kernel
theorem dX8_isIn_14 : decode cX8_isIn 14 = .ok (.ireturn, 1) := by decide +kernel
theorem dX8_netOf_0 : decode cX8_netOf 0 = .ok (.iload_n 1, 1) := by decide +kernel
theorem dX8_netOf_1 : decode cX8_netOf 1 = .ok (.bipush (-9), 2) := by decide +kernel
theorem dX8_netOf_3 : decode cX8_netOf 3 = .ok (.if_icmp .eq 8, 3) := by decide +kernel
theorem dX8_netOf_6 : decode cX8_netOf 6 = .ok (.iload_n 0, 1) := by decide +kernel
theorem dX8_netOf_7 : decode cX8_netOf 7 = .ok (.iload_n 1, 1) := by decide +kernel
theorem dX8_netOf_8 : decode cX8_netOf 8 = .ok (.if_icmp .ge 8, 3) := by decide +kernel
theorem dX8_netOf_11 : decode cX8_netOf 11 = .ok (.bipush (-9), 2) := by decide +kernel
theorem dX8_netOf_13 : decode cX8_netOf 13 = .ok (.goto 6, 3) := by decide +kernel
theorem dX8_netOf_16 : decode cX8_netOf 16 = .ok (.iload_n 0, 1) := by decide +kernel
theorem dX8_netOf_17 : decode cX8_netOf 17 = .ok (.iload_n 1, 1) := by decide +kernel
theorem dX8_netOf_18 : decode cX8_netOf 18 = .ok (.isub, 1) := by decide +kernel
theorem dX8_netOf_19 : decode cX8_netOf 19 = .ok (.ireturn, 1) := by decide +kernel
theorem dX8_greatestShared_0 : decode cX8_greatestShared 0 = .ok (.iload_n 1, 1) := by decide +kernel
theorem dX8_greatestShared_1 : decode cX8_greatestShared 1 = .ok (.istore_n 2, 1) := by decide +kernel
theorem dX8_greatestShared_2 : decode cX8_greatestShared 2 = .ok (.iload_n 2, 1) := by decide +kernel
theorem dX8_greatestShared_3 : decode cX8_greatestShared 3 = .ok (.iconst 1, 1) := by decide +kernel
theorem dX8_greatestShared_4 : decode cX8_greatestShared 4 = .ok (.if_icmp .le 23, 3) := by decide +kernel
theorem dX8_greatestShared_7 : decode cX8_greatestShared 7 = .ok (.iload_n 0, 1) := by decide +kernel
theorem dX8_greatestShared_8 : decode cX8_greatestShared 8 = .ok (.iload_n 2, 1) := by decide +kernel
theorem dX8_greatestShared_9 : decode cX8_greatestShared 9 = .ok (.irem, 1) := by decide +kernel
theorem dX8_greatestShared_10 : decode cX8_greatestShared 10 = .ok (.ifCond .ne 11, 3) := by decide +kernel
theorem dX8_greatestShared_13 : decode cX8_greatestShared 13 = .ok (.iload_n 1, 1) := by decide +kernel
theorem dX8_greatestShared_14 : decode cX8_greatestShared 14 = .ok (.iload_n 2, 1) := by decide +kernel
theorem dX8_greatestShared_15 : decode cX8_greatestShared 15 = .ok (.irem, 1) := by decide +kernel
theorem dX8_greatestShared_16 : decode cX8_greatestShared 16 = .ok (.ifCond .ne 5, 3) := by decide +kernel
theorem dX8_greatestShared_19 : decode cX8_greatestShared 19 = .ok (.iload_n 2, 1) := by decide +kernel
theorem dX8_greatestShared_20 : decode cX8_greatestShared 20 = .ok (.ireturn, 1) := by decide +kernel
theorem dX8_greatestShared_21 : decode cX8_greatestShared 21 = .ok (.iinc 2 (-1), 3) := by decide +kernel
theorem dX8_greatestShared_24 : decode cX8_greatestShared 24 = .ok (.goto (-22), 3) := by decide +kernel
theorem dX8_greatestShared_27 : decode cX8_greatestShared 27 = .ok (.iconst 1, 1) := by decide +kernel
theorem dX8_greatestShared_28 : decode cX8_greatestShared 28 = .ok (.ireturn, 1) := by decide +kernel
theorem dJ11_isValidCodePoint_9a6ad_0 : decode cJ11_isValidCodePoint_9a6ad 0 = .ok (.iload_n 0, 1) := by decide +kernel
theorem dJ11_isValidCodePoint_9a6ad_1 : decode cJ11_isValidCodePoint_9a6ad 1 = .ok (.bipush 16, 2) := by decide +kernel
theorem dJ11_isValidCodePoint_9a6ad_3 : decode cJ11_isValidCodePoint_9a6ad 3 = .ok (.iushr, 1) := by decide +kernel
theorem dJ11_isValidCodePoint_9a6ad_4 : decode cJ11_isValidCodePoint_9a6ad 4 = .ok (.istore_n 1, 1) := by decide +kernel
theorem dJ11_isValidCodePoint_9a6ad_5 : decode cJ11_isValidCodePoint_9a6ad 5 = .ok (.iload_n 1, 1) := by decide +kernel
theorem dJ11_isValidCodePoint_9a6ad_6 : decode cJ11_isValidCodePoint_9a6ad 6 = .ok (.bipush 17, 2) := by decide +kernel
theorem dJ11_isValidCodePoint_9a6ad_8 : decode cJ11_isValidCodePoint_9a6ad 8 = .ok (.if_icmp .ge 7, 3) := by decide +kernel
theorem dJ11_isValidCodePoint_9a6ad_11 : decode cJ11_isValidCodePoint_9a6ad 11 = .ok (.iconst 1, 1) := by decide +kernel
theorem dJ11_isValidCodePoint_9a6ad_12 : decode cJ11_isValidCodePoint_9a6ad 12 = .ok (.goto 4, 3) := by decide +kernel
theorem dJ11_isValidCodePoint_9a6ad_15 : decode cJ11_isValidCodePoint_9a6ad 15 = .ok (.iconst 0, 1) := by decide +kernel
theorem dJ11_isValidCodePoint_9a6ad_16 : decode cJ11_isValidCodePoint_9a6ad 16 = .ok (.ireturn, 1) := by decide +kernel
theorem dJ11_highSurrogate_5068e_0 : decode cJ11_highSurrogate_5068e 0 = .ok (.iload_n 0, 1) := by decide +kernel
theorem dJ11_highSurrogate_5068e_1 : decode cJ11_highSurrogate_5068e 1 = .ok (.bipush 10, 2) := by decide +kernel
theorem dJ11_highSurrogate_5068e_3 : decode cJ11_highSurrogate_5068e 3 = .ok (.iushr, 1) := by decide +kernel
theorem dJ11_highSurrogate_5068e_4 : decode cJ11_highSurrogate_5068e 4 = .ok (.ldc 110, 2) := by decide +kernel
theorem dJ11_highSurrogate_5068e_6 : decode cJ11_highSurrogate_5068e 6 = .ok (.iadd, 1) := by decide +kernel
theorem dJ11_highSurrogate_5068e_7 : decode cJ11_highSurrogate_5068e 7 = .ok (.i2c, 1) := by decide +kernel
theorem dJ11_highSurrogate_5068e_8 : decode cJ11_highSurrogate_5068e 8 = .ok (.ireturn, 1) := by decide +kernel
theorem dJ11_lowSurrogate_5068e_0 : decode cJ11_lowSurrogate_5068e 0 = .ok (.iload_n 0, 1) := by decide +kernel
theorem dJ11_lowSurrogate_5068e_1 : decode cJ11_lowSurrogate_5068e 1 = .ok (.sipush 1023, 3) := by decide +kernel
theorem dJ11_lowSurrogate_5068e_4 : decode cJ11_lowSurrogate_5068e 4 = .ok (.iand, 1) := by decide +kernel
theorem dJ11_lowSurrogate_5068e_5 : decode cJ11_lowSurrogate_5068e 5 = .ok (.ldc 76, 2) := by decide +kernel
theorem dJ11_lowSurrogate_5068e_7 : decode cJ11_lowSurrogate_5068e 7 = .ok (.iadd, 1) := by decide +kernel
theorem dJ11_lowSurrogate_5068e_8 : decode cJ11_lowSurrogate_5068e 8 = .ok (.i2c, 1) := by decide +kernel
theorem dJ11_lowSurrogate_5068e_9 : decode cJ11_lowSurrogate_5068e 9 = .ok (.ireturn, 1) := by decide +kernel
theorem dJ6_bitCount_0f7a4_0 : decode cJ6_bitCount_0f7a4 0 = .ok (.iload_n 0, 1) := by decide +kernel
theorem dJ6_bitCount_0f7a4_1 : decode cJ6_bitCount_0f7a4 1 = .ok (.iload_n 0, 1) := by decide +kernel
theorem dJ6_bitCount_0f7a4_2 : decode cJ6_bitCount_0f7a4 2 = .ok (.iconst 1, 1) := by decide +kernel
theorem dJ6_bitCount_0f7a4_3 : decode cJ6_bitCount_0f7a4 3 = .ok (.iushr, 1) := by decide +kernel
theorem dJ6_bitCount_0f7a4_4 : decode cJ6_bitCount_0f7a4 4 = .ok (.ldc_w 265, 3) := by decide +kernel
theorem dJ6_bitCount_0f7a4_7 : decode cJ6_bitCount_0f7a4 7 = .ok (.iand, 1) := by decide +kernel
theorem dJ6_bitCount_0f7a4_8 : decode cJ6_bitCount_0f7a4 8 = .ok (.isub, 1) := by decide +kernel
theorem dJ6_bitCount_0f7a4_9 : decode cJ6_bitCount_0f7a4 9 = .ok (.istore_n 0, 1) := by decide +kernel
theorem dJ6_bitCount_0f7a4_10 : decode cJ6_bitCount_0f7a4 10 = .ok (.iload_n 0, 1) := by decide +kernel
theorem dJ6_bitCount_0f7a4_11 : decode cJ6_bitCount_0f7a4 11 = .ok (.ldc_w 266, 3) := by decide +kernel
theorem dJ6_bitCount_0f7a4_14 : decode cJ6_bitCount_0f7a4 14 = .ok (.iand, 1) := by decide +kernel
theorem dJ6_bitCount_0f7a4_15 : decode cJ6_bitCount_0f7a4 15 = .ok (.iload_n 0, 1) := by decide +kernel
theorem dJ6_bitCount_0f7a4_16 : decode cJ6_bitCount_0f7a4 16 = .ok (.iconst 2, 1) := by decide +kernel
theorem dJ6_bitCount_0f7a4_17 : decode cJ6_bitCount_0f7a4 17 = .ok (.iushr, 1) := by decide +kernel
theorem dJ6_bitCount_0f7a4_18 : decode cJ6_bitCount_0f7a4 18 = .ok (.ldc_w 266, 3) := by decide +kernel
theorem dJ6_bitCount_0f7a4_21 : decode cJ6_bitCount_0f7a4 21 = .ok (.iand, 1) := by decide +kernel
theorem dJ6_bitCount_0f7a4_22 : decode cJ6_bitCount_0f7a4 22 = .ok (.iadd, 1) := by decide +kernel
theorem dJ6_bitCount_0f7a4_23 : decode cJ6_bitCount_0f7a4 23 = .ok (.istore_n 0, 1) := by decide +kernel
theorem dJ6_bitCount_0f7a4_24 : decode cJ6_bitCount_0f7a4 24 = .ok (.iload_n 0, 1) := by decide +kernel
theorem dJ6_bitCount_0f7a4_25 : decode cJ6_bitCount_0f7a4 25 = .ok (.iload_n 0, 1) := by decide +kernel
theorem dJ6_bitCount_0f7a4_26 : decode cJ6_bitCount_0f7a4 26 = .ok (.iconst 4, 1) := by decide +kernel
theorem dJ6_bitCount_0f7a4_27 : decode cJ6_bitCount_0f7a4 27 = .ok (.iushr, 1) := by decide +kernel
theorem dJ6_bitCount_0f7a4_28 : decode cJ6_bitCount_0f7a4 28 = .ok (.iadd, 1) := by decide +kernel
theorem dJ6_bitCount_0f7a4_29 : decode cJ6_bitCount_0f7a4 29 = .ok (.ldc_w 267, 3) := by decide +kernel
theorem dJ6_bitCount_0f7a4_32 : decode cJ6_bitCount_0f7a4 32 = .ok (.iand, 1) := by decide +kernel
theorem dJ6_bitCount_0f7a4_33 : decode cJ6_bitCount_0f7a4 33 = .ok (.istore_n 0, 1) := by decide +kernel
theorem dJ6_bitCount_0f7a4_34 : decode cJ6_bitCount_0f7a4 34 = .ok (.iload_n 0, 1) := by decide +kernel
theorem dJ6_bitCount_0f7a4_35 : decode cJ6_bitCount_0f7a4 35 = .ok (.iload_n 0, 1) := by decide +kernel
theorem dJ6_bitCount_0f7a4_36 : decode cJ6_bitCount_0f7a4 36 = .ok (.bipush 8, 2) := by decide +kernel
theorem dJ6_bitCount_0f7a4_38 : decode cJ6_bitCount_0f7a4 38 = .ok (.iushr, 1) := by decide +kernel
theorem dJ6_bitCount_0f7a4_39 : decode cJ6_bitCount_0f7a4 39 = .ok (.iadd, 1) := by decide +kernel
theorem dJ6_bitCount_0f7a4_40 : decode cJ6_bitCount_0f7a4 40 = .ok (.istore_n 0, 1) := by decide +kernel
theorem dJ6_bitCount_0f7a4_41 : decode cJ6_bitCount_0f7a4 41 = .ok (.iload_n 0, 1) := by decide +kernel
theorem dJ6_bitCount_0f7a4_42 : decode cJ6_bitCount_0f7a4 42 = .ok (.iload_n 0, 1) := by decide +kernel
theorem dJ6_bitCount_0f7a4_43 : decode cJ6_bitCount_0f7a4 43 = .ok (.bipush 16, 2) := by decide +kernel
theorem dJ6_bitCount_0f7a4_45 : decode cJ6_bitCount_0f7a4 45 = .ok (.iushr, 1) := by decide +kernel
theorem dJ6_bitCount_0f7a4_46 : decode cJ6_bitCount_0f7a4 46 = .ok (.iadd, 1) := by decide +kernel
theorem dJ6_bitCount_0f7a4_47 : decode cJ6_bitCount_0f7a4 47 = .ok (.istore_n 0, 1) := by decide +kernel
theorem dJ6_bitCount_0f7a4_48 : decode cJ6_bitCount_0f7a4 48 = .ok (.iload_n 0, 1) := by decide +kernel
theorem dJ6_bitCount_0f7a4_49 : decode cJ6_bitCount_0f7a4 49 = .ok (.bipush 63, 2) := by decide +kernel
theorem dJ6_bitCount_0f7a4_51 : decode cJ6_bitCount_0f7a4 51 = .ok (.iand, 1) := by decide +kernel
theorem dJ6_bitCount_0f7a4_52 : decode cJ6_bitCount_0f7a4 52 = .ok (.ireturn, 1) := by decide +kernel
theorem dJ9_max_7cf53_0 : decode cJ9_max_7cf53 0 = .ok (.iload_n 0, 1) := by decide +kernel
theorem dJ9_max_7cf53_1 : decode cJ9_max_7cf53 1 = .ok (.iload_n 1, 1) := by decide +kernel
theorem dJ9_max_7cf53_2 : decode cJ9_max_7cf53 2 = .ok (.if_icmp .lt 7, 3) := by decide +kernel
theorem dJ9_max_7cf53_5 : decode cJ9_max_7cf53 5 = .ok (.iload_n 0, 1) := by decide +kernel
theorem dJ9_max_7cf53_6 : decode cJ9_max_7cf53 6 = .ok (.goto 4, 3) := by decide +kernel
theorem dJ9_max_7cf53_9 : decode cJ9_max_7cf53 9 = .ok (.iload_n 1, 1) := by decide +kernel
theorem dJ9_max_7cf53_10 : decode cJ9_max_7cf53 10 = .ok (.ireturn, 1) := by decide +kernel
theorem dJ9_min_7cf53_0 : decode cJ9_min_7cf53 0 = .ok (.iload_n 0, 1) := by decide +kernel
theorem dJ9_min_7cf53_1 : decode cJ9_min_7cf53 1 = .ok (.iload_n 1, 1) := by decide +kernel
theorem dJ9_min_7cf53_2 : decode cJ9_min_7cf53 2 = .ok (.if_icmp .gt 7, 3) := by decide +kernel
theorem dJ9_min_7cf53_5 : decode cJ9_min_7cf53 5 = .ok (.iload_n 0, 1) := by decide +kernel
theorem dJ9_min_7cf53_6 : decode cJ9_min_7cf53 6 = .ok (.goto 4, 3) := by decide +kernel
theorem dJ9_min_7cf53_9 : decode cJ9_min_7cf53 9 = .ok (.iload_n 1, 1) := by decide +kernel
theorem dJ9_min_7cf53_10 : decode cJ9_min_7cf53 10 = .ok (.ireturn, 1) := by decide +kernel
theorem dJ0_length_8abf5_0 : decode cJ0_length_8abf5 0 = .ok (.aload_n 0, 1) := by decide +kernel
theorem dJ0_length_8abf5_1 : decode cJ0_length_8abf5 1 = .ok (.getfield 9, 3) := by decide +kernel
theorem dJ0_length_8abf5_4 : decode cJ0_length_8abf5 4 = .ok (.arraylength, 1) := by decide +kernel
theorem dJ0_length_8abf5_5 : decode cJ0_length_8abf5 5 = .ok (.aload_n 0, 1) := by decide +kernel
theorem dJ0_length_8abf5_6 : decode cJ0_length_8abf5 6 = .ok (.invokevirtual 335, 3) := by decide +kernel
theorem dJ0_length_8abf5_9 : decode cJ0_length_8abf5 9 = .ok (.ishr, 1) := by decide +kernel
theorem dJ0_length_8abf5_10 : decode cJ0_length_8abf5 10 = .ok (.ireturn, 1) := by decide +kernel
theorem dJ0_charAt_5068e_0 : decode cJ0_charAt_5068e 0 = .ok (.aload_n 0, 1) := by decide +kernel
theorem dJ0_charAt_5068e_1 : decode cJ0_charAt_5068e 1 = .ok (.invokevirtual 492, 3) := by decide +kernel
theorem dJ0_charAt_5068e_4 : decode cJ0_charAt_5068e 4 = .ok (.ifCond .eq 12, 3) := by decide +kernel
theorem dJ0_charAt_5068e_7 : decode cJ0_charAt_5068e 7 = .ok (.aload_n 0, 1) := by decide +kernel
theorem dJ0_charAt_5068e_8 : decode cJ0_charAt_5068e 8 = .ok (.getfield 9, 3) := by decide +kernel
theorem dJ0_charAt_5068e_11 : decode cJ0_charAt_5068e 11 = .ok (.iload_n 1, 1) := by decide +kernel
theorem dJ0_charAt_5068e_12 : decode cJ0_charAt_5068e 12 = .ok (.invokestatic 495, 3) := by decide +kernel
theorem dJ0_charAt_5068e_15 : decode cJ0_charAt_5068e 15 = .ok (.ireturn, 1) := by decide +kernel
theorem dJ0_charAt_5068e_16 : decode cJ0_charAt_5068e 16 = .ok (.aload_n 0, 1) := by decide +kernel
theorem dJ0_charAt_5068e_17 : decode cJ0_charAt_5068e 17 = .ok (.getfield 9, 3) := by decide +kernel
theorem dJ0_charAt_5068e_20 : decode cJ0_charAt_5068e 20 = .ok (.iload_n 1, 1) := by decide +kernel
theorem dJ0_charAt_5068e_21 : decode cJ0_charAt_5068e 21 = .ok (.invokestatic 498, 3) := by decide +kernel
theorem dJ0_charAt_5068e_24 : decode cJ0_charAt_5068e 24 = .ok (.ireturn, 1) := by decide +kernel
theorem dJ0_indexOf_0f7a4_0 : decode cJ0_indexOf_0f7a4 0 = .ok (.aload_n 0, 1) := by decide +kernel
theorem dJ0_indexOf_0f7a4_1 : decode cJ0_indexOf_0f7a4 1 = .ok (.iload_n 1, 1) := by decide +kernel
theorem dJ0_indexOf_0f7a4_2 : decode cJ0_indexOf_0f7a4 2 = .ok (.iconst 0, 1) := by decide +kernel
theorem dJ0_indexOf_0f7a4_3 : decode cJ0_indexOf_0f7a4 3 = .ok (.invokevirtual 633, 3) := by decide +kernel
theorem dJ0_indexOf_0f7a4_6 : decode cJ0_indexOf_0f7a4 6 = .ok (.ireturn, 1) := by decide +kernel
theorem dJ0_indexOf_7cf53_0 : decode cJ0_indexOf_7cf53 0 = .ok (.aload_n 0, 1) := by decide +kernel
theorem dJ0_indexOf_7cf53_1 : decode cJ0_indexOf_7cf53 1 = .ok (.invokevirtual 492, 3) := by decide +kernel
theorem dJ0_indexOf_7cf53_4 : decode cJ0_indexOf_7cf53 4 = .ok (.ifCond .eq 19, 3) := by decide +kernel
theorem dJ0_indexOf_7cf53_7 : decode cJ0_indexOf_7cf53 7 = .ok (.aload_n 0, 1) := by decide +kernel
theorem dJ0_indexOf_7cf53_8 : decode cJ0_indexOf_7cf53 8 = .ok (.getfield 9, 3) := by decide +kernel
theorem dJ0_indexOf_7cf53_11 : decode cJ0_indexOf_7cf53 11 = .ok (.iload_n 1, 1) := by decide +kernel
theorem dJ0_indexOf_7cf53_12 : decode cJ0_indexOf_7cf53 12 = .ok (.iload_n 2, 1) := by decide +kernel
theorem dJ0_indexOf_7cf53_13 : decode cJ0_indexOf_7cf53 13 = .ok (.aload_n 0, 1) := by decide +kernel
theorem dJ0_indexOf_7cf53_14 : decode cJ0_indexOf_7cf53 14 = .ok (.invokevirtual 505, 3) := by decide +kernel
theorem dJ0_indexOf_7cf53_17 : decode cJ0_indexOf_7cf53 17 = .ok (.invokestatic 637, 3) := by decide +kernel
theorem dJ0_indexOf_7cf53_20 : decode cJ0_indexOf_7cf53 20 = .ok (.goto 16, 3) := by decide +kernel
theorem dJ0_indexOf_7cf53_23 : decode cJ0_indexOf_7cf53 23 = .ok (.aload_n 0, 1) := by decide +kernel
theorem dJ0_indexOf_7cf53_24 : decode cJ0_indexOf_7cf53 24 = .ok (.getfield 9, 3) := by decide +kernel
theorem dJ0_indexOf_7cf53_27 : decode cJ0_indexOf_7cf53 27 = .ok (.iload_n 1, 1) := by decide +kernel
theorem dJ0_indexOf_7cf53_28 : decode cJ0_indexOf_7cf53 28 = .ok (.iload_n 2, 1) := by decide +kernel
theorem dJ0_indexOf_7cf53_29 : decode cJ0_indexOf_7cf53 29 = .ok (.aload_n 0, 1) := by decide +kernel
theorem dJ0_indexOf_7cf53_30 : decode cJ0_indexOf_7cf53 30 = .ok (.invokevirtual 505, 3) := by decide +kernel
theorem dJ0_indexOf_7cf53_33 : decode cJ0_indexOf_7cf53 33 = .ok (.invokestatic 640, 3) := by decide +kernel
theorem dJ0_indexOf_7cf53_36 : decode cJ0_indexOf_7cf53 36 = .ok (.ireturn, 1) := by decide +kernel
theorem dJ0_coder_7d493_0 : decode cJ0_coder_7d493 0 = .ok (.getstatic 38, 3) := by decide +kernel
theorem dJ0_coder_7d493_3 : decode cJ0_coder_7d493 3 = .ok (.ifCond .eq 10, 3) := by decide +kernel
theorem dJ0_coder_7d493_6 : decode cJ0_coder_7d493 6 = .ok (.aload_n 0, 1) := by decide +kernel
theorem dJ0_coder_7d493_7 : decode cJ0_coder_7d493 7 = .ok (.getfield 15, 3) := by decide +kernel
theorem dJ0_coder_7d493_10 : decode cJ0_coder_7d493 10 = .ok (.goto 4, 3) := by decide +kernel
theorem dJ0_coder_7d493_13 : decode cJ0_coder_7d493 13 = .ok (.iconst 1, 1) := by decide +kernel
theorem dJ0_coder_7d493_14 : decode cJ0_coder_7d493 14 = .ok (.ireturn, 1) := by decide +kernel
theorem dJ0_isLatin1_aae02_0 : decode cJ0_isLatin1_aae02 0 = .ok (.getstatic 38, 3) := by decide +kernel
theorem dJ0_isLatin1_aae02_3 : decode cJ0_isLatin1_aae02 3 = .ok (.ifCond .eq 14, 3) := by decide +kernel
theorem dJ0_isLatin1_aae02_6 : decode cJ0_isLatin1_aae02 6 = .ok (.aload_n 0, 1) := by decide +kernel
theorem dJ0_isLatin1_aae02_7 : decode cJ0_isLatin1_aae02 7 = .ok (.getfield 15, 3) := by decide +kernel
theorem dJ0_isLatin1_aae02_10 : decode cJ0_isLatin1_aae02 10 = .ok (.ifCond .ne 7, 3) := by decide +kernel
theorem dJ0_isLatin1_aae02_13 : decode cJ0_isLatin1_aae02 13 = .ok (.iconst 1, 1) := by decide +kernel
theorem dJ0_isLatin1_aae02_14 : decode cJ0_isLatin1_aae02 14 = .ok (.goto 4, 3) := by decide +kernel
theorem dJ0_isLatin1_aae02_17 : decode cJ0_isLatin1_aae02 17 = .ok (.iconst 0, 1) := by decide +kernel
theorem dJ0_isLatin1_aae02_18 : decode cJ0_isLatin1_aae02 18 = .ok (.ireturn, 1) := by decide +kernel
theorem dJ0_checkIndex_df160_0 : decode cJ0_checkIndex_df160 0 = .ok (.iload_n 0, 1) := by decide +kernel
theorem dJ0_checkIndex_df160_1 : decode cJ0_checkIndex_df160 1 = .ok (.iload_n 1, 1) := by decide +kernel
theorem dJ0_checkIndex_df160_2 : decode cJ0_checkIndex_df160 2 = .ok (.getstatic 1053, 3) := by decide +kernel
theorem dJ0_checkIndex_df160_5 : decode cJ0_checkIndex_df160 5 = .ok (.invokestatic 1059, 3) := by decide +kernel
theorem dJ0_checkIndex_df160_8 : decode cJ0_checkIndex_df160 8 = .ok (.pop, 1) := by decide +kernel
theorem dJ0_checkIndex_df160_9 : decode cJ0_checkIndex_df160 9 = .ok (.return_, 1) := by decide +kernel
theorem dJ0_checkBoundsBeginEnd_23922_0 : decode cJ0_checkBoundsBeginEnd_23922 0 = .ok (.iload_n 0, 1) := by decide +kernel
theorem dJ0_checkBoundsBeginEnd_23922_1 : decode cJ0_checkBoundsBeginEnd_23922 1 = .ok (.iload_n 1, 1) := by decide +kernel
theorem dJ0_checkBoundsBeginEnd_23922_2 : decode cJ0_checkBoundsBeginEnd_23922 2 = .ok (.iload_n 2, 1) := by decide +kernel
theorem dJ0_checkBoundsBeginEnd_23922_3 : decode cJ0_checkBoundsBeginEnd_23922 3 = .ok (.getstatic 1053, 3) := by decide +kernel
theorem dJ0_checkBoundsBeginEnd_23922_6 : decode cJ0_checkBoundsBeginEnd_23922 6 = .ok (.invokestatic 1062, 3) := by decide +kernel
theorem dJ0_checkBoundsBeginEnd_23922_9 : decode cJ0_checkBoundsBeginEnd_23922 9 = .ok (.pop, 1) := by decide +kernel
theorem dJ0_checkBoundsBeginEnd_23922_10 : decode cJ0_checkBoundsBeginEnd_23922 10 = .ok (.return_, 1) := by decide +kernel
theorem dJ1_charAt_3b067_0 : decode cJ1_charAt_3b067 0 = .ok (.iload_n 1, 1) := by decide +kernel
theorem dJ1_charAt_3b067_1 : decode cJ1_charAt_3b067 1 = .ok (.aload_n 0, 1) := by decide +kernel
theorem dJ1_charAt_3b067_2 : decode cJ1_charAt_3b067 2 = .ok (.arraylength, 1) := by decide +kernel
theorem dJ1_charAt_3b067_3 : decode cJ1_charAt_3b067 3 = .ok (.invokestatic 9, 3) := by decide +kernel
theorem dJ1_charAt_3b067_6 : decode cJ1_charAt_3b067 6 = .ok (.aload_n 0, 1) := by decide +kernel
theorem dJ1_charAt_3b067_7 : decode cJ1_charAt_3b067 7 = .ok (.iload_n 1, 1) := by decide +kernel
theorem dJ1_charAt_3b067_8 : decode cJ1_charAt_3b067 8 = .ok (.baload, 1) := by decide +kernel
theorem dJ1_charAt_3b067_9 : decode cJ1_charAt_3b067 9 = .ok (.sipush 255, 3) := by decide +kernel
theorem dJ1_charAt_3b067_12 : decode cJ1_charAt_3b067 12 = .ok (.iand, 1) := by decide +kernel
theorem dJ1_charAt_3b067_13 : decode cJ1_charAt_3b067 13 = .ok (.i2c, 1) := by decide +kernel
theorem dJ1_charAt_3b067_14 : decode cJ1_charAt_3b067 14 = .ok (.ireturn, 1) := by decide +kernel
theorem dJ1_canEncode_9a6ad_0 : decode cJ1_canEncode_9a6ad 0 = .ok (.iload_n 0, 1) := by decide +kernel
theorem dJ1_canEncode_9a6ad_1 : decode cJ1_canEncode_9a6ad 1 = .ok (.ifCond .lt 14, 3) := by decide +kernel
theorem dJ1_canEncode_9a6ad_4 : decode cJ1_canEncode_9a6ad 4 = .ok (.iload_n 0, 1) := by decide +kernel
theorem dJ1_canEncode_9a6ad_5 : decode cJ1_canEncode_9a6ad 5 = .ok (.sipush 255, 3) := by decide +kernel
theorem dJ1_canEncode_9a6ad_8 : decode cJ1_canEncode_9a6ad 8 = .ok (.if_icmp .gt 7, 3) := by decide +kernel
theorem dJ1_canEncode_9a6ad_11 : decode cJ1_canEncode_9a6ad 11 = .ok (.iconst 1, 1) := by decide +kernel
theorem dJ1_canEncode_9a6ad_12 : decode cJ1_canEncode_9a6ad 12 = .ok (.goto 4, 3) := by decide +kernel
theorem dJ1_canEncode_9a6ad_15 : decode cJ1_canEncode_9a6ad 15 = .ok (.iconst 0, 1) := by decide +kernel
theorem dJ1_canEncode_9a6ad_16 : decode cJ1_canEncode_9a6ad 16 = .ok (.ireturn, 1) := by decide +kernel
theorem dJ1_indexOf_4cfef_0 : decode cJ1_indexOf_4cfef 0 = .ok (.iload_n 1, 1) := by decide +kernel
theorem dJ1_indexOf_4cfef_1 : decode cJ1_indexOf_4cfef 1 = .ok (.invokestatic 88, 3) := by decide +kernel
theorem dJ1_indexOf_4cfef_4 : decode cJ1_indexOf_4cfef 4 = .ok (.ifCond .ne 5, 3) := by decide +kernel
theorem dJ1_indexOf_4cfef_7 : decode cJ1_indexOf_4cfef 7 = .ok (.iconst (-1), 1) := by decide +kernel
theorem dJ1_indexOf_4cfef_8 : decode cJ1_indexOf_4cfef 8 = .ok (.ireturn, 1) := by decide +kernel
theorem dJ1_indexOf_4cfef_9 : decode cJ1_indexOf_4cfef 9 = .ok (.iload_n 2, 1) := by decide +kernel
theorem dJ1_indexOf_4cfef_10 : decode cJ1_indexOf_4cfef 10 = .ok (.iconst 0, 1) := by decide +kernel
theorem dJ1_indexOf_4cfef_11 : decode cJ1_indexOf_4cfef 11 = .ok (.invokestatic 92, 3) := by decide +kernel
theorem dJ1_indexOf_4cfef_14 : decode cJ1_indexOf_4cfef 14 = .ok (.istore_n 2, 1) := by decide +kernel
theorem dJ1_indexOf_4cfef_15 : decode cJ1_indexOf_4cfef 15 = .ok (.iload_n 3, 1) := by decide +kernel
theorem dJ1_indexOf_4cfef_16 : decode cJ1_indexOf_4cfef 16 = .ok (.aload_n 0, 1) := by decide +kernel
theorem dJ1_indexOf_4cfef_17 : decode cJ1_indexOf_4cfef 17 = .ok (.arraylength, 1) := by decide +kernel
theorem dJ1_indexOf_4cfef_18 : decode cJ1_indexOf_4cfef 18 = .ok (.invokestatic 38, 3) := by decide +kernel
theorem dJ1_indexOf_4cfef_21 : decode cJ1_indexOf_4cfef 21 = .ok (.istore_n 3, 1) := by decide +kernel
theorem dJ1_indexOf_4cfef_22 : decode cJ1_indexOf_4cfef 22 = .ok (.iload_n 2, 1) := by decide +kernel
theorem dJ1_indexOf_4cfef_23 : decode cJ1_indexOf_4cfef 23 = .ok (.iload_n 3, 1) := by decide +kernel
theorem dJ1_indexOf_4cfef_24 : decode cJ1_indexOf_4cfef 24 = .ok (.if_icmp .lt 5, 3) := by decide +kernel
theorem dJ1_indexOf_4cfef_27 : decode cJ1_indexOf_4cfef 27 = .ok (.iconst (-1), 1) := by decide +kernel
theorem dJ1_indexOf_4cfef_28 : decode cJ1_indexOf_4cfef 28 = .ok (.ireturn, 1) := by decide +kernel
theorem dJ1_indexOf_4cfef_29 : decode cJ1_indexOf_4cfef 29 = .ok (.aload_n 0, 1) := by decide +kernel
theorem dJ1_indexOf_4cfef_30 : decode cJ1_indexOf_4cfef 30 = .ok (.iload_n 1, 1) := by decide +kernel
theorem dJ1_indexOf_4cfef_31 : decode cJ1_indexOf_4cfef 31 = .ok (.iload_n 2, 1) := by decide +kernel
theorem dJ1_indexOf_4cfef_32 : decode cJ1_indexOf_4cfef 32 = .ok (.iload_n 3, 1) := by decide +kernel
theorem dJ1_indexOf_4cfef_33 : decode cJ1_indexOf_4cfef 33 = .ok (.invokestatic 95, 3) := by decide +kernel
theorem dJ1_indexOf_4cfef_36 : decode cJ1_indexOf_4cfef 36 = .ok (.ireturn, 1) := by decide +kernel
theorem dJ1_indexOfChar_4cfef_0 : decode cJ1_indexOfChar_4cfef 0 = .ok (.iload_n 1, 1) := by decide +kernel
theorem dJ1_indexOfChar_4cfef_1 : decode cJ1_indexOfChar_4cfef 1 = .ok (.i2b, 1) := by decide +kernel
theorem dJ1_indexOfChar_4cfef_2 : decode cJ1_indexOfChar_4cfef 2 = .ok (.istore 4, 2) := by decide +kernel
theorem dJ1_indexOfChar_4cfef_4 : decode cJ1_indexOfChar_4cfef 4 = .ok (.iload_n 2, 1) := by decide +kernel
theorem dJ1_indexOfChar_4cfef_5 : decode cJ1_indexOfChar_4cfef 5 = .ok (.istore 5, 2) := by decide +kernel
theorem dJ1_indexOfChar_4cfef_7 : decode cJ1_indexOfChar_4cfef 7 = .ok (.iload 5, 2) := by decide +kernel
theorem dJ1_indexOfChar_4cfef_9 : decode cJ1_indexOfChar_4cfef 9 = .ok (.iload_n 3, 1) := by decide +kernel
theorem dJ1_indexOfChar_4cfef_10 : decode cJ1_indexOfChar_4cfef 10 = .ok (.if_icmp .ge 21, 3) := by decide +kernel
theorem dJ1_indexOfChar_4cfef_13 : decode cJ1_indexOfChar_4cfef 13 = .ok (.aload_n 0, 1) := by decide +kernel
theorem dJ1_indexOfChar_4cfef_14 : decode cJ1_indexOfChar_4cfef 14 = .ok (.iload 5, 2) := by decide +kernel
theorem dJ1_indexOfChar_4cfef_16 : decode cJ1_indexOfChar_4cfef 16 = .ok (.baload, 1) := by decide +kernel
theorem dJ1_indexOfChar_4cfef_17 : decode cJ1_indexOfChar_4cfef 17 = .ok (.iload 4, 2) := by decide +kernel
theorem dJ1_indexOfChar_4cfef_19 : decode cJ1_indexOfChar_4cfef 19 = .ok (.if_icmp .ne 6, 3) := by decide +kernel
theorem dJ1_indexOfChar_4cfef_22 : decode cJ1_indexOfChar_4cfef 22 = .ok (.iload 5, 2) := by decide +kernel
theorem dJ1_indexOfChar_4cfef_24 : decode cJ1_indexOfChar_4cfef 24 = .ok (.ireturn, 1) := by decide +kernel
theorem dJ1_indexOfChar_4cfef_25 : decode cJ1_indexOfChar_4cfef 25 = .ok (.iinc 5 1, 3) := by decide +kernel
theorem dJ1_indexOfChar_4cfef_28 : decode cJ1_indexOfChar_4cfef 28 = .ok (.goto (-21), 3) := by decide +kernel
theorem dJ1_indexOfChar_4cfef_31 : decode cJ1_indexOfChar_4cfef 31 = .ok (.iconst (-1), 1) := by decide +kernel
theorem dJ1_indexOfChar_4cfef_32 : decode cJ1_indexOfChar_4cfef 32 = .ok (.ireturn, 1) := by decide +kernel
theorem dJ2_getChar_3b067_0 : decode cJ2_getChar_3b067 0 = .ok (.getstatic 44, 3) := by decide +kernel
theorem dJ2_getChar_3b067_3 : decode cJ2_getChar_3b067 3 = .ok (.ifCond .ne 25, 3) := by decide +kernel
theorem dJ2_getChar_3b067_6 : decode cJ2_getChar_3b067 6 = .ok (.iload_n 1, 1) := by decide +kernel
theorem dJ2_getChar_3b067_7 : decode cJ2_getChar_3b067 7 = .ok (.ifCond .lt 11, 3) := by decide +kernel
theorem dJ2_getChar_3b067_10 : decode cJ2_getChar_3b067 10 = .ok (.iload_n 1, 1) := by decide +kernel
theorem dJ2_getChar_3b067_11 : decode cJ2_getChar_3b067 11 = .ok (.aload_n 0, 1) := by decide +kernel
theorem dJ2_getChar_3b067_12 : decode cJ2_getChar_3b067 12 = .ok (.invokestatic 48, 3) := by decide +kernel
theorem dJ2_getChar_3b067_15 : decode cJ2_getChar_3b067 15 = .ok (.if_icmp .lt 13, 3) := by decide +kernel
theorem dJ2_getChar_3b067_18 : decode cJ2_getChar_3b067 18 = .ok (.new 52, 3) := by decide +kernel
theorem dJ2_getChar_3b067_21 : decode cJ2_getChar_3b067 21 = .ok (.dup, 1) := by decide +kernel
theorem dJ2_getChar_3b067_22 : decode cJ2_getChar_3b067 22 = .ok (.ldc 54, 2) := by decide +kernel
theorem dJ2_getChar_3b067_24 : decode cJ2_getChar_3b067 24 = .ok (.invokespecial 56, 3) := by decide +kernel
theorem dJ2_getChar_3b067_27 : decode cJ2_getChar_3b067 27 = .ok (.athrow, 1) := by decide +kernel
theorem dJ2_getChar_3b067_28 : decode cJ2_getChar_3b067 28 = .ok (.iload_n 1, 1) := by decide +kernel
theorem dJ2_getChar_3b067_29 : decode cJ2_getChar_3b067 29 = .ok (.iconst 1, 1) := by decide +kernel
theorem dJ2_getChar_3b067_30 : decode cJ2_getChar_3b067 30 = .ok (.ishl, 1) := by decide +kernel
theorem dJ2_getChar_3b067_31 : decode cJ2_getChar_3b067 31 = .ok (.istore_n 1, 1) := by decide +kernel
theorem dJ2_getChar_3b067_32 : decode cJ2_getChar_3b067 32 = .ok (.aload_n 0, 1) := by decide +kernel
theorem dJ2_getChar_3b067_33 : decode cJ2_getChar_3b067 33 = .ok (.iload_n 1, 1) := by decide +kernel
theorem dJ2_getChar_3b067_34 : decode cJ2_getChar_3b067 34 = .ok (.iinc 1 1, 3) := by decide +kernel
theorem dJ2_getChar_3b067_37 : decode cJ2_getChar_3b067 37 = .ok (.baload, 1) := by decide +kernel
theorem dJ2_getChar_3b067_38 : decode cJ2_getChar_3b067 38 = .ok (.sipush 255, 3) := by decide +kernel
theorem dJ2_getChar_3b067_41 : decode cJ2_getChar_3b067 41 = .ok (.iand, 1) := by decide +kernel
theorem dJ2_getChar_3b067_42 : decode cJ2_getChar_3b067 42 = .ok (.getstatic 59, 3) := by decide +kernel
theorem dJ2_getChar_3b067_45 : decode cJ2_getChar_3b067 45 = .ok (.ishl, 1) := by decide +kernel
theorem dJ2_getChar_3b067_46 : decode cJ2_getChar_3b067 46 = .ok (.aload_n 0, 1) := by decide +kernel
theorem dJ2_getChar_3b067_47 : decode cJ2_getChar_3b067 47 = .ok (.iload_n 1, 1) := by decide +kernel
theorem dJ2_getChar_3b067_48 : decode cJ2_getChar_3b067 48 = .ok (.baload, 1) := by decide +kernel
theorem dJ2_getChar_3b067_49 : decode cJ2_getChar_3b067 49 = .ok (.sipush 255, 3) := by decide +kernel
theorem dJ2_getChar_3b067_52 : decode cJ2_getChar_3b067 52 = .ok (.iand, 1) := by decide +kernel
theorem dJ2_getChar_3b067_53 : decode cJ2_getChar_3b067 53 = .ok (.getstatic 63, 3) := by decide +kernel
theorem dJ2_getChar_3b067_56 : decode cJ2_getChar_3b067 56 = .ok (.ishl, 1) := by decide +kernel
theorem dJ2_getChar_3b067_57 : decode cJ2_getChar_3b067 57 = .ok (.ior, 1) := by decide +kernel
theorem dJ2_getChar_3b067_58 : decode cJ2_getChar_3b067 58 = .ok (.i2c, 1) := by decide +kernel
theorem dJ2_getChar_3b067_59 : decode cJ2_getChar_3b067 59 = .ok (.ireturn, 1) := by decide +kernel
theorem dJ2_length_9d52b_0 : decode cJ2_length_9d52b 0 = .ok (.aload_n 0, 1) := by decide +kernel
theorem dJ2_length_9d52b_1 : decode cJ2_length_9d52b 1 = .ok (.arraylength, 1) := by decide +kernel
theorem dJ2_length_9d52b_2 : decode cJ2_length_9d52b 2 = .ok (.iconst 1, 1) := by decide +kernel
theorem dJ2_length_9d52b_3 : decode cJ2_length_9d52b 3 = .ok (.ishr, 1) := by decide +kernel
theorem dJ2_length_9d52b_4 : decode cJ2_length_9d52b 4 = .ok (.ireturn, 1) := by decide +kernel
theorem dJ2_indexOf_4cfef_0 : decode cJ2_indexOf_4cfef 0 = .ok (.iload_n 2, 1) := by decide +kernel
theorem dJ2_indexOf_4cfef_1 : decode cJ2_indexOf_4cfef 1 = .ok (.iconst 0, 1) := by decide +kernel
theorem dJ2_indexOf_4cfef_2 : decode cJ2_indexOf_4cfef 2 = .ok (.invokestatic 224, 3) := by decide +kernel
theorem dJ2_indexOf_4cfef_5 : decode cJ2_indexOf_4cfef 5 = .ok (.istore_n 2, 1) := by decide +kernel
theorem dJ2_indexOf_4cfef_6 : decode cJ2_indexOf_4cfef 6 = .ok (.iload_n 3, 1) := by decide +kernel
theorem dJ2_indexOf_4cfef_7 : decode cJ2_indexOf_4cfef 7 = .ok (.aload_n 0, 1) := by decide +kernel
theorem dJ2_indexOf_4cfef_8 : decode cJ2_indexOf_4cfef 8 = .ok (.arraylength, 1) := by decide +kernel
theorem dJ2_indexOf_4cfef_9 : decode cJ2_indexOf_4cfef 9 = .ok (.iconst 1, 1) := by decide +kernel
theorem dJ2_indexOf_4cfef_10 : decode cJ2_indexOf_4cfef 10 = .ok (.ishr, 1) := by decide +kernel
theorem dJ2_indexOf_4cfef_11 : decode cJ2_indexOf_4cfef 11 = .ok (.invokestatic 183, 3) := by decide +kernel
theorem dJ2_indexOf_4cfef_14 : decode cJ2_indexOf_4cfef 14 = .ok (.istore_n 3, 1) := by decide +kernel
theorem dJ2_indexOf_4cfef_15 : decode cJ2_indexOf_4cfef 15 = .ok (.iload_n 2, 1) := by decide +kernel
theorem dJ2_indexOf_4cfef_16 : decode cJ2_indexOf_4cfef 16 = .ok (.iload_n 3, 1) := by decide +kernel
theorem dJ2_indexOf_4cfef_17 : decode cJ2_indexOf_4cfef 17 = .ok (.if_icmp .lt 5, 3) := by decide +kernel
theorem dJ2_indexOf_4cfef_20 : decode cJ2_indexOf_4cfef 20 = .ok (.iconst (-1), 1) := by decide +kernel
theorem dJ2_indexOf_4cfef_21 : decode cJ2_indexOf_4cfef 21 = .ok (.ireturn, 1) := by decide +kernel
theorem dJ2_indexOf_4cfef_22 : decode cJ2_indexOf_4cfef 22 = .ok (.iload_n 1, 1) := by decide +kernel
theorem dJ2_indexOf_4cfef_23 : decode cJ2_indexOf_4cfef 23 = .ok (.ldc 227, 2) := by decide +kernel
theorem dJ2_indexOf_4cfef_25 : decode cJ2_indexOf_4cfef 25 = .ok (.if_icmp .ge 11, 3) := by decide +kernel
theorem dJ2_indexOf_4cfef_28 : decode cJ2_indexOf_4cfef 28 = .ok (.aload_n 0, 1) := by decide +kernel
theorem dJ2_indexOf_4cfef_29 : decode cJ2_indexOf_4cfef 29 = .ok (.iload_n 1, 1) := by decide +kernel
theorem dJ2_indexOf_4cfef_30 : decode cJ2_indexOf_4cfef 30 = .ok (.iload_n 2, 1) := by decide +kernel
theorem dJ2_indexOf_4cfef_31 : decode cJ2_indexOf_4cfef 31 = .ok (.iload_n 3, 1) := by decide +kernel
theorem dJ2_indexOf_4cfef_32 : decode cJ2_indexOf_4cfef 32 = .ok (.invokestatic 228, 3) := by decide +kernel
theorem dJ2_indexOf_4cfef_35 : decode cJ2_indexOf_4cfef 35 = .ok (.ireturn, 1) := by decide +kernel
theorem dJ2_indexOf_4cfef_36 : decode cJ2_indexOf_4cfef 36 = .ok (.aload_n 0, 1) := by decide +kernel
theorem dJ2_indexOf_4cfef_37 : decode cJ2_indexOf_4cfef 37 = .ok (.iload_n 1, 1) := by decide +kernel
theorem dJ2_indexOf_4cfef_38 : decode cJ2_indexOf_4cfef 38 = .ok (.iload_n 2, 1) := by decide +kernel
theorem dJ2_indexOf_4cfef_39 : decode cJ2_indexOf_4cfef 39 = .ok (.iload_n 3, 1) := by decide +kernel
theorem dJ2_indexOf_4cfef_40 : decode cJ2_indexOf_4cfef 40 = .ok (.invokestatic 232, 3) := by decide +kernel
theorem dJ2_indexOf_4cfef_43 : decode cJ2_indexOf_4cfef 43 = .ok (.ireturn, 1) := by decide +kernel
theorem dJ2_indexOfChar_4cfef_0 : decode cJ2_indexOfChar_4cfef 0 = .ok (.iload_n 2, 1) := by decide +kernel
theorem dJ2_indexOfChar_4cfef_1 : decode cJ2_indexOfChar_4cfef 1 = .ok (.iload_n 3, 1) := by decide +kernel
theorem dJ2_indexOfChar_4cfef_2 : decode cJ2_indexOfChar_4cfef 2 = .ok (.aload_n 0, 1) := by decide +kernel
theorem dJ2_indexOfChar_4cfef_3 : decode cJ2_indexOfChar_4cfef 3 = .ok (.invokestatic 96, 3) := by decide +kernel
theorem dJ2_indexOfChar_4cfef_6 : decode cJ2_indexOfChar_4cfef 6 = .ok (.aload_n 0, 1) := by decide +kernel
theorem dJ2_indexOfChar_4cfef_7 : decode cJ2_indexOfChar_4cfef 7 = .ok (.iload_n 1, 1) := by decide +kernel
theorem dJ2_indexOfChar_4cfef_8 : decode cJ2_indexOfChar_4cfef 8 = .ok (.iload_n 2, 1) := by decide +kernel
theorem dJ2_indexOfChar_4cfef_9 : decode cJ2_indexOfChar_4cfef 9 = .ok (.iload_n 3, 1) := by decide +kernel
theorem dJ2_indexOfChar_4cfef_10 : decode cJ2_indexOfChar_4cfef 10 = .ok (.invokestatic 244, 3) := by decide +kernel
theorem dJ2_indexOfChar_4cfef_13 : decode cJ2_indexOfChar_4cfef 13 = .ok (.ireturn, 1) := by decide +kernel
theorem dJ2_indexOfCharUnsafe_4cfef_0 : decode cJ2_indexOfCharUnsafe_4cfef 0 = .ok (.iload_n 2, 1) := by decide +kernel
theorem dJ2_indexOfCharUnsafe_4cfef_1 : decode cJ2_indexOfCharUnsafe_4cfef 1 = .ok (.istore 4, 2) := by decide +kernel
theorem dJ2_indexOfCharUnsafe_4cfef_3 : decode cJ2_indexOfCharUnsafe_4cfef 3 = .ok (.iload 4, 2) := by decide +kernel
theorem dJ2_indexOfCharUnsafe_4cfef_5 : decode cJ2_indexOfCharUnsafe_4cfef 5 = .ok (.iload_n 3, 1) := by decide +kernel
theorem dJ2_indexOfCharUnsafe_4cfef_6 : decode cJ2_indexOfCharUnsafe_4cfef 6 = .ok (.if_icmp .ge 22, 3) := by decide +kernel
theorem dJ2_indexOfCharUnsafe_4cfef_9 : decode cJ2_indexOfCharUnsafe_4cfef 9 = .ok (.aload_n 0, 1) := by decide +kernel
theorem dJ2_indexOfCharUnsafe_4cfef_10 : decode cJ2_indexOfCharUnsafe_4cfef 10 = .ok (.iload 4, 2) := by decide +kernel
theorem dJ2_indexOfCharUnsafe_4cfef_12 : decode cJ2_indexOfCharUnsafe_4cfef 12 = .ok (.invokestatic 71, 3) := by decide +kernel
theorem dJ2_indexOfCharUnsafe_4cfef_15 : decode cJ2_indexOfCharUnsafe_4cfef 15 = .ok (.iload_n 1, 1) := by decide +kernel
theorem dJ2_indexOfCharUnsafe_4cfef_16 : decode cJ2_indexOfCharUnsafe_4cfef 16 = .ok (.if_icmp .ne 6, 3) := by decide +kernel
theorem dJ2_indexOfCharUnsafe_4cfef_19 : decode cJ2_indexOfCharUnsafe_4cfef 19 = .ok (.iload 4, 2) := by decide +kernel
theorem dJ2_indexOfCharUnsafe_4cfef_21 : decode cJ2_indexOfCharUnsafe_4cfef 21 = .ok (.ireturn, 1) := by decide +kernel
theorem dJ2_indexOfCharUnsafe_4cfef_22 : decode cJ2_indexOfCharUnsafe_4cfef 22 = .ok (.iinc 4 1, 3) := by decide +kernel
theorem dJ2_indexOfCharUnsafe_4cfef_25 : decode cJ2_indexOfCharUnsafe_4cfef 25 = .ok (.goto (-22), 3) := by decide +kernel
theorem dJ2_indexOfCharUnsafe_4cfef_28 : decode cJ2_indexOfCharUnsafe_4cfef 28 = .ok (.iconst (-1), 1) := by decide +kernel
theorem dJ2_indexOfCharUnsafe_4cfef_29 : decode cJ2_indexOfCharUnsafe_4cfef 29 = .ok (.ireturn, 1) := by decide +kernel
theorem dJ2_indexOfSupplementary_4cfef_0 : decode cJ2_indexOfSupplementary_4cfef 0 = .ok (.iload_n 1, 1) := by decide +kernel
theorem dJ2_indexOfSupplementary_4cfef_1 : decode cJ2_indexOfSupplementary_4cfef 1 = .ok (.invokestatic 164, 3) := by decide +kernel
theorem dJ2_indexOfSupplementary_4cfef_4 : decode cJ2_indexOfSupplementary_4cfef 4 = .ok (.ifCond .eq 65, 3) := by decide +kernel
theorem dJ2_indexOfSupplementary_4cfef_7 : decode cJ2_indexOfSupplementary_4cfef 7 = .ok (.iload_n 1, 1) := by decide +kernel
theorem dJ2_indexOfSupplementary_4cfef_8 : decode cJ2_indexOfSupplementary_4cfef 8 = .ok (.invokestatic 157, 3) := by decide +kernel
theorem dJ2_indexOfSupplementary_4cfef_11 : decode cJ2_indexOfSupplementary_4cfef 11 = .ok (.istore 4, 2) := by decide +kernel
theorem dJ2_indexOfSupplementary_4cfef_13 : decode cJ2_indexOfSupplementary_4cfef 13 = .ok (.iload_n 1, 1) := by decide +kernel
theorem dJ2_indexOfSupplementary_4cfef_14 : decode cJ2_indexOfSupplementary_4cfef 14 = .ok (.invokestatic 161, 3) := by decide +kernel
theorem dJ2_indexOfSupplementary_4cfef_17 : decode cJ2_indexOfSupplementary_4cfef 17 = .ok (.istore 5, 2) := by decide +kernel
theorem dJ2_indexOfSupplementary_4cfef_19 : decode cJ2_indexOfSupplementary_4cfef 19 = .ok (.iload_n 2, 1) := by decide +kernel
theorem dJ2_indexOfSupplementary_4cfef_20 : decode cJ2_indexOfSupplementary_4cfef 20 = .ok (.iload_n 3, 1) := by decide +kernel
theorem dJ2_indexOfSupplementary_4cfef_21 : decode cJ2_indexOfSupplementary_4cfef 21 = .ok (.aload_n 0, 1) := by decide +kernel
theorem dJ2_indexOfSupplementary_4cfef_22 : decode cJ2_indexOfSupplementary_4cfef 22 = .ok (.invokestatic 96, 3) := by decide +kernel
theorem dJ2_indexOfSupplementary_4cfef_25 : decode cJ2_indexOfSupplementary_4cfef 25 = .ok (.iload_n 2, 1) := by decide +kernel
theorem dJ2_indexOfSupplementary_4cfef_26 : decode cJ2_indexOfSupplementary_4cfef 26 = .ok (.istore 6, 2) := by decide +kernel
theorem dJ2_indexOfSupplementary_4cfef_28 : decode cJ2_indexOfSupplementary_4cfef 28 = .ok (.iload 6, 2) := by decide +kernel
theorem dJ2_indexOfSupplementary_4cfef_30 : decode cJ2_indexOfSupplementary_4cfef 30 = .ok (.iload_n 3, 1) := by decide +kernel
theorem dJ2_indexOfSupplementary_4cfef_31 : decode cJ2_indexOfSupplementary_4cfef 31 = .ok (.iconst 1, 1) := by decide +kernel
theorem dJ2_indexOfSupplementary_4cfef_32 : decode cJ2_indexOfSupplementary_4cfef 32 = .ok (.isub, 1) := by decide +kernel
theorem dJ2_indexOfSupplementary_4cfef_33 : decode cJ2_indexOfSupplementary_4cfef 33 = .ok (.if_icmp .ge 36, 3) := by decide +kernel
theorem dJ2_indexOfSupplementary_4cfef_36 : decode cJ2_indexOfSupplementary_4cfef 36 = .ok (.aload_n 0, 1) := by decide +kernel
theorem dJ2_indexOfSupplementary_4cfef_37 : decode cJ2_indexOfSupplementary_4cfef 37 = .ok (.iload 6, 2) := by decide +kernel
theorem dJ2_indexOfSupplementary_4cfef_39 : decode cJ2_indexOfSupplementary_4cfef 39 = .ok (.invokestatic 71, 3) := by decide +kernel
theorem dJ2_indexOfSupplementary_4cfef_42 : decode cJ2_indexOfSupplementary_4cfef 42 = .ok (.iload 4, 2) := by decide +kernel
theorem dJ2_indexOfSupplementary_4cfef_44 : decode cJ2_indexOfSupplementary_4cfef 44 = .ok (.if_icmp .ne 19, 3) := by decide +kernel
theorem dJ2_indexOfSupplementary_4cfef_47 : decode cJ2_indexOfSupplementary_4cfef 47 = .ok (.aload_n 0, 1) := by decide +kernel
theorem dJ2_indexOfSupplementary_4cfef_48 : decode cJ2_indexOfSupplementary_4cfef 48 = .ok (.iload 6, 2) := by decide +kernel
theorem dJ2_indexOfSupplementary_4cfef_50 : decode cJ2_indexOfSupplementary_4cfef 50 = .ok (.iconst 1, 1) := by decide +kernel
theorem dJ2_indexOfSupplementary_4cfef_51 : decode cJ2_indexOfSupplementary_4cfef 51 = .ok (.iadd, 1) := by decide +kernel
theorem dJ2_indexOfSupplementary_4cfef_52 : decode cJ2_indexOfSupplementary_4cfef 52 = .ok (.invokestatic 71, 3) := by decide +kernel
theorem dJ2_indexOfSupplementary_4cfef_55 : decode cJ2_indexOfSupplementary_4cfef 55 = .ok (.iload 5, 2) := by decide +kernel
theorem dJ2_indexOfSupplementary_4cfef_57 : decode cJ2_indexOfSupplementary_4cfef 57 = .ok (.if_icmp .ne 6, 3) := by decide +kernel
theorem dJ2_indexOfSupplementary_4cfef_60 : decode cJ2_indexOfSupplementary_4cfef 60 = .ok (.iload 6, 2) := by decide +kernel
theorem dJ2_indexOfSupplementary_4cfef_62 : decode cJ2_indexOfSupplementary_4cfef 62 = .ok (.ireturn, 1) := by decide +kernel
theorem dJ2_indexOfSupplementary_4cfef_63 : decode cJ2_indexOfSupplementary_4cfef 63 = .ok (.iinc 6 1, 3) := by decide +kernel
theorem dJ2_indexOfSupplementary_4cfef_66 : decode cJ2_indexOfSupplementary_4cfef 66 = .ok (.goto (-38), 3) := by decide +kernel
theorem dJ2_indexOfSupplementary_4cfef_69 : decode cJ2_indexOfSupplementary_4cfef 69 = .ok (.iconst (-1), 1) := by decide +kernel
theorem dJ2_indexOfSupplementary_4cfef_70 : decode cJ2_indexOfSupplementary_4cfef 70 = .ok (.ireturn, 1) := by decide +kernel
theorem dJ2_charAt_3b067_0 : decode cJ2_charAt_3b067 0 = .ok (.iload_n 1, 1) := by decide +kernel
theorem dJ2_charAt_3b067_1 : decode cJ2_charAt_3b067 1 = .ok (.aload_n 0, 1) := by decide +kernel
theorem dJ2_charAt_3b067_2 : decode cJ2_charAt_3b067 2 = .ok (.invokestatic 67, 3) := by decide +kernel
theorem dJ2_charAt_3b067_5 : decode cJ2_charAt_3b067 5 = .ok (.aload_n 0, 1) := by decide +kernel
theorem dJ2_charAt_3b067_6 : decode cJ2_charAt_3b067 6 = .ok (.iload_n 1, 1) := by decide +kernel
theorem dJ2_charAt_3b067_7 : decode cJ2_charAt_3b067 7 = .ok (.invokestatic 71, 3) := by decide +kernel
theorem dJ2_charAt_3b067_10 : decode cJ2_charAt_3b067 10 = .ok (.ireturn, 1) := by decide +kernel
theorem dJ2_checkIndex_2214a_0 : decode cJ2_checkIndex_2214a 0 = .ok (.iload_n 0, 1) := by decide +kernel
theorem dJ2_checkIndex_2214a_1 : decode cJ2_checkIndex_2214a 1 = .ok (.aload_n 1, 1) := by decide +kernel
theorem dJ2_checkIndex_2214a_2 : decode cJ2_checkIndex_2214a 2 = .ok (.invokestatic 48, 3) := by decide +kernel
theorem dJ2_checkIndex_2214a_5 : decode cJ2_checkIndex_2214a 5 = .ok (.invokestatic 414, 3) := by decide +kernel
theorem dJ2_checkIndex_2214a_8 : decode cJ2_checkIndex_2214a 8 = .ok (.return_, 1) := by decide +kernel
theorem dJ2_checkBoundsBeginEnd_d044e_0 : decode cJ2_checkBoundsBeginEnd_d044e 0 = .ok (.iload_n 0, 1) := by decide +kernel
theorem dJ2_checkBoundsBeginEnd_d044e_1 : decode cJ2_checkBoundsBeginEnd_d044e 1 = .ok (.iload_n 1, 1) := by decide +kernel
theorem dJ2_checkBoundsBeginEnd_d044e_2 : decode cJ2_checkBoundsBeginEnd_d044e 2 = .ok (.aload_n 2, 1) := by decide +kernel
theorem dJ2_checkBoundsBeginEnd_d044e_3 : decode cJ2_checkBoundsBeginEnd_d044e 3 = .ok (.invokestatic 48, 3) := by decide +kernel
theorem dJ2_checkBoundsBeginEnd_d044e_6 : decode cJ2_checkBoundsBeginEnd_d044e 6 = .ok (.invokestatic 241, 3) := by decide +kernel
theorem dJ2_checkBoundsBeginEnd_d044e_9 : decode cJ2_checkBoundsBeginEnd_d044e 9 = .ok (.return_, 1) := by decide +kernel
theorem dJ3_checkIndex_8e157_0 : decode cJ3_checkIndex_8e157 0 = .ok (.iload_n 0, 1) := by decide +kernel
theorem dJ3_checkIndex_8e157_1 : decode cJ3_checkIndex_8e157 1 = .ok (.ifCond .lt 8, 3) := by decide +kernel
theorem dJ3_checkIndex_8e157_4 : decode cJ3_checkIndex_8e157 4 = .ok (.iload_n 0, 1) := by decide +kernel
theorem dJ3_checkIndex_8e157_5 : decode cJ3_checkIndex_8e157 5 = .ok (.iload_n 1, 1) := by decide +kernel
theorem dJ3_checkIndex_8e157_6 : decode cJ3_checkIndex_8e157 6 = .ok (.if_icmp .lt 10, 3) := by decide +kernel
theorem dJ3_checkIndex_8e157_9 : decode cJ3_checkIndex_8e157 9 = .ok (.aload_n 2, 1) := by decide +kernel
theorem dJ3_checkIndex_8e157_10 : decode cJ3_checkIndex_8e157 10 = .ok (.iload_n 0, 1) := by decide +kernel
theorem dJ3_checkIndex_8e157_11 : decode cJ3_checkIndex_8e157 11 = .ok (.iload_n 1, 1) := by decide +kernel
theorem dJ3_checkIndex_8e157_12 : decode cJ3_checkIndex_8e157 12 = .ok (.invokestatic 95, 3) := by decide +kernel
theorem dJ3_checkIndex_8e157_15 : decode cJ3_checkIndex_8e157 15 = .ok (.athrow, 1) := by decide +kernel
theorem dJ3_checkIndex_8e157_16 : decode cJ3_checkIndex_8e157 16 = .ok (.iload_n 0, 1) := by decide +kernel
theorem dJ3_checkIndex_8e157_17 : decode cJ3_checkIndex_8e157 17 = .ok (.ireturn, 1) := by decide +kernel
theorem dJ3_checkFromToIndex_8c36e_0 : decode cJ3_checkFromToIndex_8c36e 0 = .ok (.iload_n 0, 1) := by decide +kernel
theorem dJ3_checkFromToIndex_8c36e_1 : decode cJ3_checkFromToIndex_8c36e 1 = .ok (.ifCond .lt 13, 3) := by decide +kernel
theorem dJ3_checkFromToIndex_8c36e_4 : decode cJ3_checkFromToIndex_8c36e 4 = .ok (.iload_n 0, 1) := by decide +kernel
theorem dJ3_checkFromToIndex_8c36e_5 : decode cJ3_checkFromToIndex_8c36e 5 = .ok (.iload_n 1, 1) := by decide +kernel
theorem dJ3_checkFromToIndex_8c36e_6 : decode cJ3_checkFromToIndex_8c36e 6 = .ok (.if_icmp .gt 8, 3) := by decide +kernel
theorem dJ3_checkFromToIndex_8c36e_9 : decode cJ3_checkFromToIndex_8c36e 9 = .ok (.iload_n 1, 1) := by decide +kernel
theorem dJ3_checkFromToIndex_8c36e_10 : decode cJ3_checkFromToIndex_8c36e 10 = .ok (.iload_n 2, 1) := by decide +kernel
theorem dJ3_checkFromToIndex_8c36e_11 : decode cJ3_checkFromToIndex_8c36e 11 = .ok (.if_icmp .le 11, 3) := by decide +kernel
theorem dJ3_checkFromToIndex_8c36e_14 : decode cJ3_checkFromToIndex_8c36e 14 = .ok (.aload_n 3, 1) := by decide +kernel
theorem dJ3_checkFromToIndex_8c36e_15 : decode cJ3_checkFromToIndex_8c36e 15 = .ok (.iload_n 0, 1) := by decide +kernel
theorem dJ3_checkFromToIndex_8c36e_16 : decode cJ3_checkFromToIndex_8c36e 16 = .ok (.iload_n 1, 1) := by decide +kernel
theorem dJ3_checkFromToIndex_8c36e_17 : decode cJ3_checkFromToIndex_8c36e 17 = .ok (.iload_n 2, 1) := by decide +kernel
theorem dJ3_checkFromToIndex_8c36e_18 : decode cJ3_checkFromToIndex_8c36e 18 = .ok (.invokestatic 99, 3) := by decide +kernel
theorem dJ3_checkFromToIndex_8c36e_21 : decode cJ3_checkFromToIndex_8c36e 21 = .ok (.athrow, 1) := by decide +kernel
theorem dJ3_checkFromToIndex_8c36e_22 : decode cJ3_checkFromToIndex_8c36e 22 = .ok (.iload_n 0, 1) := by decide +kernel
theorem dJ3_checkFromToIndex_8c36e_23 : decode cJ3_checkFromToIndex_8c36e 23 = .ok (.ireturn, 1) := by decide +kernel
