theorem dX9_init_0 : decode cX9_init 0 = .ok (.aload_n 0, 1) := by decide +kernel
theorem dX9_init_1 : decode cX9_init 1 = .ok (.invokespecial 1, 3) := by decide +kernel
theorem dX9_init_4 : decode cX9_init 4 = .ok (.aload_n 0, 1) := by decide +kernel
theorem dX9_init_5 : decode cX9_init 5 = .ok (.bipush 7, 2) := by decide +kernel
theorem dX9_init_7 : decode cX9_init 7 = .ok (.newarray .int, 2) := by decide +kernel
theorem dX9_init_9 : decode cX9_init 9 = .ok (.putfield 7, 3) := by decide +kernel
theorem dX9_init_12 : decode cX9_init 12 = .ok (.aload_n 0, 1) := by decide +kernel
theorem dX9_init_13 : decode cX9_init 13 = .ok (.sipush 189, 3) := by decide +kernel
theorem dX9_init_16 : decode cX9_init 16 = .ok (.newarray .int, 2) := by decide +kernel
theorem dX9_init_18 : decode cX9_init 18 = .ok (.putfield 13, 3) := by decide +kernel
theorem dX9_init_21 : decode cX9_init 21 = .ok (.aload_n 0, 1) := by decide +kernel
theorem dX9_init_22 : decode cX9_init 22 = .ok (.sipush 189, 3) := by decide +kernel
theorem dX9_init_25 : decode cX9_init 25 = .ok (.newarray .int, 2) := by decide +kernel
theorem dX9_init_27 : decode cX9_init 27 = .ok (.putfield 16, 3) := by decide +kernel
theorem dX9_init_30 : decode cX9_init 30 = .ok (.aload_n 0, 1) := by decide +kernel
theorem dX9_init_31 : decode cX9_init 31 = .ok (.sipush 189, 3) := by decide +kernel
theorem dX9_init_34 : decode cX9_init 34 = .ok (.newarray .int, 2) := by decide +kernel
theorem dX9_init_36 : decode cX9_init 36 = .ok (.putfield 19, 3) := by decide +kernel
theorem dX9_init_39 : decode cX9_init 39 = .ok (.aload_n 0, 1) := by decide +kernel
theorem dX9_init_40 : decode cX9_init 40 = .ok (.sipush 189, 3) := by decide +kernel
theorem dX9_init_43 : decode cX9_init 43 = .ok (.newarray .int, 2) := by decide +kernel
theorem dX9_init_45 : decode cX9_init 45 = .ok (.putfield 22, 3) := by decide +kernel
theorem dX9_init_48 : decode cX9_init 48 = .ok (.aload_n 0, 1) := by decide +kernel
theorem dX9_init_49 : decode cX9_init 49 = .ok (.bipush 64, 2) := by decide +kernel
theorem dX9_init_51 : decode cX9_init 51 = .ok (.newarray .int, 2) := by decide +kernel
theorem dX9_init_53 : decode cX9_init 53 = .ok (.putfield 25, 3) := by decide +kernel
theorem dX9_init_56 : decode cX9_init 56 = .ok (.aload_n 0, 1) := by decide +kernel
theorem dX9_init_57 : decode cX9_init 57 = .ok (.bipush 6, 2) := by decide +kernel
theorem dX9_init_59 : decode cX9_init 59 = .ok (.newarray .int, 2) := by decide +kernel
theorem dX9_init_61 : decode cX9_init 61 = .ok (.putfield 28, 3) := by decide +kernel
theorem dX9_init_64 : decode cX9_init 64 = .ok (.aload_n 0, 1) := by decide +kernel
theorem dX9_init_65 : decode cX9_init 65 = .ok (.bipush (-9), 2) := by decide +kernel
theorem dX9_init_67 : decode cX9_init 67 = .ok (.putfield 31, 3) := by decide +kernel
theorem dX9_init_70 : decode cX9_init 70 = .ok (.aload_n 0, 1) := by decide +kernel
theorem dX9_init_71 : decode cX9_init 71 = .ok (.bipush 7, 2) := by decide +kernel
theorem dX9_init_73 : decode cX9_init 73 = .ok (.newarray .int, 2) := by decide +kernel
theorem dX9_init_75 : decode cX9_init 75 = .ok (.putfield 35, 3) := by decide +kernel
theorem dX9_init_78 : decode cX9_init 78 = .ok (.aload_n 0, 1) := by decide +kernel
theorem dX9_init_79 : decode cX9_init 79 = .ok (.bipush 7, 2) := by decide +kernel
theorem dX9_init_81 : decode cX9_init 81 = .ok (.newarray .int, 2) := by decide +kernel
theorem dX9_init_83 : decode cX9_init 83 = .ok (.putfield 38, 3) := by decide +kernel
theorem dX9_init_86 : decode cX9_init 86 = .ok (.aload_n 0, 1) := by decide +kernel
theorem dX9_init_87 : decode cX9_init 87 = .ok (.bipush 6, 2) := by decide +kernel
theorem dX9_init_89 : decode cX9_init 89 = .ok (.newarray .int, 2) := by decide +kernel
theorem dX9_init_91 : decode cX9_init 91 = .ok (.putfield 41, 3) := by decide +kernel
theorem dX9_init_94 : decode cX9_init 94 = .ok (.aload_n 0, 1) := by decide +kernel
theorem dX9_init_95 : decode cX9_init 95 = .ok (.bipush 6, 2) := by decide +kernel
theorem dX9_init_97 : decode cX9_init 97 = .ok (.newarray .int, 2) := by decide +kernel
theorem dX9_init_99 : decode cX9_init 99 = .ok (.putfield 44, 3) := by decide +kernel
theorem dX9_init_102 : decode cX9_init 102 = .ok (.aload_n 0, 1) := by decide +kernel
theorem dX9_init_103 : decode cX9_init 103 = .ok (.bipush 28, 2) := by decide +kernel
theorem dX9_init_105 : decode cX9_init 105 = .ok (.newarray .int, 2) := by decide +kernel
theorem dX9_init_107 : decode cX9_init 107 = .ok (.putfield 47, 3) := by decide +kernel
theorem dX9_init_110 : decode cX9_init 110 = .ok (.aload_n 0, 1) := by decide +kernel
theorem dX9_init_111 : decode cX9_init 111 = .ok (.getfield 13, 3) := by decide +kernel
theorem dX9_init_114 : decode cX9_init 114 = .ok (.iconst 3, 1) := by decide +kernel
theorem dX9_init_115 : decode cX9_init 115 = .ok (.bipush (-9), 2) := by decide +kernel
theorem dX9_init_117 : decode cX9_init 117 = .ok (.iastore, 1) := by decide +kernel
theorem dX9_init_118 : decode cX9_init 118 = .ok (.iconst 0, 1) := by decide +kernel
theorem dX9_init_119 : decode cX9_init 119 = .ok (.istore_n 1, 1) := by decide +kernel
theorem dX9_init_120 : decode cX9_init 120 = .ok (.iload_n 1, 1) := by decide +kernel
theorem dX9_init_121 : decode cX9_init 121 = .ok (.iconst 4, 1) := by decide +kernel
theorem dX9_init_122 : decode cX9_init 122 = .ok (.if_icmp .ge 19, 3) := by decide +kernel
theorem dX9_init_125 : decode cX9_init 125 = .ok (.aload_n 0, 1) := by decide +kernel
theorem dX9_init_126 : decode cX9_init 126 = .ok (.getfield 13, 3) := by decide +kernel
theorem dX9_init_129 : decode cX9_init 129 = .ok (.iconst 5, 1) := by decide +kernel
theorem dX9_init_130 : decode cX9_init 130 = .ok (.iload_n 1, 1) := by decide +kernel
theorem dX9_init_131 : decode cX9_init 131 = .ok (.iadd, 1) := by decide +kernel
theorem dX9_init_132 : decode cX9_init 132 = .ok (.bipush 100, 2) := by decide +kernel
theorem dX9_init_134 : decode cX9_init 134 = .ok (.iastore, 1) := by decide +kernel
theorem dX9_init_135 : decode cX9_init 135 = .ok (.iinc 1 1, 3) := by decide +kernel
theorem dX9_init_138 : decode cX9_init 138 = .ok (.goto (-18), 3) := by decide +kernel
theorem dX9_init_141 : decode cX9_init 141 = .ok (.iconst 0, 1) := by decide +kernel
theorem dX9_init_142 : decode cX9_init 142 = .ok (.istore_n 1, 1) := by decide +kernel
theorem dX9_init_143 : decode cX9_init 143 = .ok (.iload_n 1, 1) := by decide +kernel
theorem dX9_init_144 : decode cX9_init 144 = .ok (.bipush 8, 2) := by decide +kernel
theorem dX9_init_146 : decode cX9_init 146 = .ok (.if_icmp .ge 24, 3) := by decide +kernel
theorem dX9_init_149 : decode cX9_init 149 = .ok (.aload_n 0, 1) := by decide +kernel
theorem dX9_init_150 : decode cX9_init 150 = .ok (.getfield 13, 3) := by decide +kernel
theorem dX9_init_153 : decode cX9_init 153 = .ok (.bipush 121, 2) := by decide +kernel
theorem dX9_init_155 : decode cX9_init 155 = .ok (.iconst 4, 1) := by decide +kernel
theorem dX9_init_156 : decode cX9_init 156 = .ok (.iload_n 1, 1) := by decide +kernel
theorem dX9_init_157 : decode cX9_init 157 = .ok (.imul, 1) := by decide +kernel
theorem dX9_init_158 : decode cX9_init 158 = .ok (.iadd, 1) := by decide +kernel
theorem dX9_init_159 : decode cX9_init 159 = .ok (.iconst 3, 1) := by decide +kernel
theorem dX9_init_160 : decode cX9_init 160 = .ok (.iadd, 1) := by decide +kernel
theorem dX9_init_161 : decode cX9_init 161 = .ok (.bipush (-9), 2) := by decide +kernel
theorem dX9_init_163 : decode cX9_init 163 = .ok (.iastore, 1) := by decide +kernel
theorem dX9_init_164 : decode cX9_init 164 = .ok (.iinc 1 1, 3) := by decide +kernel
theorem dX9_init_167 : decode cX9_init 167 = .ok (.goto (-24), 3) := by decide +kernel
theorem dX9_init_170 : decode cX9_init 170 = .ok (.return_, 1) := by decide +kernel
theorem dX9_refuse_0 : decode cX9_refuse 0 = .ok (.aload_n 0, 1) := by decide +kernel
theorem dX9_refuse_1 : decode cX9_refuse 1 = .ok (.getfield 7, 3) := by decide +kernel
theorem dX9_refuse_4 : decode cX9_refuse 4 = .ok (.iload_n 1, 1) := by decide +kernel
theorem dX9_refuse_5 : decode cX9_refuse 5 = .ok (.ineg, 1) := by decide +kernel
theorem dX9_refuse_6 : decode cX9_refuse 6 = .ok (.dup2, 1) := by decide +kernel
theorem dX9_refuse_7 : decode cX9_refuse 7 = .ok (.iaload, 1) := by decide +kernel
theorem dX9_refuse_8 : decode cX9_refuse 8 = .ok (.iconst 1, 1) := by decide +kernel
theorem dX9_refuse_9 : decode cX9_refuse 9 = .ok (.iadd, 1) := by decide +kernel
theorem dX9_refuse_10 : decode cX9_refuse 10 = .ok (.iastore, 1) := by decide +kernel
theorem dX9_refuse_11 : decode cX9_refuse 11 = .ok (.iload_n 1, 1) := by decide +kernel
theorem dX9_refuse_12 : decode cX9_refuse 12 = .ok (.ireturn, 1) := by decide +kernel
theorem dX9_isIn_0 : decode cX9_isIn 0 = .ok (.iload_n 0, 1) := by decide +kernel
theorem dX9_isIn_1 : decode cX9_isIn 1 = .ok (.ifCond .lt 12, 3) := by decide +kernel
theorem dX9_isIn_4 : decode cX9_isIn 4 = .ok (.iload_n 0, 1) := by decide +kernel
theorem dX9_isIn_5 : decode cX9_isIn 5 = .ok (.iload_n 1, 1) := by decide +kernel
theorem dX9_isIn_6 : decode cX9_isIn 6 = .ok (.if_icmp .ge 7, 3) := by decide +kernel
theorem dX9_isIn_9 : decode cX9_isIn 9 = .ok (.iconst 1, 1) := by decide +kernel
theorem dX9_isIn_10 : decode cX9_isIn 10 = .ok (.goto 4, 3) := by decide +kernel
theorem dX9_isIn_13 : decode cX9_isIn 13 = .ok (.iconst 0, 1) := by decide +kernel
theorem dX9_isIn_14 : decode cX9_isIn 14 = .ok (.ireturn, 1) := by decide +kernel
theorem dX9_within_0 : decode cX9_within 0 = .ok (.iload_n 0, 1) := by decide +kernel
theorem dX9_within_1 : decode cX9_within 1 = .ok (.iload_n 1, 1) := by decide +kernel
theorem dX9_within_2 : decode cX9_within 2 = .ok (.if_icmp .ge 8, 3) := by decide +kernel
theorem dX9_within_5 : decode cX9_within 5 = .ok (.bipush (-4), 2) := by decide +kernel
theorem dX9_within_7 : decode cX9_within 7 = .ok (.goto 14, 3) := by decide +kernel
theorem dX9_within_10 : decode cX9_within 10 = .ok (.iload_n 0, 1) := by decide +kernel
theorem dX9_within_11 : decode cX9_within 11 = .ok (.iload_n 2, 1) := by decide +kernel
theorem dX9_within_12 : decode cX9_within 12 = .ok (.if_icmp .le 8, 3) := by decide +kernel
theorem dX9_within_15 : decode cX9_within 15 = .ok (.bipush (-6), 2) := by decide +kernel
theorem dX9_within_17 : decode cX9_within 17 = .ok (.goto 4, 3) := by decide +kernel
theorem dX9_within_20 : decode cX9_within 20 = .ok (.iconst 0, 1) := by decide +kernel
theorem dX9_within_21 : decode cX9_within 21 = .ok (.ireturn, 1) := by decide +kernel
theorem dX9_isHolder_0 : decode cX9_isHolder 0 = .ok (.iload_n 1, 1) := by decide +kernel
theorem dX9_isHolder_1 : decode cX9_isHolder 1 = .ok (.aload_n 0, 1) := by decide +kernel
theorem dX9_isHolder_2 : decode cX9_isHolder 2 = .ok (.getfield 13, 3) := by decide +kernel
theorem dX9_isHolder_5 : decode cX9_isHolder 5 = .ok (.iconst 0, 1) := by decide +kernel
theorem dX9_isHolder_6 : decode cX9_isHolder 6 = .ok (.iaload, 1) := by decide +kernel
theorem dX9_isHolder_7 : decode cX9_isHolder 7 = .ok (.invokestatic 50, 3) := by decide +kernel
theorem dX9_isHolder_10 : decode cX9_isHolder 10 = .ok (.ireturn, 1) := by decide +kernel
theorem dX9_isWork_0 : decode cX9_isWork 0 = .ok (.iload_n 1, 1) := by decide +kernel
theorem dX9_isWork_1 : decode cX9_isWork 1 = .ok (.aload_n 0, 1) := by decide +kernel
theorem dX9_isWork_2 : decode cX9_isWork 2 = .ok (.getfield 13, 3) := by decide +kernel
theorem dX9_isWork_5 : decode cX9_isWork 5 = .ok (.iconst 1, 1) := by decide +kernel
theorem dX9_isWork_6 : decode cX9_isWork 6 = .ok (.iaload, 1) := by decide +kernel
theorem dX9_isWork_7 : decode cX9_isWork 7 = .ok (.invokestatic 50, 3) := by decide +kernel
theorem dX9_isWork_10 : decode cX9_isWork 10 = .ok (.ireturn, 1) := by decide +kernel
theorem dX9_isHour_0 : decode cX9_isHour 0 = .ok (.iload_n 0, 1) := by decide +kernel
theorem dX9_isHour_1 : decode cX9_isHour 1 = .ok (.bipush 28, 2) := by decide +kernel
theorem dX9_isHour_3 : decode cX9_isHour 3 = .ok (.invokestatic 50, 3) := by decide +kernel
theorem dX9_isHour_6 : decode cX9_isHour 6 = .ok (.ireturn, 1) := by decide +kernel
theorem dX9_get_0 : decode cX9_get 0 = .ok (.aload_n 0, 1) := by decide +kernel
theorem dX9_get_1 : decode cX9_get 1 = .ok (.getfield 13, 3) := by decide +kernel
theorem dX9_get_4 : decode cX9_get 4 = .ok (.bipush 121, 2) := by decide +kernel
theorem dX9_get_6 : decode cX9_get 6 = .ok (.iconst 4, 1) := by decide +kernel
theorem dX9_get_7 : decode cX9_get 7 = .ok (.iload_n 1, 1) := by decide +kernel
theorem dX9_get_8 : decode cX9_get 8 = .ok (.imul, 1) := by decide +kernel
theorem dX9_get_9 : decode cX9_get 9 = .ok (.iadd, 1) := by decide +kernel
theorem dX9_get_10 : decode cX9_get 10 = .ok (.iload_n 2, 1) := by decide +kernel
theorem dX9_get_11 : decode cX9_get 11 = .ok (.iadd, 1) := by decide +kernel
theorem dX9_get_12 : decode cX9_get 12 = .ok (.iaload, 1) := by decide +kernel
theorem dX9_get_13 : decode cX9_get 13 = .ok (.ireturn, 1) := by decide +kernel
theorem dX9_of_0 : decode cX9_of 0 = .ok (.aload_n 0, 1) := by decide +kernel
theorem dX9_of_1 : decode cX9_of 1 = .ok (.getfield 13, 3) := by decide +kernel
theorem dX9_of_4 : decode cX9_of 4 = .ok (.sipush 153, 3) := by decide +kernel
theorem dX9_of_7 : decode cX9_of 7 = .ok (.bipush 6, 2) := by decide +kernel
theorem dX9_of_9 : decode cX9_of 9 = .ok (.iload_n 1, 1) := by decide +kernel
theorem dX9_of_10 : decode cX9_of 10 = .ok (.imul, 1) := by decide +kernel
theorem dX9_of_11 : decode cX9_of 11 = .ok (.iadd, 1) := by decide +kernel
theorem dX9_of_12 : decode cX9_of 12 = .ok (.iload_n 2, 1) := by decide +kernel
theorem dX9_of_13 : decode cX9_of 13 = .ok (.iadd, 1) := by decide +kernel
theorem dX9_of_14 : decode cX9_of 14 = .ok (.iaload, 1) := by decide +kernel
theorem dX9_of_15 : decode cX9_of 15 = .ok (.ireturn, 1) := by decide +kernel
theorem dX9_feed_0 : decode cX9_feed 0 = .ok (.iload_n 1, 1) := by decide +kernel
theorem dX9_feed_1 : decode cX9_feed 1 = .ok (.iconst 1, 1) := by decide +kernel
theorem dX9_feed_2 : decode cX9_feed 2 = .ok (.if_icmp .ge 10, 3) := by decide +kernel
theorem dX9_feed_5 : decode cX9_feed 5 = .ok (.aload_n 0, 1) := by decide +kernel
theorem dX9_feed_6 : decode cX9_feed 6 = .ok (.bipush (-4), 2) := by decide +kernel
theorem dX9_feed_8 : decode cX9_feed 8 = .ok (.invokevirtual 54, 3) := by decide +kernel
theorem dX9_feed_11 : decode cX9_feed 11 = .ok (.ireturn, 1) := by decide +kernel
theorem dX9_feed_12 : decode cX9_feed 12 = .ok (.iload_n 1, 1) := by decide +kernel
theorem dX9_feed_13 : decode cX9_feed 13 = .ok (.bipush 8, 2) := by decide +kernel
theorem dX9_feed_15 : decode cX9_feed 15 = .ok (.if_icmp .gt 14, 3) := by decide +kernel
theorem dX9_feed_18 : decode cX9_feed 18 = .ok (.aload_n 0, 1) := by decide +kernel
theorem dX9_feed_19 : decode cX9_feed 19 = .ok (.getfield 58, 3) := by decide +kernel
theorem dX9_feed_22 : decode cX9_feed 22 = .ok (.iload_n 1, 1) := by decide +kernel
theorem dX9_feed_23 : decode cX9_feed 23 = .ok (.iadd, 1) := by decide +kernel
theorem dX9_feed_24 : decode cX9_feed 24 = .ok (.bipush 64, 2) := by decide +kernel
theorem dX9_feed_26 : decode cX9_feed 26 = .ok (.if_icmp .le 10, 3) := by decide +kernel
theorem dX9_feed_29 : decode cX9_feed 29 = .ok (.aload_n 0, 1) := by decide +kernel
theorem dX9_feed_30 : decode cX9_feed 30 = .ok (.bipush (-6), 2) := by decide +kernel
theorem dX9_feed_32 : decode cX9_feed 32 = .ok (.invokevirtual 54, 3) := by decide +kernel
theorem dX9_feed_35 : decode cX9_feed 35 = .ok (.ireturn, 1) := by decide +kernel
theorem dX9_feed_36 : decode cX9_feed 36 = .ok (.iconst 0, 1) := by decide +kernel
theorem dX9_feed_37 : decode cX9_feed 37 = .ok (.istore 4, 2) := by decide +kernel
theorem dX9_feed_39 : decode cX9_feed 39 = .ok (.iload 4, 2) := by decide +kernel
theorem dX9_feed_41 : decode cX9_feed 41 = .ok (.iload_n 1, 1) := by decide +kernel
theorem dX9_feed_42 : decode cX9_feed 42 = .ok (.if_icmp .ge 40, 3) := by decide +kernel
theorem dX9_feed_45 : decode cX9_feed 45 = .ok (.aload_n 0, 1) := by decide +kernel
theorem dX9_feed_46 : decode cX9_feed 46 = .ok (.getfield 25, 3) := by decide +kernel
theorem dX9_feed_49 : decode cX9_feed 49 = .ok (.aload_n 0, 1) := by decide +kernel
theorem dX9_feed_50 : decode cX9_feed 50 = .ok (.getfield 58, 3) := by decide +kernel
theorem dX9_feed_53 : decode cX9_feed 53 = .ok (.lload_n 2, 1) := by decide +kernel
theorem dX9_feed_54 : decode cX9_feed 54 = .ok (.bipush 8, 2) := by decide +kernel
theorem dX9_feed_56 : decode cX9_feed 56 = .ok (.iload 4, 2) := by decide +kernel
theorem dX9_feed_58 : decode cX9_feed 58 = .ok (.imul, 1) := by decide +kernel
theorem dX9_feed_59 : decode cX9_feed 59 = .ok (.lshr, 1) := by decide +kernel
theorem dX9_feed_60 : decode cX9_feed 60 = .ok (.ldc2_w 61, 3) := by decide +kernel
theorem dX9_feed_63 : decode cX9_feed 63 = .ok (.land, 1) := by decide +kernel
theorem dX9_feed_64 : decode cX9_feed 64 = .ok (.l2i, 1) := by decide +kernel
theorem dX9_feed_65 : decode cX9_feed 65 = .ok (.iastore, 1) := by decide +kernel
theorem dX9_feed_66 : decode cX9_feed 66 = .ok (.aload_n 0, 1) := by decide +kernel
theorem dX9_feed_67 : decode cX9_feed 67 = .ok (.dup, 1) := by decide +kernel
theorem dX9_feed_68 : decode cX9_feed 68 = .ok (.getfield 58, 3) := by decide +kernel
theorem dX9_feed_71 : decode cX9_feed 71 = .ok (.iconst 1, 1) := by decide +kernel
theorem dX9_feed_72 : decode cX9_feed 72 = .ok (.iadd, 1) := by decide +kernel
theorem dX9_feed_73 : decode cX9_feed 73 = .ok (.putfield 58, 3) := by decide +kernel
theorem dX9_feed_76 : decode cX9_feed 76 = .ok (.iinc 4 1, 3) := by decide +kernel
theorem dX9_feed_79 : decode cX9_feed 79 = .ok (.goto (-40), 3) := by decide +kernel
theorem dX9_feed_82 : decode cX9_feed 82 = .ok (.aload_n 0, 1) := by decide +kernel
theorem dX9_feed_83 : decode cX9_feed 83 = .ok (.getfield 58, 3) := by decide +kernel
theorem dX9_feed_86 : decode cX9_feed 86 = .ok (.ireturn, 1) := by decide +kernel
theorem dX9_sign_0 : decode cX9_sign 0 = .ok (.aload_n 0, 1) := by decide +kernel
theorem dX9_sign_1 : decode cX9_sign 1 = .ok (.getfield 63, 3) := by decide +kernel
theorem dX9_sign_4 : decode cX9_sign 4 = .ok (.aload_n 0, 1) := by decide +kernel
theorem dX9_sign_5 : decode cX9_sign 5 = .ok (.getfield 58, 3) := by decide +kernel
theorem dX9_sign_8 : decode cX9_sign 8 = .ok (.if_icmp .lt 7, 3) := by decide +kernel
theorem dX9_sign_11 : decode cX9_sign 11 = .ok (.iconst (-1), 1) := by decide +kernel
theorem dX9_sign_12 : decode cX9_sign 12 = .ok (.goto 12, 3) := by decide +kernel
theorem dX9_sign_15 : decode cX9_sign 15 = .ok (.aload_n 0, 1) := by decide +kernel
theorem dX9_sign_16 : decode cX9_sign 16 = .ok (.getfield 25, 3) := by decide +kernel
theorem dX9_sign_19 : decode cX9_sign 19 = .ok (.aload_n 0, 1) := by decide +kernel
theorem dX9_sign_20 : decode cX9_sign 20 = .ok (.getfield 63, 3) := by decide +kernel
theorem dX9_sign_23 : decode cX9_sign 23 = .ok (.iaload, 1) := by decide +kernel
theorem dX9_sign_24 : decode cX9_sign 24 = .ok (.ireturn, 1) := by decide +kernel
theorem dX9_takes_0 : decode cX9_takes 0 = .ok (.aload_n 0, 1) := by decide +kernel
theorem dX9_takes_1 : decode cX9_takes 1 = .ok (.invokevirtual 66, 3) := by decide +kernel
theorem dX9_takes_4 : decode cX9_takes 4 = .ok (.iload_n 1, 1) := by decide +kernel
theorem dX9_takes_5 : decode cX9_takes 5 = .ok (.if_icmp .eq 5, 3) := by decide +kernel
theorem dX9_takes_8 : decode cX9_takes 8 = .ok (.iconst 0, 1) := by decide +kernel
theorem dX9_takes_9 : decode cX9_takes 9 = .ok (.ireturn, 1) := by decide +kernel
theorem dX9_takes_10 : decode cX9_takes 10 = .ok (.aload_n 0, 1) := by decide +kernel
theorem dX9_takes_11 : decode cX9_takes 11 = .ok (.dup, 1) := by decide +kernel
theorem dX9_takes_12 : decode cX9_takes 12 = .ok (.getfield 63, 3) := by decide +kernel
theorem dX9_takes_15 : decode cX9_takes 15 = .ok (.iconst 1, 1) := by decide +kernel
theorem dX9_takes_16 : decode cX9_takes 16 = .ok (.iadd, 1) := by decide +kernel
theorem dX9_takes_17 : decode cX9_takes 17 = .ok (.putfield 63, 3) := by decide +kernel
theorem dX9_takes_20 : decode cX9_takes 20 = .ok (.iconst 1, 1) := by decide +kernel
theorem dX9_takes_21 : decode cX9_takes 21 = .ok (.ireturn, 1) := by decide +kernel
theorem dX9_readsNumber_0 : decode cX9_readsNumber 0 = .ok (.aload_n 0, 1) := by decide +kernel
theorem dX9_readsNumber_1 : decode cX9_readsNumber 1 = .ok (.getfield 28, 3) := by decide +kernel
theorem dX9_readsNumber_4 : decode cX9_readsNumber 4 = .ok (.iload_n 1, 1) := by decide +kernel
theorem dX9_readsNumber_5 : decode cX9_readsNumber 5 = .ok (.iconst 0, 1) := by decide +kernel
theorem dX9_readsNumber_6 : decode cX9_readsNumber 6 = .ok (.iastore, 1) := by decide +kernel
theorem dX9_readsNumber_7 : decode cX9_readsNumber 7 = .ok (.iconst 0, 1) := by decide +kernel
theorem dX9_readsNumber_8 : decode cX9_readsNumber 8 = .ok (.istore_n 3, 1) := by decide +kernel
theorem dX9_readsNumber_9 : decode cX9_readsNumber 9 = .ok (.iload_n 3, 1) := by decide +kernel
theorem dX9_readsNumber_10 : decode cX9_readsNumber 10 = .ok (.iload_n 2, 1) := by decide +kernel
theorem dX9_readsNumber_11 : decode cX9_readsNumber 11 = .ok (.if_icmp .ge 60, 3) := by decide +kernel
theorem dX9_readsNumber_14 : decode cX9_readsNumber 14 = .ok (.aload_n 0, 1) := by decide +kernel
theorem dX9_readsNumber_15 : decode cX9_readsNumber 15 = .ok (.invokevirtual 66, 3) := by decide +kernel
theorem dX9_readsNumber_18 : decode cX9_readsNumber 18 = .ok (.bipush 48, 2) := by decide +kernel
theorem dX9_readsNumber_20 : decode cX9_readsNumber 20 = .ok (.if_icmp .lt 51, 3) := by decide +kernel
theorem dX9_readsNumber_23 : decode cX9_readsNumber 23 = .ok (.aload_n 0, 1) := by decide +kernel
theorem dX9_readsNumber_24 : decode cX9_readsNumber 24 = .ok (.invokevirtual 66, 3) := by decide +kernel
theorem dX9_readsNumber_27 : decode cX9_readsNumber 27 = .ok (.bipush 57, 2) := by decide +kernel
theorem dX9_readsNumber_29 : decode cX9_readsNumber 29 = .ok (.if_icmp .gt 42, 3) := by decide +kernel
theorem dX9_readsNumber_32 : decode cX9_readsNumber 32 = .ok (.aload_n 0, 1) := by decide +kernel
theorem dX9_readsNumber_33 : decode cX9_readsNumber 33 = .ok (.getfield 28, 3) := by decide +kernel
theorem dX9_readsNumber_36 : decode cX9_readsNumber 36 = .ok (.iload_n 1, 1) := by decide +kernel
theorem dX9_readsNumber_37 : decode cX9_readsNumber 37 = .ok (.bipush 10, 2) := by decide +kernel
theorem dX9_readsNumber_39 : decode cX9_readsNumber 39 = .ok (.aload_n 0, 1) := by decide +kernel
theorem dX9_readsNumber_40 : decode cX9_readsNumber 40 = .ok (.getfield 28, 3) := by decide +kernel
theorem dX9_readsNumber_43 : decode cX9_readsNumber 43 = .ok (.iload_n 1, 1) := by decide +kernel
theorem dX9_readsNumber_44 : decode cX9_readsNumber 44 = .ok (.iaload, 1) := by decide +kernel
theorem dX9_readsNumber_45 : decode cX9_readsNumber 45 = .ok (.imul, 1) := by decide +kernel
theorem dX9_readsNumber_46 : decode cX9_readsNumber 46 = .ok (.aload_n 0, 1) := by decide +kernel
theorem dX9_readsNumber_47 : decode cX9_readsNumber 47 = .ok (.invokevirtual 66, 3) := by decide +kernel
theorem dX9_readsNumber_50 : decode cX9_readsNumber 50 = .ok (.iadd, 1) := by decide +kernel
theorem dX9_readsNumber_51 : decode cX9_readsNumber 51 = .ok (.bipush 48, 2) := by decide +kernel
theorem dX9_readsNumber_53 : decode cX9_readsNumber 53 = .ok (.isub, 1) := by decide +kernel
theorem dX9_readsNumber_54 : decode cX9_readsNumber 54 = .ok (.iastore, 1) := by decide +kernel
theorem dX9_readsNumber_55 : decode cX9_readsNumber 55 = .ok (.aload_n 0, 1) := by decide +kernel
theorem dX9_readsNumber_56 : decode cX9_readsNumber 56 = .ok (.dup, 1) := by decide +kernel
theorem dX9_readsNumber_57 : decode cX9_readsNumber 57 = .ok (.getfield 63, 3) := by decide +kernel
theorem dX9_readsNumber_60 : decode cX9_readsNumber 60 = .ok (.iconst 1, 1) := by decide +kernel
theorem dX9_readsNumber_61 : decode cX9_readsNumber 61 = .ok (.iadd, 1) := by decide +kernel
theorem dX9_readsNumber_62 : decode cX9_readsNumber 62 = .ok (.putfield 63, 3) := by decide +kernel
theorem dX9_readsNumber_65 : decode cX9_readsNumber 65 = .ok (.iinc 3 1, 3) := by decide +kernel
theorem dX9_readsNumber_68 : decode cX9_readsNumber 68 = .ok (.goto (-59), 3) := by decide +kernel
theorem dX9_readsNumber_71 : decode cX9_readsNumber 71 = .ok (.iload_n 3, 1) := by decide +kernel
theorem dX9_readsNumber_72 : decode cX9_readsNumber 72 = .ok (.ifCond .le 7, 3) := by decide +kernel
theorem dX9_readsNumber_75 : decode cX9_readsNumber 75 = .ok (.iconst 1, 1) := by decide +kernel
theorem dX9_readsNumber_76 : decode cX9_readsNumber 76 = .ok (.goto 4, 3) := by decide +kernel
theorem dX9_readsNumber_79 : decode cX9_readsNumber 79 = .ok (.iconst 0, 1) := by decide +kernel
theorem dX9_readsNumber_80 : decode cX9_readsNumber 80 = .ok (.ireturn, 1) := by decide +kernel
theorem dX9_kindOf_0 : decode cX9_kindOf 0 = .ok (.iload_n 0, 1) := by decide +kernel
theorem dX9_kindOf_1 : decode cX9_kindOf 1 = .ok (.tableswitch 94 106 121 #[85, 87, 94, 94, 89, 79, 94, 94, 94, 83, 91, 94, 94, 94, 94, 81], 79) := by decide +kernel
theorem dX9_kindOf_80 : decode cX9_kindOf 80 = .ok (.iconst 0, 1) := by decide +kernel
theorem dX9_kindOf_81 : decode cX9_kindOf 81 = .ok (.ireturn, 1) := by decide +kernel
theorem dX9_kindOf_82 : decode cX9_kindOf 82 = .ok (.iconst 1, 1) := by decide +kernel
theorem dX9_kindOf_83 : decode cX9_kindOf 83 = .ok (.ireturn, 1) := by decide +kernel
theorem dX9_kindOf_84 : decode cX9_kindOf 84 = .ok (.iconst 2, 1) := by decide +kernel
theorem dX9_kindOf_85 : decode cX9_kindOf 85 = .ok (.ireturn, 1) := by decide +kernel
theorem dX9_kindOf_86 : decode cX9_kindOf 86 = .ok (.iconst 3, 1) := by decide +kernel
theorem dX9_kindOf_87 : decode cX9_kindOf 87 = .ok (.ireturn, 1) := by decide +kernel
theorem dX9_kindOf_88 : decode cX9_kindOf 88 = .ok (.iconst 4, 1) := by decide +kernel
theorem dX9_kindOf_89 : decode cX9_kindOf 89 = .ok (.ireturn, 1) := by decide +kernel
theorem dX9_kindOf_90 : decode cX9_kindOf 90 = .ok (.iconst 5, 1) := by decide +kernel
theorem dX9_kindOf_91 : decode cX9_kindOf 91 = .ok (.ireturn, 1) := by decide +kernel
theorem dX9_kindOf_92 : decode cX9_kindOf 92 = .ok (.bipush 6, 2) := by decide +kernel
theorem dX9_kindOf_94 : decode cX9_kindOf 94 = .ok (.ireturn, 1) := by decide +kernel
theorem dX9_kindOf_95 : decode cX9_kindOf 95 = .ok (.bipush (-9), 2) := by decide +kernel
theorem dX9_kindOf_97 : decode cX9_kindOf 97 = .ok (.ireturn, 1) := by decide +kernel
theorem dX9_readsStatement_0 : decode cX9_readsStatement 0 = .ok (.aload_n 0, 1) := by decide +kernel
theorem dX9_readsStatement_1 : decode cX9_readsStatement 1 = .ok (.invokevirtual 66, 3) := by decide +kernel
theorem dX9_readsStatement_4 : decode cX9_readsStatement 4 = .ok (.istore_n 1, 1) := by decide +kernel
theorem dX9_readsStatement_5 : decode cX9_readsStatement 5 = .ok (.iload_n 1, 1) := by decide +kernel
theorem dX9_readsStatement_6 : decode cX9_readsStatement 6 = .ok (.bipush 112, 2) := by decide +kernel
theorem dX9_readsStatement_8 : decode cX9_readsStatement 8 = .ok (.if_icmp .eq 17, 3) := by decide +kernel
theorem dX9_readsStatement_11 : decode cX9_readsStatement 11 = .ok (.iload_n 1, 1) := by decide +kernel
theorem dX9_readsStatement_12 : decode cX9_readsStatement 12 = .ok (.bipush 104, 2) := by decide +kernel
theorem dX9_readsStatement_14 : decode cX9_readsStatement 14 = .ok (.if_icmp .eq 11, 3) := by decide +kernel
theorem dX9_readsStatement_17 : decode cX9_readsStatement 17 = .ok (.iload_n 1, 1) := by decide +kernel
theorem dX9_readsStatement_18 : decode cX9_readsStatement 18 = .ok (.bipush 119, 2) := by decide +kernel
theorem dX9_readsStatement_20 : decode cX9_readsStatement 20 = .ok (.if_icmp .eq 5, 3) := by decide +kernel
theorem dX9_readsStatement_23 : decode cX9_readsStatement 23 = .ok (.iconst 0, 1) := by decide +kernel
theorem dX9_readsStatement_24 : decode cX9_readsStatement 24 = .ok (.ireturn, 1) := by decide +kernel
theorem dX9_readsStatement_25 : decode cX9_readsStatement 25 = .ok (.aload_n 0, 1) := by decide +kernel
theorem dX9_readsStatement_26 : decode cX9_readsStatement 26 = .ok (.dup, 1) := by decide +kernel
theorem dX9_readsStatement_27 : decode cX9_readsStatement 27 = .ok (.getfield 63, 3) := by decide +kernel
theorem dX9_readsStatement_30 : decode cX9_readsStatement 30 = .ok (.iconst 1, 1) := by decide +kernel
theorem dX9_readsStatement_31 : decode cX9_readsStatement 31 = .ok (.iadd, 1) := by decide +kernel
theorem dX9_readsStatement_32 : decode cX9_readsStatement 32 = .ok (.putfield 63, 3) := by decide +kernel
theorem dX9_readsStatement_35 : decode cX9_readsStatement 35 = .ok (.iload_n 1, 1) := by decide +kernel
theorem dX9_readsStatement_36 : decode cX9_readsStatement 36 = .ok (.bipush 112, 2) := by decide +kernel
theorem dX9_readsStatement_38 : decode cX9_readsStatement 38 = .ok (.if_icmp .ne 70, 3) := by decide +kernel
theorem dX9_readsStatement_41 : decode cX9_readsStatement 41 = .ok (.aload_n 0, 1) := by decide +kernel
theorem dX9_readsStatement_42 : decode cX9_readsStatement 42 = .ok (.getfield 28, 3) := by decide +kernel
theorem dX9_readsStatement_45 : decode cX9_readsStatement 45 = .ok (.iconst 0, 1) := by decide +kernel
theorem dX9_readsStatement_46 : decode cX9_readsStatement 46 = .ok (.aload_n 0, 1) := by decide +kernel
theorem dX9_readsStatement_47 : decode cX9_readsStatement 47 = .ok (.invokevirtual 66, 3) := by decide +kernel
theorem dX9_readsStatement_50 : decode cX9_readsStatement 50 = .ok (.invokestatic 70, 3) := by decide +kernel
theorem dX9_readsStatement_53 : decode cX9_readsStatement 53 = .ok (.iastore, 1) := by decide +kernel
theorem dX9_readsStatement_54 : decode cX9_readsStatement 54 = .ok (.aload_n 0, 1) := by decide +kernel
theorem dX9_readsStatement_55 : decode cX9_readsStatement 55 = .ok (.getfield 28, 3) := by decide +kernel
theorem dX9_readsStatement_58 : decode cX9_readsStatement 58 = .ok (.iconst 0, 1) := by decide +kernel
theorem dX9_readsStatement_59 : decode cX9_readsStatement 59 = .ok (.iaload, 1) := by decide +kernel
theorem dX9_readsStatement_60 : decode cX9_readsStatement 60 = .ok (.ifCond .ge 5, 3) := by decide +kernel
theorem dX9_readsStatement_63 : decode cX9_readsStatement 63 = .ok (.iconst 0, 1) := by decide +kernel
theorem dX9_readsStatement_64 : decode cX9_readsStatement 64 = .ok (.ireturn, 1) := by decide +kernel
theorem dX9_readsStatement_65 : decode cX9_readsStatement 65 = .ok (.aload_n 0, 1) := by decide +kernel
theorem dX9_readsStatement_66 : decode cX9_readsStatement 66 = .ok (.dup, 1) := by decide +kernel
theorem dX9_readsStatement_67 : decode cX9_readsStatement 67 = .ok (.getfield 63, 3) := by decide +kernel
theorem dX9_readsStatement_70 : decode cX9_readsStatement 70 = .ok (.iconst 1, 1) := by decide +kernel
theorem dX9_readsStatement_71 : decode cX9_readsStatement 71 = .ok (.iadd, 1) := by decide +kernel
theorem dX9_readsStatement_72 : decode cX9_readsStatement 72 = .ok (.putfield 63, 3) := by decide +kernel
theorem dX9_readsStatement_75 : decode cX9_readsStatement 75 = .ok (.aload_n 0, 1) := by decide +kernel
theorem dX9_readsStatement_76 : decode cX9_readsStatement 76 = .ok (.iconst 1, 1) := by decide +kernel
theorem dX9_readsStatement_77 : decode cX9_readsStatement 77 = .ok (.iconst 1, 1) := by decide +kernel
theorem dX9_readsStatement_78 : decode cX9_readsStatement 78 = .ok (.invokevirtual 73, 3) := by decide +kernel
theorem dX9_readsStatement_81 : decode cX9_readsStatement 81 = .ok (.ifCond .eq 25, 3) := by decide +kernel
theorem dX9_readsStatement_84 : decode cX9_readsStatement 84 = .ok (.aload_n 0, 1) := by decide +kernel
theorem dX9_readsStatement_85 : decode cX9_readsStatement 85 = .ok (.iconst 2, 1) := by decide +kernel
theorem dX9_readsStatement_86 : decode cX9_readsStatement 86 = .ok (.iconst 1, 1) := by decide +kernel
theorem dX9_readsStatement_87 : decode cX9_readsStatement 87 = .ok (.invokevirtual 73, 3) := by decide +kernel
theorem dX9_readsStatement_90 : decode cX9_readsStatement 90 = .ok (.ifCond .eq 16, 3) := by decide +kernel
theorem dX9_readsStatement_93 : decode cX9_readsStatement 93 = .ok (.aload_n 0, 1) := by decide +kernel
theorem dX9_readsStatement_94 : decode cX9_readsStatement 94 = .ok (.bipush 59, 2) := by decide +kernel
theorem dX9_readsStatement_96 : decode cX9_readsStatement 96 = .ok (.invokevirtual 76, 3) := by decide +kernel
theorem dX9_readsStatement_99 : decode cX9_readsStatement 99 = .ok (.ifCond .eq 7, 3) := by decide +kernel
theorem dX9_readsStatement_102 : decode cX9_readsStatement 102 = .ok (.iconst 1, 1) := by decide +kernel
theorem dX9_readsStatement_103 : decode cX9_readsStatement 103 = .ok (.goto 4, 3) := by decide +kernel
theorem dX9_readsStatement_106 : decode cX9_readsStatement 106 = .ok (.iconst 0, 1) := by decide +kernel
theorem dX9_readsStatement_107 : decode cX9_readsStatement 107 = .ok (.ireturn, 1) := by decide +kernel
theorem dX9_readsStatement_108 : decode cX9_readsStatement 108 = .ok (.aload_n 0, 1) := by decide +kernel
theorem dX9_readsStatement_109 : decode cX9_readsStatement 109 = .ok (.iconst 0, 1) := by decide +kernel
theorem dX9_readsStatement_110 : decode cX9_readsStatement 110 = .ok (.iconst 1, 1) := by decide +kernel
theorem dX9_readsStatement_111 : decode cX9_readsStatement 111 = .ok (.invokevirtual 73, 3) := by decide +kernel
theorem dX9_readsStatement_114 : decode cX9_readsStatement 114 = .ok (.ifCond .ne 5, 3) := by decide +kernel
theorem dX9_readsStatement_117 : decode cX9_readsStatement 117 = .ok (.iconst 0, 1) := by decide +kernel
theorem dX9_readsStatement_118 : decode cX9_readsStatement 118 = .ok (.ireturn, 1) := by decide +kernel
theorem dX9_readsStatement_119 : decode cX9_readsStatement 119 = .ok (.iload_n 1, 1) := by decide +kernel
theorem dX9_readsStatement_120 : decode cX9_readsStatement 120 = .ok (.bipush 104, 2) := by decide +kernel
theorem dX9_readsStatement_122 : decode cX9_readsStatement 122 = .ok (.if_icmp .ne 45, 3) := by decide +kernel
theorem dX9_readsStatement_125 : decode cX9_readsStatement 125 = .ok (.aload_n 0, 1) := by decide +kernel
theorem dX9_readsStatement_126 : decode cX9_readsStatement 126 = .ok (.iconst 1, 1) := by decide +kernel
theorem dX9_readsStatement_127 : decode cX9_readsStatement 127 = .ok (.iconst 2, 1) := by decide +kernel
theorem dX9_readsStatement_128 : decode cX9_readsStatement 128 = .ok (.invokevirtual 73, 3) := by decide +kernel
theorem dX9_readsStatement_131 : decode cX9_readsStatement 131 = .ok (.ifCond .eq 34, 3) := by decide +kernel
theorem dX9_readsStatement_134 : decode cX9_readsStatement 134 = .ok (.aload_n 0, 1) := by decide +kernel
theorem dX9_readsStatement_135 : decode cX9_readsStatement 135 = .ok (.bipush 45, 2) := by decide +kernel
theorem dX9_readsStatement_137 : decode cX9_readsStatement 137 = .ok (.invokevirtual 76, 3) := by decide +kernel
theorem dX9_readsStatement_140 : decode cX9_readsStatement 140 = .ok (.ifCond .eq 25, 3) := by decide +kernel
theorem dX9_readsStatement_143 : decode cX9_readsStatement 143 = .ok (.aload_n 0, 1) := by decide +kernel
theorem dX9_readsStatement_144 : decode cX9_readsStatement 144 = .ok (.iconst 2, 1) := by decide +kernel
theorem dX9_readsStatement_145 : decode cX9_readsStatement 145 = .ok (.iconst 2, 1) := by decide +kernel
theorem dX9_readsStatement_146 : decode cX9_readsStatement 146 = .ok (.invokevirtual 73, 3) := by decide +kernel
theorem dX9_readsStatement_149 : decode cX9_readsStatement 149 = .ok (.ifCond .eq 16, 3) := by decide +kernel
theorem dX9_readsStatement_152 : decode cX9_readsStatement 152 = .ok (.aload_n 0, 1) := by decide +kernel
theorem dX9_readsStatement_153 : decode cX9_readsStatement 153 = .ok (.bipush 59, 2) := by decide +kernel
theorem dX9_readsStatement_155 : decode cX9_readsStatement 155 = .ok (.invokevirtual 76, 3) := by decide +kernel
theorem dX9_readsStatement_158 : decode cX9_readsStatement 158 = .ok (.ifCond .eq 7, 3) := by decide +kernel
theorem dX9_readsStatement_161 : decode cX9_readsStatement 161 = .ok (.iconst 1, 1) := by decide +kernel
theorem dX9_readsStatement_162 : decode cX9_readsStatement 162 = .ok (.goto 4, 3) := by decide +kernel
theorem dX9_readsStatement_165 : decode cX9_readsStatement 165 = .ok (.iconst 0, 1) := by decide +kernel
theorem dX9_readsStatement_166 : decode cX9_readsStatement 166 = .ok (.ireturn, 1) := by decide +kernel
theorem dX9_readsStatement_167 : decode cX9_readsStatement 167 = .ok (.aload_n 0, 1) := by decide +kernel
theorem dX9_readsStatement_168 : decode cX9_readsStatement 168 = .ok (.invokevirtual 66, 3) := by decide +kernel
theorem dX9_readsStatement_171 : decode cX9_readsStatement 171 = .ok (.bipush 114, 2) := by decide +kernel
theorem dX9_readsStatement_173 : decode cX9_readsStatement 173 = .ok (.if_icmp .eq 14, 3) := by decide +kernel
theorem dX9_readsStatement_176 : decode cX9_readsStatement 176 = .ok (.aload_n 0, 1) := by decide +kernel
theorem dX9_readsStatement_177 : decode cX9_readsStatement 177 = .ok (.invokevirtual 66, 3) := by decide +kernel
theorem dX9_readsStatement_180 : decode cX9_readsStatement 180 = .ok (.bipush 115, 2) := by decide +kernel
theorem dX9_readsStatement_182 : decode cX9_readsStatement 182 = .ok (.if_icmp .eq 5, 3) := by decide +kernel
theorem dX9_readsStatement_185 : decode cX9_readsStatement 185 = .ok (.iconst 0, 1) := by decide +kernel
theorem dX9_readsStatement_186 : decode cX9_readsStatement 186 = .ok (.ireturn, 1) := by decide +kernel
theorem dX9_readsStatement_187 : decode cX9_readsStatement 187 = .ok (.aload_n 0, 1) := by decide +kernel
theorem dX9_readsStatement_188 : decode cX9_readsStatement 188 = .ok (.getfield 28, 3) := by decide +kernel
theorem dX9_readsStatement_191 : decode cX9_readsStatement 191 = .ok (.iconst 1, 1) := by decide +kernel
theorem dX9_readsStatement_192 : decode cX9_readsStatement 192 = .ok (.aload_n 0, 1) := by decide +kernel
theorem dX9_readsStatement_193 : decode cX9_readsStatement 193 = .ok (.invokevirtual 66, 3) := by decide +kernel
theorem dX9_readsStatement_196 : decode cX9_readsStatement 196 = .ok (.bipush 115, 2) := by decide +kernel
theorem dX9_readsStatement_198 : decode cX9_readsStatement 198 = .ok (.if_icmp .ne 7, 3) := by decide +kernel
theorem dX9_readsStatement_201 : decode cX9_readsStatement 201 = .ok (.iconst 1, 1) := by decide +kernel
theorem dX9_readsStatement_202 : decode cX9_readsStatement 202 = .ok (.goto 4, 3) := by decide +kernel
theorem dX9_readsStatement_205 : decode cX9_readsStatement 205 = .ok (.iconst 0, 1) := by decide +kernel
theorem dX9_readsStatement_206 : decode cX9_readsStatement 206 = .ok (.iastore, 1) := by decide +kernel
theorem dX9_readsStatement_207 : decode cX9_readsStatement 207 = .ok (.aload_n 0, 1) := by decide +kernel
theorem dX9_readsStatement_208 : decode cX9_readsStatement 208 = .ok (.dup, 1) := by decide +kernel
theorem dX9_readsStatement_209 : decode cX9_readsStatement 209 = .ok (.getfield 63, 3) := by decide +kernel
theorem dX9_readsStatement_212 : decode cX9_readsStatement 212 = .ok (.iconst 1, 1) := by decide +kernel
theorem dX9_readsStatement_213 : decode cX9_readsStatement 213 = .ok (.iadd, 1) := by decide +kernel
theorem dX9_readsStatement_214 : decode cX9_readsStatement 214 = .ok (.putfield 63, 3) := by decide +kernel
theorem dX9_readsStatement_217 : decode cX9_readsStatement 217 = .ok (.aload_n 0, 1) := by decide +kernel
theorem dX9_readsStatement_218 : decode cX9_readsStatement 218 = .ok (.iconst 2, 1) := by decide +kernel
theorem dX9_readsStatement_219 : decode cX9_readsStatement 219 = .ok (.iconst 1, 1) := by decide +kernel
theorem dX9_readsStatement_220 : decode cX9_readsStatement 220 = .ok (.invokevirtual 73, 3) := by decide +kernel
theorem dX9_readsStatement_223 : decode cX9_readsStatement 223 = .ok (.ifCond .eq 70, 3) := by decide +kernel
theorem dX9_readsStatement_226 : decode cX9_readsStatement 226 = .ok (.aload_n 0, 1) := by decide +kernel
theorem dX9_readsStatement_227 : decode cX9_readsStatement 227 = .ok (.bipush 44, 2) := by decide +kernel
theorem dX9_readsStatement_229 : decode cX9_readsStatement 229 = .ok (.invokevirtual 76, 3) := by decide +kernel
theorem dX9_readsStatement_232 : decode cX9_readsStatement 232 = .ok (.ifCond .eq 61, 3) := by decide +kernel
theorem dX9_readsStatement_235 : decode cX9_readsStatement 235 = .ok (.aload_n 0, 1) := by decide +kernel
theorem dX9_readsStatement_236 : decode cX9_readsStatement 236 = .ok (.iconst 3, 1) := by decide +kernel
theorem dX9_readsStatement_237 : decode cX9_readsStatement 237 = .ok (.iconst 2, 1) := by decide +kernel
theorem dX9_readsStatement_238 : decode cX9_readsStatement 238 = .ok (.invokevirtual 73, 3) := by decide +kernel
theorem dX9_readsStatement_241 : decode cX9_readsStatement 241 = .ok (.ifCond .eq 52, 3) := by decide +kernel
theorem dX9_readsStatement_244 : decode cX9_readsStatement 244 = .ok (.aload_n 0, 1) := by decide +kernel
theorem dX9_readsStatement_245 : decode cX9_readsStatement 245 = .ok (.bipush 44, 2) := by decide +kernel
theorem dX9_readsStatement_247 : decode cX9_readsStatement 247 = .ok (.invokevirtual 76, 3) := by decide +kernel
theorem dX9_readsStatement_250 : decode cX9_readsStatement 250 = .ok (.ifCond .eq 43, 3) := by decide +kernel
theorem dX9_readsStatement_253 : decode cX9_readsStatement 253 = .ok (.aload_n 0, 1) := by decide +kernel
theorem dX9_readsStatement_254 : decode cX9_readsStatement 254 = .ok (.iconst 4, 1) := by decide +kernel
theorem dX9_readsStatement_255 : decode cX9_readsStatement 255 = .ok (.iconst 2, 1) := by decide +kernel
theorem dX9_readsStatement_256 : decode cX9_readsStatement 256 = .ok (.invokevirtual 73, 3) := by decide +kernel
theorem dX9_readsStatement_259 : decode cX9_readsStatement 259 = .ok (.ifCond .eq 34, 3) := by decide +kernel
theorem dX9_readsStatement_262 : decode cX9_readsStatement 262 = .ok (.aload_n 0, 1) := by decide +kernel
theorem dX9_readsStatement_263 : decode cX9_readsStatement 263 = .ok (.bipush 44, 2) := by decide +kernel
theorem dX9_readsStatement_265 : decode cX9_readsStatement 265 = .ok (.invokevirtual 76, 3) := by decide +kernel
theorem dX9_readsStatement_268 : decode cX9_readsStatement 268 = .ok (.ifCond .eq 25, 3) := by decide +kernel
theorem dX9_readsStatement_271 : decode cX9_readsStatement 271 = .ok (.aload_n 0, 1) := by decide +kernel
theorem dX9_readsStatement_272 : decode cX9_readsStatement 272 = .ok (.iconst 5, 1) := by decide +kernel
theorem dX9_readsStatement_273 : decode cX9_readsStatement 273 = .ok (.iconst 1, 1) := by decide +kernel
theorem dX9_readsStatement_274 : decode cX9_readsStatement 274 = .ok (.invokevirtual 73, 3) := by decide +kernel
theorem dX9_readsStatement_277 : decode cX9_readsStatement 277 = .ok (.ifCond .eq 16, 3) := by decide +kernel
theorem dX9_readsStatement_280 : decode cX9_readsStatement 280 = .ok (.aload_n 0, 1) := by decide +kernel
theorem dX9_readsStatement_281 : decode cX9_readsStatement 281 = .ok (.bipush 59, 2) := by decide +kernel
theorem dX9_readsStatement_283 : decode cX9_readsStatement 283 = .ok (.invokevirtual 76, 3) := by decide +kernel
theorem dX9_readsStatement_286 : decode cX9_readsStatement 286 = .ok (.ifCond .eq 7, 3) := by decide +kernel
theorem dX9_readsStatement_289 : decode cX9_readsStatement 289 = .ok (.iconst 1, 1) := by decide +kernel
theorem dX9_readsStatement_290 : decode cX9_readsStatement 290 = .ok (.goto 4, 3) := by decide +kernel
theorem dX9_readsStatement_293 : decode cX9_readsStatement 293 = .ok (.iconst 0, 1) := by decide +kernel
theorem dX9_readsStatement_294 : decode cX9_readsStatement 294 = .ok (.ireturn, 1) := by decide +kernel
theorem dX9_hasPart_0 : decode cX9_hasPart 0 = .ok (.bipush 9, 2) := by decide +kernel
theorem dX9_hasPart_2 : decode cX9_hasPart 2 = .ok (.iconst 4, 1) := by decide +kernel
theorem dX9_hasPart_3 : decode cX9_hasPart 3 = .ok (.iload_n 1, 1) := by decide +kernel
theorem dX9_hasPart_4 : decode cX9_hasPart 4 = .ok (.imul, 1) := by decide +kernel
theorem dX9_hasPart_5 : decode cX9_hasPart 5 = .ok (.iadd, 1) := by decide +kernel
theorem dX9_hasPart_6 : decode cX9_hasPart 6 = .ok (.istore_n 3, 1) := by decide +kernel
theorem dX9_hasPart_7 : decode cX9_hasPart 7 = .ok (.iconst 0, 1) := by decide +kernel
theorem dX9_hasPart_8 : decode cX9_hasPart 8 = .ok (.istore 4, 2) := by decide +kernel
theorem dX9_hasPart_10 : decode cX9_hasPart 10 = .ok (.iload 4, 2) := by decide +kernel
theorem dX9_hasPart_12 : decode cX9_hasPart 12 = .ok (.aload_n 0, 1) := by decide +kernel
theorem dX9_hasPart_13 : decode cX9_hasPart 13 = .ok (.iload_n 3, 1) := by decide +kernel
theorem dX9_hasPart_14 : decode cX9_hasPart 14 = .ok (.iaload, 1) := by decide +kernel
theorem dX9_hasPart_15 : decode cX9_hasPart 15 = .ok (.if_icmp .ge 23, 3) := by decide +kernel
theorem dX9_hasPart_18 : decode cX9_hasPart 18 = .ok (.aload_n 0, 1) := by decide +kernel
theorem dX9_hasPart_19 : decode cX9_hasPart 19 = .ok (.iload_n 3, 1) := by decide +kernel
theorem dX9_hasPart_20 : decode cX9_hasPart 20 = .ok (.iconst 1, 1) := by decide +kernel
theorem dX9_hasPart_21 : decode cX9_hasPart 21 = .ok (.iadd, 1) := by decide +kernel
theorem dX9_hasPart_22 : decode cX9_hasPart 22 = .ok (.iload 4, 2) := by decide +kernel
theorem dX9_hasPart_24 : decode cX9_hasPart 24 = .ok (.iadd, 1) := by decide +kernel
theorem dX9_hasPart_25 : decode cX9_hasPart 25 = .ok (.iaload, 1) := by decide +kernel
theorem dX9_hasPart_26 : decode cX9_hasPart 26 = .ok (.iload_n 2, 1) := by decide +kernel
theorem dX9_hasPart_27 : decode cX9_hasPart 27 = .ok (.if_icmp .ne 5, 3) := by decide +kernel
theorem dX9_hasPart_30 : decode cX9_hasPart 30 = .ok (.iconst 1, 1) := by decide +kernel
theorem dX9_hasPart_31 : decode cX9_hasPart 31 = .ok (.ireturn, 1) := by decide +kernel
theorem dX9_hasPart_32 : decode cX9_hasPart 32 = .ok (.iinc 4 1, 3) := by decide +kernel
theorem dX9_hasPart_35 : decode cX9_hasPart 35 = .ok (.goto (-25), 3) := by decide +kernel
theorem dX9_hasPart_38 : decode cX9_hasPart 38 = .ok (.iconst 0, 1) := by decide +kernel
theorem dX9_hasPart_39 : decode cX9_hasPart 39 = .ok (.ireturn, 1) := by decide +kernel
theorem dX9_adds_0 : decode cX9_adds 0 = .ok (.bipush 9, 2) := by decide +kernel
theorem dX9_adds_2 : decode cX9_adds 2 = .ok (.iconst 4, 1) := by decide +kernel
theorem dX9_adds_3 : decode cX9_adds 3 = .ok (.iload_n 1, 1) := by decide +kernel
theorem dX9_adds_4 : decode cX9_adds 4 = .ok (.imul, 1) := by decide +kernel
theorem dX9_adds_5 : decode cX9_adds 5 = .ok (.iadd, 1) := by decide +kernel
theorem dX9_adds_6 : decode cX9_adds 6 = .ok (.istore_n 3, 1) := by decide +kernel
theorem dX9_adds_7 : decode cX9_adds 7 = .ok (.aload_n 0, 1) := by decide +kernel
theorem dX9_adds_8 : decode cX9_adds 8 = .ok (.iload_n 3, 1) := by decide +kernel
theorem dX9_adds_9 : decode cX9_adds 9 = .ok (.iconst 1, 1) := by decide +kernel
theorem dX9_adds_10 : decode cX9_adds 10 = .ok (.iadd, 1) := by decide +kernel
theorem dX9_adds_11 : decode cX9_adds 11 = .ok (.aload_n 0, 1) := by decide +kernel
theorem dX9_adds_12 : decode cX9_adds 12 = .ok (.iload_n 3, 1) := by decide +kernel
theorem dX9_adds_13 : decode cX9_adds 13 = .ok (.iaload, 1) := by decide +kernel
theorem dX9_adds_14 : decode cX9_adds 14 = .ok (.iadd, 1) := by decide +kernel
theorem dX9_adds_15 : decode cX9_adds 15 = .ok (.iload_n 2, 1) := by decide +kernel
theorem dX9_adds_16 : decode cX9_adds 16 = .ok (.iastore, 1) := by decide +kernel
theorem dX9_adds_17 : decode cX9_adds 17 = .ok (.aload_n 0, 1) := by decide +kernel
theorem dX9_adds_18 : decode cX9_adds 18 = .ok (.iload_n 3, 1) := by decide +kernel
theorem dX9_adds_19 : decode cX9_adds 19 = .ok (.dup2, 1) := by decide +kernel
theorem dX9_adds_20 : decode cX9_adds 20 = .ok (.iaload, 1) := by decide +kernel
theorem dX9_adds_21 : decode cX9_adds 21 = .ok (.iconst 1, 1) := by decide +kernel
theorem dX9_adds_22 : decode cX9_adds 22 = .ok (.iadd, 1) := by decide +kernel
theorem dX9_adds_23 : decode cX9_adds 23 = .ok (.iastore, 1) := by decide +kernel
theorem dX9_adds_24 : decode cX9_adds 24 = .ok (.return_, 1) := by decide +kernel
theorem dX9_comesHours_0 : decode cX9_comesHours 0 = .ok (.iload_n 1, 1) := by decide +kernel
theorem dX9_comesHours_1 : decode cX9_comesHours 1 = .ok (.aload_n 0, 1) := by decide +kernel
theorem dX9_comesHours_2 : decode cX9_comesHours 2 = .ok (.getfield 19, 3) := by decide +kernel
theorem dX9_comesHours_5 : decode cX9_comesHours 5 = .ok (.iconst 0, 1) := by decide +kernel
theorem dX9_comesHours_6 : decode cX9_comesHours 6 = .ok (.iaload, 1) := by decide +kernel
theorem dX9_comesHours_7 : decode cX9_comesHours 7 = .ok (.if_icmp .ge 20, 3) := by decide +kernel
theorem dX9_comesHours_10 : decode cX9_comesHours 10 = .ok (.iload_n 2, 1) := by decide +kernel
theorem dX9_comesHours_11 : decode cX9_comesHours 11 = .ok (.bipush 28, 2) := by decide +kernel
theorem dX9_comesHours_13 : decode cX9_comesHours 13 = .ok (.if_icmp .ge 14, 3) := by decide +kernel
theorem dX9_comesHours_16 : decode cX9_comesHours 16 = .ok (.iload_n 3, 1) := by decide +kernel
theorem dX9_comesHours_17 : decode cX9_comesHours 17 = .ok (.bipush 28, 2) := by decide +kernel
theorem dX9_comesHours_19 : decode cX9_comesHours 19 = .ok (.if_icmp .ge 8, 3) := by decide +kernel
theorem dX9_comesHours_22 : decode cX9_comesHours 22 = .ok (.iload_n 2, 1) := by decide +kernel
theorem dX9_comesHours_23 : decode cX9_comesHours 23 = .ok (.iload_n 3, 1) := by decide +kernel
theorem dX9_comesHours_24 : decode cX9_comesHours 24 = .ok (.if_icmp .le 5, 3) := by decide +kernel
theorem dX9_comesHours_27 : decode cX9_comesHours 27 = .ok (.iconst 0, 1) := by decide +kernel
theorem dX9_comesHours_28 : decode cX9_comesHours 28 = .ok (.ireturn, 1) := by decide +kernel
theorem dX9_comesHours_29 : decode cX9_comesHours 29 = .ok (.iload_n 2, 1) := by decide +kernel
theorem dX9_comesHours_30 : decode cX9_comesHours 30 = .ok (.istore 4, 2) := by decide +kernel
theorem dX9_comesHours_32 : decode cX9_comesHours 32 = .ok (.iload 4, 2) := by decide +kernel
theorem dX9_comesHours_34 : decode cX9_comesHours 34 = .ok (.iload_n 3, 1) := by decide +kernel
theorem dX9_comesHours_35 : decode cX9_comesHours 35 = .ok (.if_icmp .gt 40, 3) := by decide +kernel
theorem dX9_comesHours_38 : decode cX9_comesHours 38 = .ok (.aload_n 0, 1) := by decide +kernel
theorem dX9_comesHours_39 : decode cX9_comesHours 39 = .ok (.getfield 19, 3) := by decide +kernel
theorem dX9_comesHours_42 : decode cX9_comesHours 42 = .ok (.iload 4, 2) := by decide +kernel
theorem dX9_comesHours_44 : decode cX9_comesHours 44 = .ok (.iload_n 1, 1) := by decide +kernel
theorem dX9_comesHours_45 : decode cX9_comesHours 45 = .ok (.invokestatic 80, 3) := by decide +kernel
theorem dX9_comesHours_48 : decode cX9_comesHours 48 = .ok (.ifCond .ne 19, 3) := by decide +kernel
theorem dX9_comesHours_51 : decode cX9_comesHours 51 = .ok (.aload_n 0, 1) := by decide +kernel
theorem dX9_comesHours_52 : decode cX9_comesHours 52 = .ok (.getfield 19, 3) := by decide +kernel
theorem dX9_comesHours_55 : decode cX9_comesHours 55 = .ok (.bipush 9, 2) := by decide +kernel
theorem dX9_comesHours_57 : decode cX9_comesHours 57 = .ok (.iconst 4, 1) := by decide +kernel
theorem dX9_comesHours_58 : decode cX9_comesHours 58 = .ok (.iload 4, 2) := by decide +kernel
theorem dX9_comesHours_60 : decode cX9_comesHours 60 = .ok (.imul, 1) := by decide +kernel
theorem dX9_comesHours_61 : decode cX9_comesHours 61 = .ok (.iadd, 1) := by decide +kernel
theorem dX9_comesHours_62 : decode cX9_comesHours 62 = .ok (.iaload, 1) := by decide +kernel
theorem dX9_comesHours_63 : decode cX9_comesHours 63 = .ok (.iconst 3, 1) := by decide +kernel
theorem dX9_comesHours_64 : decode cX9_comesHours 64 = .ok (.if_icmp .ne 5, 3) := by decide +kernel
theorem dX9_comesHours_67 : decode cX9_comesHours 67 = .ok (.iconst 0, 1) := by decide +kernel
theorem dX9_comesHours_68 : decode cX9_comesHours 68 = .ok (.ireturn, 1) := by decide +kernel
theorem dX9_comesHours_69 : decode cX9_comesHours 69 = .ok (.iinc 4 1, 3) := by decide +kernel
theorem dX9_comesHours_72 : decode cX9_comesHours 72 = .ok (.goto (-40), 3) := by decide +kernel
theorem dX9_comesHours_75 : decode cX9_comesHours 75 = .ok (.iload_n 2, 1) := by decide +kernel
theorem dX9_comesHours_76 : decode cX9_comesHours 76 = .ok (.istore 4, 2) := by decide +kernel
theorem dX9_comesHours_78 : decode cX9_comesHours 78 = .ok (.iload 4, 2) := by decide +kernel
theorem dX9_comesHours_80 : decode cX9_comesHours 80 = .ok (.iload_n 3, 1) := by decide +kernel
theorem dX9_comesHours_81 : decode cX9_comesHours 81 = .ok (.if_icmp .gt 19, 3) := by decide +kernel
theorem dX9_comesHours_84 : decode cX9_comesHours 84 = .ok (.aload_n 0, 1) := by decide +kernel
theorem dX9_comesHours_85 : decode cX9_comesHours 85 = .ok (.getfield 19, 3) := by decide +kernel
theorem dX9_comesHours_88 : decode cX9_comesHours 88 = .ok (.iload 4, 2) := by decide +kernel
theorem dX9_comesHours_90 : decode cX9_comesHours 90 = .ok (.iload_n 1, 1) := by decide +kernel
theorem dX9_comesHours_91 : decode cX9_comesHours 91 = .ok (.invokestatic 84, 3) := by decide +kernel
theorem dX9_comesHours_94 : decode cX9_comesHours 94 = .ok (.iinc 4 1, 3) := by decide +kernel
theorem dX9_comesHours_97 : decode cX9_comesHours 97 = .ok (.goto (-19), 3) := by decide +kernel
theorem dX9_comesHours_100 : decode cX9_comesHours 100 = .ok (.iconst 1, 1) := by decide +kernel
theorem dX9_comesHours_101 : decode cX9_comesHours 101 = .ok (.ireturn, 1) := by decide +kernel
theorem dX9_comes_0 : decode cX9_comes 0 = .ok (.iload_n 1, 1) := by decide +kernel
theorem dX9_comes_1 : decode cX9_comes 1 = .ok (.lookupswitch 124 #[(104, 101), (112, 27)], 27) := by decide +kernel
theorem dX9_comes_28 : decode cX9_comes 28 = .ok (.aload_n 0, 1) := by decide +kernel
theorem dX9_comes_29 : decode cX9_comes 29 = .ok (.getfield 19, 3) := by decide +kernel
theorem dX9_comes_32 : decode cX9_comes 32 = .ok (.iconst 0, 1) := by decide +kernel
theorem dX9_comes_33 : decode cX9_comes 33 = .ok (.iaload, 1) := by decide +kernel
theorem dX9_comes_34 : decode cX9_comes 34 = .ok (.bipush 8, 2) := by decide +kernel
theorem dX9_comes_36 : decode cX9_comes 36 = .ok (.if_icmp .ne 5, 3) := by decide +kernel
theorem dX9_comes_39 : decode cX9_comes 39 = .ok (.iconst 0, 1) := by decide +kernel
theorem dX9_comes_40 : decode cX9_comes 40 = .ok (.ireturn, 1) := by decide +kernel
theorem dX9_comes_41 : decode cX9_comes 41 = .ok (.bipush 121, 2) := by decide +kernel
theorem dX9_comes_43 : decode cX9_comes 43 = .ok (.iconst 4, 1) := by decide +kernel
theorem dX9_comes_44 : decode cX9_comes 44 = .ok (.aload_n 0, 1) := by decide +kernel
theorem dX9_comes_45 : decode cX9_comes 45 = .ok (.getfield 19, 3) := by decide +kernel
theorem dX9_comes_48 : decode cX9_comes 48 = .ok (.iconst 0, 1) := by decide +kernel
theorem dX9_comes_49 : decode cX9_comes 49 = .ok (.iaload, 1) := by decide +kernel
theorem dX9_comes_50 : decode cX9_comes 50 = .ok (.imul, 1) := by decide +kernel
theorem dX9_comes_51 : decode cX9_comes 51 = .ok (.iadd, 1) := by decide +kernel
theorem dX9_comes_52 : decode cX9_comes 52 = .ok (.istore_n 2, 1) := by decide +kernel
theorem dX9_comes_53 : decode cX9_comes 53 = .ok (.iconst 0, 1) := by decide +kernel
theorem dX9_comes_54 : decode cX9_comes 54 = .ok (.istore_n 3, 1) := by decide +kernel
theorem dX9_comes_55 : decode cX9_comes 55 = .ok (.iload_n 3, 1) := by decide +kernel
theorem dX9_comes_56 : decode cX9_comes 56 = .ok (.iconst 3, 1) := by decide +kernel
theorem dX9_comes_57 : decode cX9_comes 57 = .ok (.if_icmp .ge 23, 3) := by decide +kernel
theorem dX9_comes_60 : decode cX9_comes 60 = .ok (.aload_n 0, 1) := by decide +kernel
theorem dX9_comes_61 : decode cX9_comes 61 = .ok (.getfield 19, 3) := by decide +kernel
theorem dX9_comes_64 : decode cX9_comes 64 = .ok (.iload_n 2, 1) := by decide +kernel
theorem dX9_comes_65 : decode cX9_comes 65 = .ok (.iload_n 3, 1) := by decide +kernel
theorem dX9_comes_66 : decode cX9_comes 66 = .ok (.iadd, 1) := by decide +kernel
theorem dX9_comes_67 : decode cX9_comes 67 = .ok (.aload_n 0, 1) := by decide +kernel
theorem dX9_comes_68 : decode cX9_comes 68 = .ok (.getfield 28, 3) := by decide +kernel
theorem dX9_comes_71 : decode cX9_comes 71 = .ok (.iload_n 3, 1) := by decide +kernel
theorem dX9_comes_72 : decode cX9_comes 72 = .ok (.iaload, 1) := by decide +kernel
theorem dX9_comes_73 : decode cX9_comes 73 = .ok (.iastore, 1) := by decide +kernel
theorem dX9_comes_74 : decode cX9_comes 74 = .ok (.iinc 3 1, 3) := by decide +kernel
theorem dX9_comes_77 : decode cX9_comes 77 = .ok (.goto (-22), 3) := by decide +kernel
theorem dX9_comes_80 : decode cX9_comes 80 = .ok (.aload_n 0, 1) := by decide +kernel
theorem dX9_comes_81 : decode cX9_comes 81 = .ok (.getfield 19, 3) := by decide +kernel
theorem dX9_comes_84 : decode cX9_comes 84 = .ok (.iload_n 2, 1) := by decide +kernel
theorem dX9_comes_85 : decode cX9_comes 85 = .ok (.iconst 3, 1) := by decide +kernel
theorem dX9_comes_86 : decode cX9_comes 86 = .ok (.iadd, 1) := by decide +kernel
theorem dX9_comes_87 : decode cX9_comes 87 = .ok (.bipush (-9), 2) := by decide +kernel
theorem dX9_comes_89 : decode cX9_comes 89 = .ok (.iastore, 1) := by decide +kernel
theorem dX9_comes_90 : decode cX9_comes 90 = .ok (.aload_n 0, 1) := by decide +kernel
theorem dX9_comes_91 : decode cX9_comes 91 = .ok (.getfield 19, 3) := by decide +kernel
theorem dX9_comes_94 : decode cX9_comes 94 = .ok (.iconst 0, 1) := by decide +kernel
theorem dX9_comes_95 : decode cX9_comes 95 = .ok (.dup2, 1) := by decide +kernel
theorem dX9_comes_96 : decode cX9_comes 96 = .ok (.iaload, 1) := by decide +kernel
theorem dX9_comes_97 : decode cX9_comes 97 = .ok (.iconst 1, 1) := by decide +kernel
theorem dX9_comes_98 : decode cX9_comes 98 = .ok (.iadd, 1) := by decide +kernel
theorem dX9_comes_99 : decode cX9_comes 99 = .ok (.iastore, 1) := by decide +kernel
theorem dX9_comes_100 : decode cX9_comes 100 = .ok (.iconst 1, 1) := by decide +kernel
theorem dX9_comes_101 : decode cX9_comes 101 = .ok (.ireturn, 1) := by decide +kernel
theorem dX9_comes_102 : decode cX9_comes 102 = .ok (.aload_n 0, 1) := by decide +kernel
theorem dX9_comes_103 : decode cX9_comes 103 = .ok (.aload_n 0, 1) := by decide +kernel
theorem dX9_comes_104 : decode cX9_comes 104 = .ok (.getfield 28, 3) := by decide +kernel
theorem dX9_comes_107 : decode cX9_comes 107 = .ok (.iconst 0, 1) := by decide +kernel
theorem dX9_comes_108 : decode cX9_comes 108 = .ok (.iaload, 1) := by decide +kernel
theorem dX9_comes_109 : decode cX9_comes 109 = .ok (.aload_n 0, 1) := by decide +kernel
theorem dX9_comes_110 : decode cX9_comes 110 = .ok (.getfield 28, 3) := by decide +kernel
theorem dX9_comes_113 : decode cX9_comes 113 = .ok (.iconst 1, 1) := by decide +kernel
theorem dX9_comes_114 : decode cX9_comes 114 = .ok (.iaload, 1) := by decide +kernel
theorem dX9_comes_115 : decode cX9_comes 115 = .ok (.aload_n 0, 1) := by decide +kernel
theorem dX9_comes_116 : decode cX9_comes 116 = .ok (.getfield 28, 3) := by decide +kernel
theorem dX9_comes_119 : decode cX9_comes 119 = .ok (.iconst 2, 1) := by decide +kernel
theorem dX9_comes_120 : decode cX9_comes 120 = .ok (.iaload, 1) := by decide +kernel
theorem dX9_comes_121 : decode cX9_comes 121 = .ok (.invokevirtual 88, 3) := by decide +kernel
theorem dX9_comes_124 : decode cX9_comes 124 = .ok (.ireturn, 1) := by decide +kernel
theorem dX9_comes_125 : decode cX9_comes 125 = .ok (.aload_n 0, 1) := by decide +kernel
theorem dX9_comes_126 : decode cX9_comes 126 = .ok (.getfield 28, 3) := by decide +kernel
theorem dX9_comes_129 : decode cX9_comes 129 = .ok (.iconst 0, 1) := by decide +kernel
theorem dX9_comes_130 : decode cX9_comes 130 = .ok (.iaload, 1) := by decide +kernel
theorem dX9_comes_131 : decode cX9_comes 131 = .ok (.aload_n 0, 1) := by decide +kernel
theorem dX9_comes_132 : decode cX9_comes 132 = .ok (.getfield 19, 3) := by decide +kernel
theorem dX9_comes_135 : decode cX9_comes 135 = .ok (.iconst 0, 1) := by decide +kernel
theorem dX9_comes_136 : decode cX9_comes 136 = .ok (.iaload, 1) := by decide +kernel
theorem dX9_comes_137 : decode cX9_comes 137 = .ok (.if_icmp .ge 46, 3) := by decide +kernel
theorem dX9_comes_140 : decode cX9_comes 140 = .ok (.aload_n 0, 1) := by decide +kernel
theorem dX9_comes_141 : decode cX9_comes 141 = .ok (.getfield 28, 3) := by decide +kernel
theorem dX9_comes_144 : decode cX9_comes 144 = .ok (.iconst 2, 1) := by decide +kernel
theorem dX9_comes_145 : decode cX9_comes 145 = .ok (.iaload, 1) := by decide +kernel
theorem dX9_comes_146 : decode cX9_comes 146 = .ok (.iconst 1, 1) := by decide +kernel
theorem dX9_comes_147 : decode cX9_comes 147 = .ok (.if_icmp .lt 36, 3) := by decide +kernel
theorem dX9_comes_150 : decode cX9_comes 150 = .ok (.aload_n 0, 1) := by decide +kernel
theorem dX9_comes_151 : decode cX9_comes 151 = .ok (.getfield 28, 3) := by decide +kernel
theorem dX9_comes_154 : decode cX9_comes 154 = .ok (.iconst 2, 1) := by decide +kernel
theorem dX9_comes_155 : decode cX9_comes 155 = .ok (.iaload, 1) := by decide +kernel
theorem dX9_comes_156 : decode cX9_comes 156 = .ok (.bipush 6, 2) := by decide +kernel
theorem dX9_comes_158 : decode cX9_comes 158 = .ok (.if_icmp .gt 25, 3) := by decide +kernel
theorem dX9_comes_161 : decode cX9_comes 161 = .ok (.aload_n 0, 1) := by decide +kernel
theorem dX9_comes_162 : decode cX9_comes 162 = .ok (.getfield 28, 3) := by decide +kernel
theorem dX9_comes_165 : decode cX9_comes 165 = .ok (.iconst 3, 1) := by decide +kernel
theorem dX9_comes_166 : decode cX9_comes 166 = .ok (.iaload, 1) := by decide +kernel
theorem dX9_comes_167 : decode cX9_comes 167 = .ok (.bipush 28, 2) := by decide +kernel
theorem dX9_comes_169 : decode cX9_comes 169 = .ok (.if_icmp .ge 14, 3) := by decide +kernel
theorem dX9_comes_172 : decode cX9_comes 172 = .ok (.aload_n 0, 1) := by decide +kernel
theorem dX9_comes_173 : decode cX9_comes 173 = .ok (.getfield 19, 3) := by decide +kernel
theorem dX9_comes_176 : decode cX9_comes 176 = .ok (.iconst 1, 1) := by decide +kernel
theorem dX9_comes_177 : decode cX9_comes 177 = .ok (.iaload, 1) := by decide +kernel
theorem dX9_comes_178 : decode cX9_comes 178 = .ok (.bipush 6, 2) := by decide +kernel
theorem dX9_comes_180 : decode cX9_comes 180 = .ok (.if_icmp .ne 5, 3) := by decide +kernel
theorem dX9_comes_183 : decode cX9_comes 183 = .ok (.iconst 0, 1) := by decide +kernel
theorem dX9_comes_184 : decode cX9_comes 184 = .ok (.ireturn, 1) := by decide +kernel
theorem dX9_comes_185 : decode cX9_comes 185 = .ok (.iconst 0, 1) := by decide +kernel
theorem dX9_comes_186 : decode cX9_comes 186 = .ok (.istore_n 2, 1) := by decide +kernel
theorem dX9_comes_187 : decode cX9_comes 187 = .ok (.iload_n 2, 1) := by decide +kernel
theorem dX9_comes_188 : decode cX9_comes 188 = .ok (.bipush 6, 2) := by decide +kernel
theorem dX9_comes_190 : decode cX9_comes 190 = .ok (.if_icmp .ge 35, 3) := by decide +kernel
theorem dX9_comes_193 : decode cX9_comes 193 = .ok (.aload_n 0, 1) := by decide +kernel
theorem dX9_comes_194 : decode cX9_comes 194 = .ok (.getfield 19, 3) := by decide +kernel
theorem dX9_comes_197 : decode cX9_comes 197 = .ok (.sipush 153, 3) := by decide +kernel
theorem dX9_comes_200 : decode cX9_comes 200 = .ok (.bipush 6, 2) := by decide +kernel
theorem dX9_comes_202 : decode cX9_comes 202 = .ok (.aload_n 0, 1) := by decide +kernel
theorem dX9_comes_203 : decode cX9_comes 203 = .ok (.getfield 19, 3) := by decide +kernel
theorem dX9_comes_206 : decode cX9_comes 206 = .ok (.iconst 1, 1) := by decide +kernel
theorem dX9_comes_207 : decode cX9_comes 207 = .ok (.iaload, 1) := by decide +kernel
theorem dX9_comes_208 : decode cX9_comes 208 = .ok (.imul, 1) := by decide +kernel
theorem dX9_comes_209 : decode cX9_comes 209 = .ok (.iadd, 1) := by decide +kernel
theorem dX9_comes_210 : decode cX9_comes 210 = .ok (.iload_n 2, 1) := by decide +kernel
theorem dX9_comes_211 : decode cX9_comes 211 = .ok (.iadd, 1) := by decide +kernel
theorem dX9_comes_212 : decode cX9_comes 212 = .ok (.aload_n 0, 1) := by decide +kernel
theorem dX9_comes_213 : decode cX9_comes 213 = .ok (.getfield 28, 3) := by decide +kernel
theorem dX9_comes_216 : decode cX9_comes 216 = .ok (.iload_n 2, 1) := by decide +kernel
theorem dX9_comes_217 : decode cX9_comes 217 = .ok (.iaload, 1) := by decide +kernel
theorem dX9_comes_218 : decode cX9_comes 218 = .ok (.iastore, 1) := by decide +kernel
theorem dX9_comes_219 : decode cX9_comes 219 = .ok (.iinc 2 1, 3) := by decide +kernel
theorem dX9_comes_222 : decode cX9_comes 222 = .ok (.goto (-35), 3) := by decide +kernel
theorem dX9_comes_225 : decode cX9_comes 225 = .ok (.aload_n 0, 1) := by decide +kernel
theorem dX9_comes_226 : decode cX9_comes 226 = .ok (.getfield 19, 3) := by decide +kernel
theorem dX9_comes_229 : decode cX9_comes 229 = .ok (.iconst 1, 1) := by decide +kernel
theorem dX9_comes_230 : decode cX9_comes 230 = .ok (.dup2, 1) := by decide +kernel
theorem dX9_comes_231 : decode cX9_comes 231 = .ok (.iaload, 1) := by decide +kernel
theorem dX9_comes_232 : decode cX9_comes 232 = .ok (.iconst 1, 1) := by decide +kernel
theorem dX9_comes_233 : decode cX9_comes 233 = .ok (.iadd, 1) := by decide +kernel
theorem dX9_comes_234 : decode cX9_comes 234 = .ok (.iastore, 1) := by decide +kernel
theorem dX9_comes_235 : decode cX9_comes 235 = .ok (.iconst 1, 1) := by decide +kernel
theorem dX9_comes_236 : decode cX9_comes 236 = .ok (.ireturn, 1) := by decide +kernel
theorem dX9_reads_0 : decode cX9_reads 0 = .ok (.aload_n 0, 1) := by decide +kernel
theorem dX9_reads_1 : decode cX9_reads 1 = .ok (.iconst 0, 1) := by decide +kernel
theorem dX9_reads_2 : decode cX9_reads 2 = .ok (.putfield 63, 3) := by decide +kernel
theorem dX9_reads_5 : decode cX9_reads 5 = .ok (.iconst 0, 1) := by decide +kernel
theorem dX9_reads_6 : decode cX9_reads 6 = .ok (.istore_n 1, 1) := by decide +kernel
theorem dX9_reads_7 : decode cX9_reads 7 = .ok (.aload_n 0, 1) := by decide +kernel
theorem dX9_reads_8 : decode cX9_reads 8 = .ok (.invokevirtual 92, 3) := by decide +kernel
theorem dX9_reads_11 : decode cX9_reads 11 = .ok (.ifCond .ne 12, 3) := by decide +kernel
theorem dX9_reads_14 : decode cX9_reads 14 = .ok (.sipush (-1000), 3) := by decide +kernel
theorem dX9_reads_17 : decode cX9_reads 17 = .ok (.aload_n 0, 1) := by decide +kernel
theorem dX9_reads_18 : decode cX9_reads 18 = .ok (.getfield 63, 3) := by decide +kernel
theorem dX9_reads_21 : decode cX9_reads 21 = .ok (.isub, 1) := by decide +kernel
theorem dX9_reads_22 : decode cX9_reads 22 = .ok (.ireturn, 1) := by decide +kernel
theorem dX9_reads_23 : decode cX9_reads 23 = .ok (.iinc 1 1, 3) := by decide +kernel
theorem dX9_reads_26 : decode cX9_reads 26 = .ok (.aload_n 0, 1) := by decide +kernel
theorem dX9_reads_27 : decode cX9_reads 27 = .ok (.getfield 63, 3) := by decide +kernel
theorem dX9_reads_30 : decode cX9_reads 30 = .ok (.aload_n 0, 1) := by decide +kernel
theorem dX9_reads_31 : decode cX9_reads 31 = .ok (.getfield 58, 3) := by decide +kernel
theorem dX9_reads_34 : decode cX9_reads 34 = .ok (.if_icmp .lt (-27), 3) := by decide +kernel
theorem dX9_reads_37 : decode cX9_reads 37 = .ok (.aload_n 0, 1) := by decide +kernel
theorem dX9_reads_38 : decode cX9_reads 38 = .ok (.getfield 13, 3) := by decide +kernel
theorem dX9_reads_41 : decode cX9_reads 41 = .ok (.aload_n 0, 1) := by decide +kernel
theorem dX9_reads_42 : decode cX9_reads 42 = .ok (.getfield 19, 3) := by decide +kernel
theorem dX9_reads_45 : decode cX9_reads 45 = .ok (.invokestatic 96, 3) := by decide +kernel
theorem dX9_reads_48 : decode cX9_reads 48 = .ok (.aload_n 0, 1) := by decide +kernel
theorem dX9_reads_49 : decode cX9_reads 49 = .ok (.iconst 0, 1) := by decide +kernel
theorem dX9_reads_50 : decode cX9_reads 50 = .ok (.putfield 63, 3) := by decide +kernel
theorem dX9_reads_53 : decode cX9_reads 53 = .ok (.aload_n 0, 1) := by decide +kernel
theorem dX9_reads_54 : decode cX9_reads 54 = .ok (.getfield 63, 3) := by decide +kernel
theorem dX9_reads_57 : decode cX9_reads 57 = .ok (.aload_n 0, 1) := by decide +kernel
theorem dX9_reads_58 : decode cX9_reads 58 = .ok (.getfield 58, 3) := by decide +kernel
theorem dX9_reads_61 : decode cX9_reads 61 = .ok (.if_icmp .ge 36, 3) := by decide +kernel
theorem dX9_reads_64 : decode cX9_reads 64 = .ok (.aload_n 0, 1) := by decide +kernel
theorem dX9_reads_65 : decode cX9_reads 65 = .ok (.getfield 63, 3) := by decide +kernel
theorem dX9_reads_68 : decode cX9_reads 68 = .ok (.istore_n 2, 1) := by decide +kernel
theorem dX9_reads_69 : decode cX9_reads 69 = .ok (.aload_n 0, 1) := by decide +kernel
theorem dX9_reads_70 : decode cX9_reads 70 = .ok (.invokevirtual 66, 3) := by decide +kernel
theorem dX9_reads_73 : decode cX9_reads 73 = .ok (.istore_n 3, 1) := by decide +kernel
theorem dX9_reads_74 : decode cX9_reads 74 = .ok (.aload_n 0, 1) := by decide +kernel
theorem dX9_reads_75 : decode cX9_reads 75 = .ok (.invokevirtual 92, 3) := by decide +kernel
theorem dX9_reads_78 : decode cX9_reads 78 = .ok (.istore 4, 2) := by decide +kernel
theorem dX9_reads_80 : decode cX9_reads 80 = .ok (.aload_n 0, 1) := by decide +kernel
theorem dX9_reads_81 : decode cX9_reads 81 = .ok (.iload_n 3, 1) := by decide +kernel
theorem dX9_reads_82 : decode cX9_reads 82 = .ok (.invokevirtual 100, 3) := by decide +kernel
theorem dX9_reads_85 : decode cX9_reads 85 = .ok (.ifCond .ne 9, 3) := by decide +kernel
theorem dX9_reads_88 : decode cX9_reads 88 = .ok (.sipush (-2000), 3) := by decide +kernel
theorem dX9_reads_91 : decode cX9_reads 91 = .ok (.iload_n 2, 1) := by decide +kernel
theorem dX9_reads_92 : decode cX9_reads 92 = .ok (.isub, 1) := by decide +kernel
theorem dX9_reads_93 : decode cX9_reads 93 = .ok (.ireturn, 1) := by decide +kernel
theorem dX9_reads_94 : decode cX9_reads 94 = .ok (.goto (-41), 3) := by decide +kernel
theorem dX9_reads_97 : decode cX9_reads 97 = .ok (.aload_n 0, 1) := by decide +kernel
theorem dX9_reads_98 : decode cX9_reads 98 = .ok (.getfield 19, 3) := by decide +kernel
theorem dX9_reads_101 : decode cX9_reads 101 = .ok (.aload_n 0, 1) := by decide +kernel
theorem dX9_reads_102 : decode cX9_reads 102 = .ok (.getfield 13, 3) := by decide +kernel
theorem dX9_reads_105 : decode cX9_reads 105 = .ok (.invokestatic 96, 3) := by decide +kernel
theorem dX9_reads_108 : decode cX9_reads 108 = .ok (.iload_n 1, 1) := by decide +kernel
theorem dX9_reads_109 : decode cX9_reads 109 = .ok (.ireturn, 1) := by decide +kernel
theorem dX9_copies_0 : decode cX9_copies 0 = .ok (.iconst 0, 1) := by decide +kernel
theorem dX9_copies_1 : decode cX9_copies 1 = .ok (.istore_n 2, 1) := by decide +kernel
theorem dX9_copies_2 : decode cX9_copies 2 = .ok (.iload_n 2, 1) := by decide +kernel
theorem dX9_copies_3 : decode cX9_copies 3 = .ok (.sipush 189, 3) := by decide +kernel
theorem dX9_copies_6 : decode cX9_copies 6 = .ok (.if_icmp .ge 15, 3) := by decide +kernel
theorem dX9_copies_9 : decode cX9_copies 9 = .ok (.aload_n 1, 1) := by decide +kernel
theorem dX9_copies_10 : decode cX9_copies 10 = .ok (.iload_n 2, 1) := by decide +kernel
theorem dX9_copies_11 : decode cX9_copies 11 = .ok (.aload_n 0, 1) := by decide +kernel
theorem dX9_copies_12 : decode cX9_copies 12 = .ok (.iload_n 2, 1) := by decide +kernel
theorem dX9_copies_13 : decode cX9_copies 13 = .ok (.iaload, 1) := by decide +kernel
theorem dX9_copies_14 : decode cX9_copies 14 = .ok (.iastore, 1) := by decide +kernel
theorem dX9_copies_15 : decode cX9_copies 15 = .ok (.iinc 2 1, 3) := by decide +kernel
theorem dX9_copies_18 : decode cX9_copies 18 = .ok (.goto (-16), 3) := by decide +kernel
theorem dX9_copies_21 : decode cX9_copies 21 = .ok (.return_, 1) := by decide +kernel
theorem dX9_town_0 : decode cX9_town 0 = .ok (.aload_n 0, 1) := by decide +kernel
theorem dX9_town_1 : decode cX9_town 1 = .ok (.invokevirtual 103, 3) := by decide +kernel
theorem dX9_town_4 : decode cX9_town 4 = .ok (.istore_n 1, 1) := by decide +kernel
theorem dX9_town_5 : decode cX9_town 5 = .ok (.aload_n 0, 1) := by decide +kernel
theorem dX9_town_6 : decode cX9_town 6 = .ok (.iconst 0, 1) := by decide +kernel
theorem dX9_town_7 : decode cX9_town 7 = .ok (.putfield 58, 3) := by decide +kernel
theorem dX9_town_10 : decode cX9_town 10 = .ok (.iload_n 1, 1) := by decide +kernel
theorem dX9_town_11 : decode cX9_town 11 = .ok (.ireturn, 1) := by decide +kernel
theorem dX9_holder_0 : decode cX9_holder 0 = .ok (.aload_n 0, 1) := by decide +kernel
theorem dX9_holder_1 : decode cX9_holder 1 = .ok (.iload_n 1, 1) := by decide +kernel
theorem dX9_holder_2 : decode cX9_holder 2 = .ok (.invokevirtual 106, 3) := by decide +kernel
theorem dX9_holder_5 : decode cX9_holder 5 = .ok (.ifCond .ne 9, 3) := by decide +kernel
theorem dX9_holder_8 : decode cX9_holder 8 = .ok (.aload_n 0, 1) := by decide +kernel
theorem dX9_holder_9 : decode cX9_holder 9 = .ok (.iconst (-1), 1) := by decide +kernel
theorem dX9_holder_10 : decode cX9_holder 10 = .ok (.invokevirtual 54, 3) := by decide +kernel
theorem dX9_holder_13 : decode cX9_holder 13 = .ok (.ireturn, 1) := by decide +kernel
theorem dX9_holder_14 : decode cX9_holder 14 = .ok (.iload_n 2, 1) := by decide +kernel
theorem dX9_holder_15 : decode cX9_holder 15 = .ok (.tableswitch 87 0 4 #[33, 33, 33, 40, 81], 33) := by decide +kernel
theorem dX9_holder_48 : decode cX9_holder 48 = .ok (.aload_n 0, 1) := by decide +kernel
theorem dX9_holder_49 : decode cX9_holder 49 = .ok (.iload_n 1, 1) := by decide +kernel
theorem dX9_holder_50 : decode cX9_holder 50 = .ok (.iload_n 2, 1) := by decide +kernel
theorem dX9_holder_51 : decode cX9_holder 51 = .ok (.invokevirtual 109, 3) := by decide +kernel
theorem dX9_holder_54 : decode cX9_holder 54 = .ok (.ireturn, 1) := by decide +kernel
theorem dX9_holder_55 : decode cX9_holder 55 = .ok (.iconst 0, 1) := by decide +kernel
theorem dX9_holder_56 : decode cX9_holder 56 = .ok (.istore_n 3, 1) := by decide +kernel
theorem dX9_holder_57 : decode cX9_holder 57 = .ok (.iconst 0, 1) := by decide +kernel
theorem dX9_holder_58 : decode cX9_holder 58 = .ok (.istore 4, 2) := by decide +kernel
theorem dX9_holder_60 : decode cX9_holder 60 = .ok (.iload 4, 2) := by decide +kernel
theorem dX9_holder_62 : decode cX9_holder 62 = .ok (.bipush 28, 2) := by decide +kernel
theorem dX9_holder_64 : decode cX9_holder 64 = .ok (.if_icmp .ge 30, 3) := by decide +kernel
theorem dX9_holder_67 : decode cX9_holder 67 = .ok (.iload_n 3, 1) := by decide +kernel
theorem dX9_holder_68 : decode cX9_holder 68 = .ok (.aload_n 0, 1) := by decide +kernel
theorem dX9_holder_69 : decode cX9_holder 69 = .ok (.getfield 13, 3) := by decide +kernel
theorem dX9_holder_72 : decode cX9_holder 72 = .ok (.iload 4, 2) := by decide +kernel
theorem dX9_holder_74 : decode cX9_holder 74 = .ok (.iload_n 1, 1) := by decide +kernel
theorem dX9_holder_75 : decode cX9_holder 75 = .ok (.invokestatic 80, 3) := by decide +kernel
theorem dX9_holder_78 : decode cX9_holder 78 = .ok (.ifCond .eq 7, 3) := by decide +kernel
theorem dX9_holder_81 : decode cX9_holder 81 = .ok (.iconst 1, 1) := by decide +kernel
theorem dX9_holder_82 : decode cX9_holder 82 = .ok (.goto 4, 3) := by decide +kernel
theorem dX9_holder_85 : decode cX9_holder 85 = .ok (.iconst 0, 1) := by decide +kernel
theorem dX9_holder_86 : decode cX9_holder 86 = .ok (.iadd, 1) := by decide +kernel
theorem dX9_holder_87 : decode cX9_holder 87 = .ok (.istore_n 3, 1) := by decide +kernel
theorem dX9_holder_88 : decode cX9_holder 88 = .ok (.iinc 4 1, 3) := by decide +kernel
theorem dX9_holder_91 : decode cX9_holder 91 = .ok (.goto (-31), 3) := by decide +kernel
theorem dX9_holder_94 : decode cX9_holder 94 = .ok (.iload_n 3, 1) := by decide +kernel
theorem dX9_holder_95 : decode cX9_holder 95 = .ok (.ireturn, 1) := by decide +kernel
theorem dX9_holder_96 : decode cX9_holder 96 = .ok (.aload_n 0, 1) := by decide +kernel
theorem dX9_holder_97 : decode cX9_holder 97 = .ok (.iload_n 1, 1) := by decide +kernel
theorem dX9_holder_98 : decode cX9_holder 98 = .ok (.invokevirtual 113, 3) := by decide +kernel
theorem dX9_holder_101 : decode cX9_holder 101 = .ok (.ireturn, 1) := by decide +kernel
theorem dX9_holder_102 : decode cX9_holder 102 = .ok (.aload_n 0, 1) := by decide +kernel
theorem dX9_holder_103 : decode cX9_holder 103 = .ok (.bipush (-2), 2) := by decide +kernel
theorem dX9_holder_105 : decode cX9_holder 105 = .ok (.invokevirtual 54, 3) := by decide +kernel
theorem dX9_holder_108 : decode cX9_holder 108 = .ok (.ireturn, 1) := by decide +kernel
theorem dX9_hour_0 : decode cX9_hour 0 = .ok (.iload_n 1, 1) := by decide +kernel
theorem dX9_hour_1 : decode cX9_hour 1 = .ok (.invokestatic 116, 3) := by decide +kernel
theorem dX9_hour_4 : decode cX9_hour 4 = .ok (.ifCond .ne 9, 3) := by decide +kernel
theorem dX9_hour_7 : decode cX9_hour 7 = .ok (.aload_n 0, 1) := by decide +kernel
theorem dX9_hour_8 : decode cX9_hour 8 = .ok (.iconst (-1), 1) := by decide +kernel
theorem dX9_hour_9 : decode cX9_hour 9 = .ok (.invokevirtual 54, 3) := by decide +kernel
theorem dX9_hour_12 : decode cX9_hour 12 = .ok (.ireturn, 1) := by decide +kernel
theorem dX9_hour_13 : decode cX9_hour 13 = .ok (.iload_n 2, 1) := by decide +kernel
theorem dX9_hour_14 : decode cX9_hour 14 = .ok (.iconst (-1), 1) := by decide +kernel
theorem dX9_hour_15 : decode cX9_hour 15 = .ok (.if_icmp .ge 10, 3) := by decide +kernel
theorem dX9_hour_18 : decode cX9_hour 18 = .ok (.aload_n 0, 1) := by decide +kernel
theorem dX9_hour_19 : decode cX9_hour 19 = .ok (.bipush (-4), 2) := by decide +kernel
theorem dX9_hour_21 : decode cX9_hour 21 = .ok (.invokevirtual 54, 3) := by decide +kernel
theorem dX9_hour_24 : decode cX9_hour 24 = .ok (.ireturn, 1) := by decide +kernel
theorem dX9_hour_25 : decode cX9_hour 25 = .ok (.aload_n 0, 1) := by decide +kernel
theorem dX9_hour_26 : decode cX9_hour 26 = .ok (.getfield 13, 3) := by decide +kernel
theorem dX9_hour_29 : decode cX9_hour 29 = .ok (.bipush 9, 2) := by decide +kernel
theorem dX9_hour_31 : decode cX9_hour 31 = .ok (.iconst 4, 1) := by decide +kernel
theorem dX9_hour_32 : decode cX9_hour 32 = .ok (.iload_n 1, 1) := by decide +kernel
theorem dX9_hour_33 : decode cX9_hour 33 = .ok (.imul, 1) := by decide +kernel
theorem dX9_hour_34 : decode cX9_hour 34 = .ok (.iadd, 1) := by decide +kernel
theorem dX9_hour_35 : decode cX9_hour 35 = .ok (.iaload, 1) := by decide +kernel
theorem dX9_hour_36 : decode cX9_hour 36 = .ok (.istore_n 3, 1) := by decide +kernel
theorem dX9_hour_37 : decode cX9_hour 37 = .ok (.iload_n 2, 1) := by decide +kernel
theorem dX9_hour_38 : decode cX9_hour 38 = .ok (.ifCond .ge 7, 3) := by decide +kernel
theorem dX9_hour_41 : decode cX9_hour 41 = .ok (.iload_n 3, 1) := by decide +kernel
theorem dX9_hour_42 : decode cX9_hour 42 = .ok (.goto 28, 3) := by decide +kernel
theorem dX9_hour_45 : decode cX9_hour 45 = .ok (.iload_n 2, 1) := by decide +kernel
theorem dX9_hour_46 : decode cX9_hour 46 = .ok (.iload_n 3, 1) := by decide +kernel
theorem dX9_hour_47 : decode cX9_hour 47 = .ok (.if_icmp .ge 21, 3) := by decide +kernel
theorem dX9_hour_50 : decode cX9_hour 50 = .ok (.aload_n 0, 1) := by decide +kernel
theorem dX9_hour_51 : decode cX9_hour 51 = .ok (.getfield 13, 3) := by decide +kernel
theorem dX9_hour_54 : decode cX9_hour 54 = .ok (.bipush 9, 2) := by decide +kernel
theorem dX9_hour_56 : decode cX9_hour 56 = .ok (.iconst 4, 1) := by decide +kernel
theorem dX9_hour_57 : decode cX9_hour 57 = .ok (.iload_n 1, 1) := by decide +kernel
theorem dX9_hour_58 : decode cX9_hour 58 = .ok (.imul, 1) := by decide +kernel
theorem dX9_hour_59 : decode cX9_hour 59 = .ok (.iadd, 1) := by decide +kernel
theorem dX9_hour_60 : decode cX9_hour 60 = .ok (.iconst 1, 1) := by decide +kernel
theorem dX9_hour_61 : decode cX9_hour 61 = .ok (.iadd, 1) := by decide +kernel
theorem dX9_hour_62 : decode cX9_hour 62 = .ok (.iload_n 2, 1) := by decide +kernel
theorem dX9_hour_63 : decode cX9_hour 63 = .ok (.iadd, 1) := by decide +kernel
theorem dX9_hour_64 : decode cX9_hour 64 = .ok (.iaload, 1) := by decide +kernel
theorem dX9_hour_65 : decode cX9_hour 65 = .ok (.goto 5, 3) := by decide +kernel
theorem dX9_hour_68 : decode cX9_hour 68 = .ok (.bipush (-9), 2) := by decide +kernel
theorem dX9_hour_70 : decode cX9_hour 70 = .ok (.ireturn, 1) := by decide +kernel
theorem dX9_work_0 : decode cX9_work 0 = .ok (.aload_n 0, 1) := by decide +kernel
theorem dX9_work_1 : decode cX9_work 1 = .ok (.iload_n 1, 1) := by decide +kernel
theorem dX9_work_2 : decode cX9_work 2 = .ok (.invokevirtual 119, 3) := by decide +kernel
theorem dX9_work_5 : decode cX9_work 5 = .ok (.ifCond .ne 11, 3) := by decide +kernel
theorem dX9_work_8 : decode cX9_work 8 = .ok (.aload_n 0, 1) := by decide +kernel
theorem dX9_work_9 : decode cX9_work 9 = .ok (.iconst (-1), 1) := by decide +kernel
theorem dX9_work_10 : decode cX9_work 10 = .ok (.invokevirtual 54, 3) := by decide +kernel
theorem dX9_work_13 : decode cX9_work 13 = .ok (.goto 27, 3) := by decide +kernel
theorem dX9_work_16 : decode cX9_work 16 = .ok (.iload_n 2, 1) := by decide +kernel
theorem dX9_work_17 : decode cX9_work 17 = .ok (.bipush 6, 2) := by decide +kernel
theorem dX9_work_19 : decode cX9_work 19 = .ok (.invokestatic 50, 3) := by decide +kernel
theorem dX9_work_22 : decode cX9_work 22 = .ok (.ifCond .eq 12, 3) := by decide +kernel
theorem dX9_work_25 : decode cX9_work 25 = .ok (.aload_n 0, 1) := by decide +kernel
theorem dX9_work_26 : decode cX9_work 26 = .ok (.iload_n 1, 1) := by decide +kernel
theorem dX9_work_27 : decode cX9_work 27 = .ok (.iload_n 2, 1) := by decide +kernel
theorem dX9_work_28 : decode cX9_work 28 = .ok (.invokevirtual 122, 3) := by decide +kernel
theorem dX9_work_31 : decode cX9_work 31 = .ok (.goto 9, 3) := by decide +kernel
theorem dX9_work_34 : decode cX9_work 34 = .ok (.aload_n 0, 1) := by decide +kernel
theorem dX9_work_35 : decode cX9_work 35 = .ok (.bipush (-2), 2) := by decide +kernel
theorem dX9_work_37 : decode cX9_work 37 = .ok (.invokevirtual 54, 3) := by decide +kernel
theorem dX9_work_40 : decode cX9_work 40 = .ok (.ireturn, 1) := by decide +kernel
theorem dX9_becomes_0 : decode cX9_becomes 0 = .ok (.aload_n 0, 1) := by decide +kernel
theorem dX9_becomes_1 : decode cX9_becomes 1 = .ok (.getfield 13, 3) := by decide +kernel
theorem dX9_becomes_4 : decode cX9_becomes 4 = .ok (.iload_n 1, 1) := by decide +kernel
theorem dX9_becomes_5 : decode cX9_becomes 5 = .ok (.iaload, 1) := by decide +kernel
theorem dX9_becomes_6 : decode cX9_becomes 6 = .ok (.istore_n 3, 1) := by decide +kernel
theorem dX9_becomes_7 : decode cX9_becomes 7 = .ok (.aload_n 0, 1) := by decide +kernel
theorem dX9_becomes_8 : decode cX9_becomes 8 = .ok (.getfield 13, 3) := by decide +kernel
theorem dX9_becomes_11 : decode cX9_becomes 11 = .ok (.iload_n 1, 1) := by decide +kernel
theorem dX9_becomes_12 : decode cX9_becomes 12 = .ok (.iload_n 2, 1) := by decide +kernel
theorem dX9_becomes_13 : decode cX9_becomes 13 = .ok (.iastore, 1) := by decide +kernel
theorem dX9_becomes_14 : decode cX9_becomes 14 = .ok (.iload_n 3, 1) := by decide +kernel
theorem dX9_becomes_15 : decode cX9_becomes 15 = .ok (.ireturn, 1) := by decide +kernel
theorem dX9_price_0 : decode cX9_price 0 = .ok (.aload_n 0, 1) := by decide +kernel
theorem dX9_price_1 : decode cX9_price 1 = .ok (.iload_n 1, 1) := by decide +kernel
theorem dX9_price_2 : decode cX9_price 2 = .ok (.invokevirtual 106, 3) := by decide +kernel
theorem dX9_price_5 : decode cX9_price 5 = .ok (.ifCond .eq 13, 3) := by decide +kernel
theorem dX9_price_8 : decode cX9_price 8 = .ok (.iload_n 2, 1) := by decide +kernel
theorem dX9_price_9 : decode cX9_price 9 = .ok (.iconst 0, 1) := by decide +kernel
theorem dX9_price_10 : decode cX9_price 10 = .ok (.bipush 9, 2) := by decide +kernel
theorem dX9_price_12 : decode cX9_price 12 = .ok (.invokestatic 125, 3) := by decide +kernel
theorem dX9_price_15 : decode cX9_price 15 = .ok (.goto 4, 3) := by decide +kernel
theorem dX9_price_18 : decode cX9_price 18 = .ok (.iconst (-1), 1) := by decide +kernel
theorem dX9_price_19 : decode cX9_price 19 = .ok (.istore_n 3, 1) := by decide +kernel
theorem dX9_price_20 : decode cX9_price 20 = .ok (.iload_n 3, 1) := by decide +kernel
theorem dX9_price_21 : decode cX9_price 21 = .ok (.ifCond .eq 11, 3) := by decide +kernel
theorem dX9_price_24 : decode cX9_price 24 = .ok (.aload_n 0, 1) := by decide +kernel
theorem dX9_price_25 : decode cX9_price 25 = .ok (.iload_n 3, 1) := by decide +kernel
theorem dX9_price_26 : decode cX9_price 26 = .ok (.invokevirtual 54, 3) := by decide +kernel
theorem dX9_price_29 : decode cX9_price 29 = .ok (.goto 16, 3) := by decide +kernel
theorem dX9_price_32 : decode cX9_price 32 = .ok (.aload_n 0, 1) := by decide +kernel
theorem dX9_price_33 : decode cX9_price 33 = .ok (.bipush 121, 2) := by decide +kernel
theorem dX9_price_35 : decode cX9_price 35 = .ok (.iconst 4, 1) := by decide +kernel
theorem dX9_price_36 : decode cX9_price 36 = .ok (.iload_n 1, 1) := by decide +kernel
theorem dX9_price_37 : decode cX9_price 37 = .ok (.imul, 1) := by decide +kernel
theorem dX9_price_38 : decode cX9_price 38 = .ok (.iadd, 1) := by decide +kernel
theorem dX9_price_39 : decode cX9_price 39 = .ok (.iconst 1, 1) := by decide +kernel
theorem dX9_price_40 : decode cX9_price 40 = .ok (.iadd, 1) := by decide +kernel
theorem dX9_price_41 : decode cX9_price 41 = .ok (.iload_n 2, 1) := by decide +kernel
theorem dX9_price_42 : decode cX9_price 42 = .ok (.invokevirtual 129, 3) := by decide +kernel
theorem dX9_price_45 : decode cX9_price 45 = .ok (.ireturn, 1) := by decide +kernel
theorem dX9_strike_0 : decode cX9_strike 0 = .ok (.iload_n 1, 1) := by decide +kernel
theorem dX9_strike_1 : decode cX9_strike 1 = .ok (.iconst 1, 1) := by decide +kernel
theorem dX9_strike_2 : decode cX9_strike 2 = .ok (.aload_n 0, 1) := by decide +kernel
theorem dX9_strike_3 : decode cX9_strike 3 = .ok (.getfield 13, 3) := by decide +kernel
theorem dX9_strike_6 : decode cX9_strike 6 = .ok (.iconst 0, 1) := by decide +kernel
theorem dX9_strike_7 : decode cX9_strike 7 = .ok (.iaload, 1) := by decide +kernel
theorem dX9_strike_8 : decode cX9_strike 8 = .ok (.ishl, 1) := by decide +kernel
theorem dX9_strike_9 : decode cX9_strike 9 = .ok (.invokestatic 50, 3) := by decide +kernel
theorem dX9_strike_12 : decode cX9_strike 12 = .ok (.ifCond .eq 12, 3) := by decide +kernel
theorem dX9_strike_15 : decode cX9_strike 15 = .ok (.aload_n 0, 1) := by decide +kernel
theorem dX9_strike_16 : decode cX9_strike 16 = .ok (.iconst 2, 1) := by decide +kernel
theorem dX9_strike_17 : decode cX9_strike 17 = .ok (.iload_n 1, 1) := by decide +kernel
theorem dX9_strike_18 : decode cX9_strike 18 = .ok (.invokevirtual 129, 3) := by decide +kernel
theorem dX9_strike_21 : decode cX9_strike 21 = .ok (.goto 8, 3) := by decide +kernel
theorem dX9_strike_24 : decode cX9_strike 24 = .ok (.aload_n 0, 1) := by decide +kernel
theorem dX9_strike_25 : decode cX9_strike 25 = .ok (.iconst (-1), 1) := by decide +kernel
theorem dX9_strike_26 : decode cX9_strike 26 = .ok (.invokevirtual 54, 3) := by decide +kernel
theorem dX9_strike_29 : decode cX9_strike 29 = .ok (.ireturn, 1) := by decide +kernel
theorem dX9_bell_0 : decode cX9_bell 0 = .ok (.iload_n 1, 1) := by decide +kernel
theorem dX9_bell_1 : decode cX9_bell 1 = .ok (.iconst (-1), 1) := by decide +kernel
theorem dX9_bell_2 : decode cX9_bell 2 = .ok (.if_icmp .eq 10, 3) := by decide +kernel
theorem dX9_bell_5 : decode cX9_bell 5 = .ok (.iload_n 1, 1) := by decide +kernel
theorem dX9_bell_6 : decode cX9_bell 6 = .ok (.invokestatic 116, 3) := by decide +kernel
theorem dX9_bell_9 : decode cX9_bell 9 = .ok (.ifCond .eq 13, 3) := by decide +kernel
theorem dX9_bell_12 : decode cX9_bell 12 = .ok (.iload_n 2, 1) := by decide +kernel
theorem dX9_bell_13 : decode cX9_bell 13 = .ok (.iconst 0, 1) := by decide +kernel
theorem dX9_bell_14 : decode cX9_bell 14 = .ok (.bipush 9, 2) := by decide +kernel
theorem dX9_bell_16 : decode cX9_bell 16 = .ok (.invokestatic 125, 3) := by decide +kernel
theorem dX9_bell_19 : decode cX9_bell 19 = .ok (.goto 4, 3) := by decide +kernel
theorem dX9_bell_22 : decode cX9_bell 22 = .ok (.iconst (-1), 1) := by decide +kernel
theorem dX9_bell_23 : decode cX9_bell 23 = .ok (.istore_n 3, 1) := by decide +kernel
theorem dX9_bell_24 : decode cX9_bell 24 = .ok (.iload_n 3, 1) := by decide +kernel
theorem dX9_bell_25 : decode cX9_bell 25 = .ok (.ifCond .eq 9, 3) := by decide +kernel
theorem dX9_bell_28 : decode cX9_bell 28 = .ok (.aload_n 0, 1) := by decide +kernel
theorem dX9_bell_29 : decode cX9_bell 29 = .ok (.iload_n 3, 1) := by decide +kernel
theorem dX9_bell_30 : decode cX9_bell 30 = .ok (.invokevirtual 54, 3) := by decide +kernel
theorem dX9_bell_33 : decode cX9_bell 33 = .ok (.ireturn, 1) := by decide +kernel
theorem dX9_bell_34 : decode cX9_bell 34 = .ok (.aload_n 0, 1) := by decide +kernel
theorem dX9_bell_35 : decode cX9_bell 35 = .ok (.getfield 13, 3) := by decide +kernel
theorem dX9_bell_38 : decode cX9_bell 38 = .ok (.iconst 4, 1) := by decide +kernel
theorem dX9_bell_39 : decode cX9_bell 39 = .ok (.iload_n 2, 1) := by decide +kernel
theorem dX9_bell_40 : decode cX9_bell 40 = .ok (.iastore, 1) := by decide +kernel
theorem dX9_bell_41 : decode cX9_bell 41 = .ok (.aload_n 0, 1) := by decide +kernel
theorem dX9_bell_42 : decode cX9_bell 42 = .ok (.iconst 3, 1) := by decide +kernel
theorem dX9_bell_43 : decode cX9_bell 43 = .ok (.iload_n 1, 1) := by decide +kernel
theorem dX9_bell_44 : decode cX9_bell 44 = .ok (.ifCond .ge 8, 3) := by decide +kernel
theorem dX9_bell_47 : decode cX9_bell 47 = .ok (.bipush (-9), 2) := by decide +kernel
theorem dX9_bell_49 : decode cX9_bell 49 = .ok (.goto 4, 3) := by decide +kernel
theorem dX9_bell_52 : decode cX9_bell 52 = .ok (.iload_n 1, 1) := by decide +kernel
theorem dX9_bell_53 : decode cX9_bell 53 = .ok (.invokevirtual 129, 3) := by decide +kernel
theorem dX9_bell_56 : decode cX9_bell 56 = .ok (.ireturn, 1) := by decide +kernel
theorem dX9_hasThatDay_0 : decode cX9_hasThatDay 0 = .ok (.iload_n 2, 1) := by decide +kernel
theorem dX9_hasThatDay_1 : decode cX9_hasThatDay 1 = .ok (.iconst 4, 1) := by decide +kernel
theorem dX9_hasThatDay_2 : decode cX9_hasThatDay 2 = .ok (.idiv, 1) := by decide +kernel
theorem dX9_hasThatDay_3 : decode cX9_hasThatDay 3 = .ok (.iconst 4, 1) := by decide +kernel
theorem dX9_hasThatDay_4 : decode cX9_hasThatDay 4 = .ok (.imul, 1) := by decide +kernel
theorem dX9_hasThatDay_5 : decode cX9_hasThatDay 5 = .ok (.istore_n 3, 1) := by decide +kernel
theorem dX9_hasThatDay_6 : decode cX9_hasThatDay 6 = .ok (.iload_n 3, 1) := by decide +kernel
theorem dX9_hasThatDay_7 : decode cX9_hasThatDay 7 = .ok (.iload_n 2, 1) := by decide +kernel
theorem dX9_hasThatDay_8 : decode cX9_hasThatDay 8 = .ok (.iconst 4, 1) := by decide +kernel
theorem dX9_hasThatDay_9 : decode cX9_hasThatDay 9 = .ok (.idiv, 1) := by decide +kernel
theorem dX9_hasThatDay_10 : decode cX9_hasThatDay 10 = .ok (.iconst 4, 1) := by decide +kernel
theorem dX9_hasThatDay_11 : decode cX9_hasThatDay 11 = .ok (.imul, 1) := by decide +kernel
theorem dX9_hasThatDay_12 : decode cX9_hasThatDay 12 = .ok (.iconst 4, 1) := by decide +kernel
theorem dX9_hasThatDay_13 : decode cX9_hasThatDay 13 = .ok (.iadd, 1) := by decide +kernel
theorem dX9_hasThatDay_14 : decode cX9_hasThatDay 14 = .ok (.if_icmp .ge 23, 3) := by decide +kernel
theorem dX9_hasThatDay_17 : decode cX9_hasThatDay 17 = .ok (.aload_n 0, 1) := by decide +kernel
theorem dX9_hasThatDay_18 : decode cX9_hasThatDay 18 = .ok (.getfield 13, 3) := by decide +kernel
theorem dX9_hasThatDay_21 : decode cX9_hasThatDay 21 = .ok (.iload_n 3, 1) := by decide +kernel
theorem dX9_hasThatDay_22 : decode cX9_hasThatDay 22 = .ok (.iload_n 1, 1) := by decide +kernel
theorem dX9_hasThatDay_23 : decode cX9_hasThatDay 23 = .ok (.invokestatic 80, 3) := by decide +kernel
theorem dX9_hasThatDay_26 : decode cX9_hasThatDay 26 = .ok (.ifCond .eq 5, 3) := by decide +kernel
theorem dX9_hasThatDay_29 : decode cX9_hasThatDay 29 = .ok (.iconst 1, 1) := by decide +kernel
theorem dX9_hasThatDay_30 : decode cX9_hasThatDay 30 = .ok (.ireturn, 1) := by decide +kernel
theorem dX9_hasThatDay_31 : decode cX9_hasThatDay 31 = .ok (.iinc 3 1, 3) := by decide +kernel
theorem dX9_hasThatDay_34 : decode cX9_hasThatDay 34 = .ok (.goto (-28), 3) := by decide +kernel
theorem dX9_hasThatDay_37 : decode cX9_hasThatDay 37 = .ok (.iconst 0, 1) := by decide +kernel
theorem dX9_hasThatDay_38 : decode cX9_hasThatDay 38 = .ok (.ireturn, 1) := by decide +kernel
theorem dX9_partOf_0 : decode cX9_partOf 0 = .ok (.aload_n 0, 1) := by decide +kernel
theorem dX9_partOf_1 : decode cX9_partOf 1 = .ok (.iload_n 1, 1) := by decide +kernel
theorem dX9_partOf_2 : decode cX9_partOf 2 = .ok (.iconst 0, 1) := by decide +kernel
theorem dX9_partOf_3 : decode cX9_partOf 3 = .ok (.invokevirtual 122, 3) := by decide +kernel
theorem dX9_partOf_6 : decode cX9_partOf 6 = .ok (.istore 4, 2) := by decide +kernel
theorem dX9_partOf_8 : decode cX9_partOf 8 = .ok (.iload_n 2, 1) := by decide +kernel
theorem dX9_partOf_9 : decode cX9_partOf 9 = .ok (.iload 4, 2) := by decide +kernel
theorem dX9_partOf_11 : decode cX9_partOf 11 = .ok (.if_icmp .eq 39, 3) := by decide +kernel
theorem dX9_partOf_14 : decode cX9_partOf 14 = .ok (.iload_n 3, 1) := by decide +kernel
theorem dX9_partOf_15 : decode cX9_partOf 15 = .ok (.aload_n 0, 1) := by decide +kernel
theorem dX9_partOf_16 : decode cX9_partOf 16 = .ok (.getfield 13, 3) := by decide +kernel
theorem dX9_partOf_19 : decode cX9_partOf 19 = .ok (.iconst 3, 1) := by decide +kernel
theorem dX9_partOf_20 : decode cX9_partOf 20 = .ok (.iaload, 1) := by decide +kernel
theorem dX9_partOf_21 : decode cX9_partOf 21 = .ok (.if_icmp .ne 18, 3) := by decide +kernel
theorem dX9_partOf_24 : decode cX9_partOf 24 = .ok (.aload_n 0, 1) := by decide +kernel
theorem dX9_partOf_25 : decode cX9_partOf 25 = .ok (.iload_n 1, 1) := by decide +kernel
theorem dX9_partOf_26 : decode cX9_partOf 26 = .ok (.iconst 5, 1) := by decide +kernel
theorem dX9_partOf_27 : decode cX9_partOf 27 = .ok (.invokevirtual 122, 3) := by decide +kernel
theorem dX9_partOf_30 : decode cX9_partOf 30 = .ok (.aload_n 0, 1) := by decide +kernel
theorem dX9_partOf_31 : decode cX9_partOf 31 = .ok (.getfield 13, 3) := by decide +kernel
theorem dX9_partOf_34 : decode cX9_partOf 34 = .ok (.iconst 4, 1) := by decide +kernel
theorem dX9_partOf_35 : decode cX9_partOf 35 = .ok (.iaload, 1) := by decide +kernel
theorem dX9_partOf_36 : decode cX9_partOf 36 = .ok (.if_icmp .eq 14, 3) := by decide +kernel
theorem dX9_partOf_39 : decode cX9_partOf 39 = .ok (.aload_n 0, 1) := by decide +kernel
theorem dX9_partOf_40 : decode cX9_partOf 40 = .ok (.iload_n 2, 1) := by decide +kernel
theorem dX9_partOf_41 : decode cX9_partOf 41 = .ok (.iconst 3, 1) := by decide +kernel
theorem dX9_partOf_42 : decode cX9_partOf 42 = .ok (.invokevirtual 109, 3) := by decide +kernel
theorem dX9_partOf_45 : decode cX9_partOf 45 = .ok (.iload 4, 2) := by decide +kernel
theorem dX9_partOf_47 : decode cX9_partOf 47 = .ok (.if_icmp .ne 5, 3) := by decide +kernel
theorem dX9_partOf_50 : decode cX9_partOf 50 = .ok (.iconst 0, 1) := by decide +kernel
theorem dX9_partOf_51 : decode cX9_partOf 51 = .ok (.ireturn, 1) := by decide +kernel
theorem dX9_partOf_52 : decode cX9_partOf 52 = .ok (.iload_n 2, 1) := by decide +kernel
theorem dX9_partOf_53 : decode cX9_partOf 53 = .ok (.aload_n 0, 1) := by decide +kernel
theorem dX9_partOf_54 : decode cX9_partOf 54 = .ok (.getfield 31, 3) := by decide +kernel
theorem dX9_partOf_57 : decode cX9_partOf 57 = .ok (.if_icmp .ne 5, 3) := by decide +kernel
theorem dX9_partOf_60 : decode cX9_partOf 60 = .ok (.iconst 0, 1) := by decide +kernel
theorem dX9_partOf_61 : decode cX9_partOf 61 = .ok (.ireturn, 1) := by decide +kernel
theorem dX9_partOf_62 : decode cX9_partOf 62 = .ok (.aload_n 0, 1) := by decide +kernel
theorem dX9_partOf_63 : decode cX9_partOf 63 = .ok (.getfield 13, 3) := by decide +kernel
theorem dX9_partOf_66 : decode cX9_partOf 66 = .ok (.iconst 2, 1) := by decide +kernel
theorem dX9_partOf_67 : decode cX9_partOf 67 = .ok (.iaload, 1) := by decide +kernel
theorem dX9_partOf_68 : decode cX9_partOf 68 = .ok (.iload_n 2, 1) := by decide +kernel
theorem dX9_partOf_69 : decode cX9_partOf 69 = .ok (.ishr, 1) := by decide +kernel
theorem dX9_partOf_70 : decode cX9_partOf 70 = .ok (.iconst 1, 1) := by decide +kernel
theorem dX9_partOf_71 : decode cX9_partOf 71 = .ok (.iand, 1) := by decide +kernel
theorem dX9_partOf_72 : decode cX9_partOf 72 = .ok (.iconst 1, 1) := by decide +kernel
theorem dX9_partOf_73 : decode cX9_partOf 73 = .ok (.if_icmp .ne 6, 3) := by decide +kernel
theorem dX9_partOf_76 : decode cX9_partOf 76 = .ok (.bipush (-9), 2) := by decide +kernel
theorem dX9_partOf_78 : decode cX9_partOf 78 = .ok (.ireturn, 1) := by decide +kernel
theorem dX9_partOf_79 : decode cX9_partOf 79 = .ok (.aload_n 0, 1) := by decide +kernel
theorem dX9_partOf_80 : decode cX9_partOf 80 = .ok (.iload_n 2, 1) := by decide +kernel
theorem dX9_partOf_81 : decode cX9_partOf 81 = .ok (.iconst 1, 1) := by decide +kernel
theorem dX9_partOf_82 : decode cX9_partOf 82 = .ok (.invokevirtual 109, 3) := by decide +kernel
theorem dX9_partOf_85 : decode cX9_partOf 85 = .ok (.istore 5, 2) := by decide +kernel
theorem dX9_partOf_87 : decode cX9_partOf 87 = .ok (.aload_n 0, 1) := by decide +kernel
theorem dX9_partOf_88 : decode cX9_partOf 88 = .ok (.iload_n 2, 1) := by decide +kernel
theorem dX9_partOf_89 : decode cX9_partOf 89 = .ok (.iconst 0, 1) := by decide +kernel
theorem dX9_partOf_90 : decode cX9_partOf 90 = .ok (.invokevirtual 109, 3) := by decide +kernel
theorem dX9_partOf_93 : decode cX9_partOf 93 = .ok (.tableswitch 134 1 6 #[39, 60, 79, 94, 117, 131], 39) := by decide +kernel
theorem dX9_partOf_132 : decode cX9_partOf 132 = .ok (.iconst 2, 1) := by decide +kernel
theorem dX9_partOf_133 : decode cX9_partOf 133 = .ok (.iload 5, 2) := by decide +kernel
theorem dX9_partOf_135 : decode cX9_partOf 135 = .ok (.imul, 1) := by decide +kernel
theorem dX9_partOf_136 : decode cX9_partOf 136 = .ok (.aload_n 0, 1) := by decide +kernel
theorem dX9_partOf_137 : decode cX9_partOf 137 = .ok (.iload_n 1, 1) := by decide +kernel
theorem dX9_partOf_138 : decode cX9_partOf 138 = .ok (.iconst 2, 1) := by decide +kernel
theorem dX9_partOf_139 : decode cX9_partOf 139 = .ok (.invokevirtual 122, 3) := by decide +kernel
theorem dX9_partOf_142 : decode cX9_partOf 142 = .ok (.iadd, 1) := by decide +kernel
theorem dX9_partOf_143 : decode cX9_partOf 143 = .ok (.iconst 1, 1) := by decide +kernel
theorem dX9_partOf_144 : decode cX9_partOf 144 = .ok (.isub, 1) := by decide +kernel
theorem dX9_partOf_145 : decode cX9_partOf 145 = .ok (.aload_n 0, 1) := by decide +kernel
theorem dX9_partOf_146 : decode cX9_partOf 146 = .ok (.iload_n 1, 1) := by decide +kernel
theorem dX9_partOf_147 : decode cX9_partOf 147 = .ok (.iconst 2, 1) := by decide +kernel
theorem dX9_partOf_148 : decode cX9_partOf 148 = .ok (.invokevirtual 122, 3) := by decide +kernel
theorem dX9_partOf_151 : decode cX9_partOf 151 = .ok (.idiv, 1) := by decide +kernel
theorem dX9_partOf_152 : decode cX9_partOf 152 = .ok (.ireturn, 1) := by decide +kernel
theorem dX9_partOf_153 : decode cX9_partOf 153 = .ok (.aload_n 0, 1) := by decide +kernel
theorem dX9_partOf_154 : decode cX9_partOf 154 = .ok (.iload 4, 2) := by decide +kernel
theorem dX9_partOf_156 : decode cX9_partOf 156 = .ok (.iload_n 3, 1) := by decide +kernel
theorem dX9_partOf_157 : decode cX9_partOf 157 = .ok (.invokevirtual 132, 3) := by decide +kernel
theorem dX9_partOf_160 : decode cX9_partOf 160 = .ok (.ifCond .eq 7, 3) := by decide +kernel
theorem dX9_partOf_163 : decode cX9_partOf 163 = .ok (.iconst 0, 1) := by decide +kernel
theorem dX9_partOf_164 : decode cX9_partOf 164 = .ok (.goto 7, 3) := by decide +kernel
theorem dX9_partOf_167 : decode cX9_partOf 167 = .ok (.iconst 2, 1) := by decide +kernel
theorem dX9_partOf_168 : decode cX9_partOf 168 = .ok (.iload 5, 2) := by decide +kernel
theorem dX9_partOf_170 : decode cX9_partOf 170 = .ok (.imul, 1) := by decide +kernel
theorem dX9_partOf_171 : decode cX9_partOf 171 = .ok (.ireturn, 1) := by decide +kernel
theorem dX9_partOf_172 : decode cX9_partOf 172 = .ok (.iload 5, 2) := by decide +kernel
theorem dX9_partOf_174 : decode cX9_partOf 174 = .ok (.aload_n 0, 1) := by decide +kernel
theorem dX9_partOf_175 : decode cX9_partOf 175 = .ok (.getfield 13, 3) := by decide +kernel
theorem dX9_partOf_178 : decode cX9_partOf 178 = .ok (.bipush 9, 2) := by decide +kernel
theorem dX9_partOf_180 : decode cX9_partOf 180 = .ok (.iconst 4, 1) := by decide +kernel
theorem dX9_partOf_181 : decode cX9_partOf 181 = .ok (.iload_n 3, 1) := by decide +kernel
theorem dX9_partOf_182 : decode cX9_partOf 182 = .ok (.imul, 1) := by decide +kernel
theorem dX9_partOf_183 : decode cX9_partOf 183 = .ok (.iadd, 1) := by decide +kernel
theorem dX9_partOf_184 : decode cX9_partOf 184 = .ok (.iaload, 1) := by decide +kernel
theorem dX9_partOf_185 : decode cX9_partOf 185 = .ok (.imul, 1) := by decide +kernel
theorem dX9_partOf_186 : decode cX9_partOf 186 = .ok (.ireturn, 1) := by decide +kernel
theorem dX9_partOf_187 : decode cX9_partOf 187 = .ok (.aload_n 0, 1) := by decide +kernel
theorem dX9_partOf_188 : decode cX9_partOf 188 = .ok (.iload_n 1, 1) := by decide +kernel
theorem dX9_partOf_189 : decode cX9_partOf 189 = .ok (.iconst 5, 1) := by decide +kernel
theorem dX9_partOf_190 : decode cX9_partOf 190 = .ok (.invokevirtual 122, 3) := by decide +kernel
theorem dX9_partOf_193 : decode cX9_partOf 193 = .ok (.aload_n 0, 1) := by decide +kernel
theorem dX9_partOf_194 : decode cX9_partOf 194 = .ok (.iload_n 2, 1) := by decide +kernel
theorem dX9_partOf_195 : decode cX9_partOf 195 = .ok (.iconst 2, 1) := by decide +kernel
theorem dX9_partOf_196 : decode cX9_partOf 196 = .ok (.invokevirtual 109, 3) := by decide +kernel
theorem dX9_partOf_199 : decode cX9_partOf 199 = .ok (.if_icmp .ne 8, 3) := by decide +kernel
theorem dX9_partOf_202 : decode cX9_partOf 202 = .ok (.iload 5, 2) := by decide +kernel
theorem dX9_partOf_204 : decode cX9_partOf 204 = .ok (.goto 5, 3) := by decide +kernel
theorem dX9_partOf_207 : decode cX9_partOf 207 = .ok (.bipush (-9), 2) := by decide +kernel
theorem dX9_partOf_209 : decode cX9_partOf 209 = .ok (.ireturn, 1) := by decide +kernel
theorem dX9_partOf_210 : decode cX9_partOf 210 = .ok (.iload_n 3, 1) := by decide +kernel
theorem dX9_partOf_211 : decode cX9_partOf 211 = .ok (.iconst 4, 1) := by decide +kernel
theorem dX9_partOf_212 : decode cX9_partOf 212 = .ok (.irem, 1) := by decide +kernel
theorem dX9_partOf_213 : decode cX9_partOf 213 = .ok (.iconst 3, 1) := by decide +kernel
theorem dX9_partOf_214 : decode cX9_partOf 214 = .ok (.if_icmp .ne 7, 3) := by decide +kernel
theorem dX9_partOf_217 : decode cX9_partOf 217 = .ok (.iconst 0, 1) := by decide +kernel
theorem dX9_partOf_218 : decode cX9_partOf 218 = .ok (.goto 5, 3) := by decide +kernel
theorem dX9_partOf_221 : decode cX9_partOf 221 = .ok (.iload 5, 2) := by decide +kernel
theorem dX9_partOf_223 : decode cX9_partOf 223 = .ok (.ireturn, 1) := by decide +kernel
theorem dX9_partOf_224 : decode cX9_partOf 224 = .ok (.bipush (-9), 2) := by decide +kernel
theorem dX9_partOf_226 : decode cX9_partOf 226 = .ok (.ireturn, 1) := by decide +kernel
theorem dX9_partOf_227 : decode cX9_partOf 227 = .ok (.iload 5, 2) := by decide +kernel
theorem dX9_partOf_229 : decode cX9_partOf 229 = .ok (.ireturn, 1) := by decide +kernel
theorem dX9_leave_0 : decode cX9_leave 0 = .ok (.aload_n 0, 1) := by decide +kernel
theorem dX9_leave_1 : decode cX9_leave 1 = .ok (.iload_n 1, 1) := by decide +kernel
theorem dX9_leave_2 : decode cX9_leave 2 = .ok (.invokevirtual 119, 3) := by decide +kernel
theorem dX9_leave_5 : decode cX9_leave 5 = .ok (.ifCond .eq 18, 3) := by decide +kernel
theorem dX9_leave_8 : decode cX9_leave 8 = .ok (.aload_n 0, 1) := by decide +kernel
theorem dX9_leave_9 : decode cX9_leave 9 = .ok (.iload_n 2, 1) := by decide +kernel
theorem dX9_leave_10 : decode cX9_leave 10 = .ok (.invokevirtual 106, 3) := by decide +kernel
theorem dX9_leave_13 : decode cX9_leave 13 = .ok (.ifCond .eq 10, 3) := by decide +kernel
theorem dX9_leave_16 : decode cX9_leave 16 = .ok (.iload_n 3, 1) := by decide +kernel
theorem dX9_leave_17 : decode cX9_leave 17 = .ok (.invokestatic 116, 3) := by decide +kernel
theorem dX9_leave_20 : decode cX9_leave 20 = .ok (.ifCond .ne 11, 3) := by decide +kernel
theorem dX9_leave_23 : decode cX9_leave 23 = .ok (.aload_n 0, 1) := by decide +kernel
theorem dX9_leave_24 : decode cX9_leave 24 = .ok (.iconst (-1), 1) := by decide +kernel
theorem dX9_leave_25 : decode cX9_leave 25 = .ok (.invokevirtual 54, 3) := by decide +kernel
theorem dX9_leave_28 : decode cX9_leave 28 = .ok (.goto 26, 3) := by decide +kernel
theorem dX9_leave_31 : decode cX9_leave 31 = .ok (.aload_n 0, 1) := by decide +kernel
theorem dX9_leave_32 : decode cX9_leave 32 = .ok (.getfield 13, 3) := by decide +kernel
theorem dX9_leave_35 : decode cX9_leave 35 = .ok (.iload_n 3, 1) := by decide +kernel
theorem dX9_leave_36 : decode cX9_leave 36 = .ok (.iload_n 2, 1) := by decide +kernel
theorem dX9_leave_37 : decode cX9_leave 37 = .ok (.invokestatic 80, 3) := by decide +kernel
theorem dX9_leave_40 : decode cX9_leave 40 = .ok (.ifCond .eq 13, 3) := by decide +kernel
theorem dX9_leave_43 : decode cX9_leave 43 = .ok (.aload_n 0, 1) := by decide +kernel
theorem dX9_leave_44 : decode cX9_leave 44 = .ok (.iload_n 1, 1) := by decide +kernel
theorem dX9_leave_45 : decode cX9_leave 45 = .ok (.iload_n 2, 1) := by decide +kernel
theorem dX9_leave_46 : decode cX9_leave 46 = .ok (.iload_n 3, 1) := by decide +kernel
theorem dX9_leave_47 : decode cX9_leave 47 = .ok (.invokevirtual 135, 3) := by decide +kernel
theorem dX9_leave_50 : decode cX9_leave 50 = .ok (.goto 4, 3) := by decide +kernel
theorem dX9_leave_53 : decode cX9_leave 53 = .ok (.iconst 0, 1) := by decide +kernel
theorem dX9_leave_54 : decode cX9_leave 54 = .ok (.ireturn, 1) := by decide +kernel
theorem dX9_hourOf_0 : decode cX9_hourOf 0 = .ok (.iconst 0, 1) := by decide +kernel
theorem dX9_hourOf_1 : decode cX9_hourOf 1 = .ok (.istore_n 3, 1) := by decide +kernel
theorem dX9_hourOf_2 : decode cX9_hourOf 2 = .ok (.iconst 0, 1) := by decide +kernel
theorem dX9_hourOf_3 : decode cX9_hourOf 3 = .ok (.istore 4, 2) := by decide +kernel
theorem dX9_hourOf_5 : decode cX9_hourOf 5 = .ok (.iload 4, 2) := by decide +kernel
theorem dX9_hourOf_7 : decode cX9_hourOf 7 = .ok (.aload_n 0, 1) := by decide +kernel
theorem dX9_hourOf_8 : decode cX9_hourOf 8 = .ok (.getfield 13, 3) := by decide +kernel
theorem dX9_hourOf_11 : decode cX9_hourOf 11 = .ok (.bipush 9, 2) := by decide +kernel
theorem dX9_hourOf_13 : decode cX9_hourOf 13 = .ok (.iconst 4, 1) := by decide +kernel
theorem dX9_hourOf_14 : decode cX9_hourOf 14 = .ok (.iload_n 2, 1) := by decide +kernel
theorem dX9_hourOf_15 : decode cX9_hourOf 15 = .ok (.imul, 1) := by decide +kernel
theorem dX9_hourOf_16 : decode cX9_hourOf 16 = .ok (.iadd, 1) := by decide +kernel
theorem dX9_hourOf_17 : decode cX9_hourOf 17 = .ok (.iaload, 1) := by decide +kernel
theorem dX9_hourOf_18 : decode cX9_hourOf 18 = .ok (.if_icmp .ge 46, 3) := by decide +kernel
theorem dX9_hourOf_21 : decode cX9_hourOf 21 = .ok (.aload_n 0, 1) := by decide +kernel
theorem dX9_hourOf_22 : decode cX9_hourOf 22 = .ok (.iload_n 1, 1) := by decide +kernel
theorem dX9_hourOf_23 : decode cX9_hourOf 23 = .ok (.aload_n 0, 1) := by decide +kernel
theorem dX9_hourOf_24 : decode cX9_hourOf 24 = .ok (.getfield 13, 3) := by decide +kernel
theorem dX9_hourOf_27 : decode cX9_hourOf 27 = .ok (.bipush 9, 2) := by decide +kernel
theorem dX9_hourOf_29 : decode cX9_hourOf 29 = .ok (.iconst 4, 1) := by decide +kernel
theorem dX9_hourOf_30 : decode cX9_hourOf 30 = .ok (.iload_n 2, 1) := by decide +kernel
theorem dX9_hourOf_31 : decode cX9_hourOf 31 = .ok (.imul, 1) := by decide +kernel
theorem dX9_hourOf_32 : decode cX9_hourOf 32 = .ok (.iadd, 1) := by decide +kernel
theorem dX9_hourOf_33 : decode cX9_hourOf 33 = .ok (.iconst 1, 1) := by decide +kernel
theorem dX9_hourOf_34 : decode cX9_hourOf 34 = .ok (.iadd, 1) := by decide +kernel
theorem dX9_hourOf_35 : decode cX9_hourOf 35 = .ok (.iload 4, 2) := by decide +kernel
theorem dX9_hourOf_37 : decode cX9_hourOf 37 = .ok (.iadd, 1) := by decide +kernel
theorem dX9_hourOf_38 : decode cX9_hourOf 38 = .ok (.iaload, 1) := by decide +kernel
theorem dX9_hourOf_39 : decode cX9_hourOf 39 = .ok (.iload_n 2, 1) := by decide +kernel
theorem dX9_hourOf_40 : decode cX9_hourOf 40 = .ok (.invokevirtual 135, 3) := by decide +kernel
theorem dX9_hourOf_43 : decode cX9_hourOf 43 = .ok (.istore 5, 2) := by decide +kernel
theorem dX9_hourOf_45 : decode cX9_hourOf 45 = .ok (.iload 5, 2) := by decide +kernel
theorem dX9_hourOf_47 : decode cX9_hourOf 47 = .ok (.ifCond .ge 6, 3) := by decide +kernel
theorem dX9_hourOf_50 : decode cX9_hourOf 50 = .ok (.ldc 138, 2) := by decide +kernel
theorem dX9_hourOf_52 : decode cX9_hourOf 52 = .ok (.ireturn, 1) := by decide +kernel
theorem dX9_hourOf_53 : decode cX9_hourOf 53 = .ok (.iload_n 3, 1) := by decide +kernel
theorem dX9_hourOf_54 : decode cX9_hourOf 54 = .ok (.iload 5, 2) := by decide +kernel
theorem dX9_hourOf_56 : decode cX9_hourOf 56 = .ok (.iadd, 1) := by decide +kernel
theorem dX9_hourOf_57 : decode cX9_hourOf 57 = .ok (.istore_n 3, 1) := by decide +kernel
theorem dX9_hourOf_58 : decode cX9_hourOf 58 = .ok (.iinc 4 1, 3) := by decide +kernel
theorem dX9_hourOf_61 : decode cX9_hourOf 61 = .ok (.goto (-56), 3) := by decide +kernel
theorem dX9_hourOf_64 : decode cX9_hourOf 64 = .ok (.iload_n 3, 1) := by decide +kernel
theorem dX9_hourOf_65 : decode cX9_hourOf 65 = .ok (.ireturn, 1) := by decide +kernel
theorem dX9_rowOf_0 : decode cX9_rowOf 0 = .ok (.iconst 0, 1) := by decide +kernel
theorem dX9_rowOf_1 : decode cX9_rowOf 1 = .ok (.istore_n 3, 1) := by decide +kernel
theorem dX9_rowOf_2 : decode cX9_rowOf 2 = .ok (.iload_n 2, 1) := by decide +kernel
theorem dX9_rowOf_3 : decode cX9_rowOf 3 = .ok (.istore 4, 2) := by decide +kernel
theorem dX9_rowOf_5 : decode cX9_rowOf 5 = .ok (.iload 4, 2) := by decide +kernel
theorem dX9_rowOf_7 : decode cX9_rowOf 7 = .ok (.iload_n 2, 1) := by decide +kernel
theorem dX9_rowOf_8 : decode cX9_rowOf 8 = .ok (.aload_n 0, 1) := by decide +kernel
theorem dX9_rowOf_9 : decode cX9_rowOf 9 = .ok (.iload_n 1, 1) := by decide +kernel
theorem dX9_rowOf_10 : decode cX9_rowOf 10 = .ok (.iconst 2, 1) := by decide +kernel
theorem dX9_rowOf_11 : decode cX9_rowOf 11 = .ok (.invokevirtual 122, 3) := by decide +kernel
theorem dX9_rowOf_14 : decode cX9_rowOf 14 = .ok (.iadd, 1) := by decide +kernel
theorem dX9_rowOf_15 : decode cX9_rowOf 15 = .ok (.if_icmp .ge 19, 3) := by decide +kernel
theorem dX9_rowOf_18 : decode cX9_rowOf 18 = .ok (.iload_n 3, 1) := by decide +kernel
theorem dX9_rowOf_19 : decode cX9_rowOf 19 = .ok (.aload_n 0, 1) := by decide +kernel
theorem dX9_rowOf_20 : decode cX9_rowOf 20 = .ok (.iload_n 1, 1) := by decide +kernel
theorem dX9_rowOf_21 : decode cX9_rowOf 21 = .ok (.iload 4, 2) := by decide +kernel
theorem dX9_rowOf_23 : decode cX9_rowOf 23 = .ok (.invokevirtual 139, 3) := by decide +kernel
theorem dX9_rowOf_26 : decode cX9_rowOf 26 = .ok (.iadd, 1) := by decide +kernel
theorem dX9_rowOf_27 : decode cX9_rowOf 27 = .ok (.istore_n 3, 1) := by decide +kernel
theorem dX9_rowOf_28 : decode cX9_rowOf 28 = .ok (.iinc 4 1, 3) := by decide +kernel
theorem dX9_rowOf_31 : decode cX9_rowOf 31 = .ok (.goto (-26), 3) := by decide +kernel
theorem dX9_rowOf_34 : decode cX9_rowOf 34 = .ok (.iload_n 3, 1) := by decide +kernel
theorem dX9_rowOf_35 : decode cX9_rowOf 35 = .ok (.ireturn, 1) := by decide +kernel
theorem dX9_weighs_0 : decode cX9_weighs 0 = .ok (.iload_n 2, 1) := by decide +kernel
theorem dX9_weighs_1 : decode cX9_weighs 1 = .ok (.ldc 138, 2) := by decide +kernel
theorem dX9_weighs_3 : decode cX9_weighs 3 = .ok (.if_icmp .ge 34, 3) := by decide +kernel
theorem dX9_weighs_6 : decode cX9_weighs 6 = .ok (.aload_n 0, 1) := by decide +kernel
theorem dX9_weighs_7 : decode cX9_weighs 7 = .ok (.getfield 142, 3) := by decide +kernel
theorem dX9_weighs_10 : decode cX9_weighs 10 = .ok (.ifCond .lt 28, 3) := by decide +kernel
theorem dX9_weighs_13 : decode cX9_weighs 13 = .ok (.iload_n 2, 1) := by decide +kernel
theorem dX9_weighs_14 : decode cX9_weighs 14 = .ok (.aload_n 0, 1) := by decide +kernel
theorem dX9_weighs_15 : decode cX9_weighs 15 = .ok (.getfield 142, 3) := by decide +kernel
theorem dX9_weighs_18 : decode cX9_weighs 18 = .ok (.if_icmp .gt 19, 3) := by decide +kernel
theorem dX9_weighs_21 : decode cX9_weighs 21 = .ok (.iload_n 2, 1) := by decide +kernel
theorem dX9_weighs_22 : decode cX9_weighs 22 = .ok (.aload_n 0, 1) := by decide +kernel
theorem dX9_weighs_23 : decode cX9_weighs 23 = .ok (.getfield 142, 3) := by decide +kernel
theorem dX9_weighs_26 : decode cX9_weighs 26 = .ok (.if_icmp .ne 12, 3) := by decide +kernel
theorem dX9_weighs_29 : decode cX9_weighs 29 = .ok (.iload_n 1, 1) := by decide +kernel
theorem dX9_weighs_30 : decode cX9_weighs 30 = .ok (.aload_n 0, 1) := by decide +kernel
theorem dX9_weighs_31 : decode cX9_weighs 31 = .ok (.getfield 145, 3) := by decide +kernel
theorem dX9_weighs_34 : decode cX9_weighs 34 = .ok (.if_icmp .lt 4, 3) := by decide +kernel
theorem dX9_weighs_37 : decode cX9_weighs 37 = .ok (.return_, 1) := by decide +kernel
theorem dX9_weighs_38 : decode cX9_weighs 38 = .ok (.aload_n 0, 1) := by decide +kernel
theorem dX9_weighs_39 : decode cX9_weighs 39 = .ok (.iload_n 2, 1) := by decide +kernel
theorem dX9_weighs_40 : decode cX9_weighs 40 = .ok (.putfield 142, 3) := by decide +kernel
theorem dX9_weighs_43 : decode cX9_weighs 43 = .ok (.aload_n 0, 1) := by decide +kernel
theorem dX9_weighs_44 : decode cX9_weighs 44 = .ok (.iload_n 1, 1) := by decide +kernel
theorem dX9_weighs_45 : decode cX9_weighs 45 = .ok (.putfield 145, 3) := by decide +kernel
theorem dX9_weighs_48 : decode cX9_weighs 48 = .ok (.return_, 1) := by decide +kernel
theorem dX9_finds_0 : decode cX9_finds 0 = .ok (.aload_n 0, 1) := by decide +kernel
theorem dX9_finds_1 : decode cX9_finds 1 = .ok (.bipush (-9), 2) := by decide +kernel
theorem dX9_finds_3 : decode cX9_finds 3 = .ok (.putfield 142, 3) := by decide +kernel
theorem dX9_finds_6 : decode cX9_finds 6 = .ok (.aload_n 0, 1) := by decide +kernel
theorem dX9_finds_7 : decode cX9_finds 7 = .ok (.iconst 0, 1) := by decide +kernel
theorem dX9_finds_8 : decode cX9_finds 8 = .ok (.putfield 145, 3) := by decide +kernel
theorem dX9_finds_11 : decode cX9_finds 11 = .ok (.aload_n 0, 1) := by decide +kernel
theorem dX9_finds_12 : decode cX9_finds 12 = .ok (.iload_n 1, 1) := by decide +kernel
theorem dX9_finds_13 : decode cX9_finds 13 = .ok (.iconst 2, 1) := by decide +kernel
theorem dX9_finds_14 : decode cX9_finds 14 = .ok (.invokevirtual 122, 3) := by decide +kernel
theorem dX9_finds_17 : decode cX9_finds 17 = .ok (.istore_n 2, 1) := by decide +kernel
theorem dX9_finds_18 : decode cX9_finds 18 = .ok (.aload_n 0, 1) := by decide +kernel
theorem dX9_finds_19 : decode cX9_finds 19 = .ok (.iload_n 1, 1) := by decide +kernel
theorem dX9_finds_20 : decode cX9_finds 20 = .ok (.iconst 1, 1) := by decide +kernel
theorem dX9_finds_21 : decode cX9_finds 21 = .ok (.invokevirtual 122, 3) := by decide +kernel
theorem dX9_finds_24 : decode cX9_finds 24 = .ok (.ifCond .ne 43, 3) := by decide +kernel
theorem dX9_finds_27 : decode cX9_finds 27 = .ok (.iconst 0, 1) := by decide +kernel
theorem dX9_finds_28 : decode cX9_finds 28 = .ok (.istore_n 3, 1) := by decide +kernel
theorem dX9_finds_29 : decode cX9_finds 29 = .ok (.iload_n 3, 1) := by decide +kernel
theorem dX9_finds_30 : decode cX9_finds 30 = .ok (.iload_n 2, 1) := by decide +kernel
theorem dX9_finds_31 : decode cX9_finds 31 = .ok (.iadd, 1) := by decide +kernel
theorem dX9_finds_32 : decode cX9_finds 32 = .ok (.iconst 1, 1) := by decide +kernel
theorem dX9_finds_33 : decode cX9_finds 33 = .ok (.isub, 1) := by decide +kernel
theorem dX9_finds_34 : decode cX9_finds 34 = .ok (.aload_n 0, 1) := by decide +kernel
theorem dX9_finds_35 : decode cX9_finds 35 = .ok (.iload_n 1, 1) := by decide +kernel
theorem dX9_finds_36 : decode cX9_finds 36 = .ok (.iconst 3, 1) := by decide +kernel
theorem dX9_finds_37 : decode cX9_finds 37 = .ok (.invokevirtual 122, 3) := by decide +kernel
theorem dX9_finds_40 : decode cX9_finds 40 = .ok (.if_icmp .gt 26, 3) := by decide +kernel
theorem dX9_finds_43 : decode cX9_finds 43 = .ok (.aload_n 0, 1) := by decide +kernel
theorem dX9_finds_44 : decode cX9_finds 44 = .ok (.iconst 1, 1) := by decide +kernel
theorem dX9_finds_45 : decode cX9_finds 45 = .ok (.iload_n 2, 1) := by decide +kernel
theorem dX9_finds_46 : decode cX9_finds 46 = .ok (.ishl, 1) := by decide +kernel
theorem dX9_finds_47 : decode cX9_finds 47 = .ok (.iconst 1, 1) := by decide +kernel
theorem dX9_finds_48 : decode cX9_finds 48 = .ok (.isub, 1) := by decide +kernel
theorem dX9_finds_49 : decode cX9_finds 49 = .ok (.iload_n 3, 1) := by decide +kernel
theorem dX9_finds_50 : decode cX9_finds 50 = .ok (.ishl, 1) := by decide +kernel
theorem dX9_finds_51 : decode cX9_finds 51 = .ok (.aload_n 0, 1) := by decide +kernel
theorem dX9_finds_52 : decode cX9_finds 52 = .ok (.iload_n 1, 1) := by decide +kernel
theorem dX9_finds_53 : decode cX9_finds 53 = .ok (.iload_n 3, 1) := by decide +kernel
theorem dX9_finds_54 : decode cX9_finds 54 = .ok (.invokevirtual 148, 3) := by decide +kernel
theorem dX9_finds_57 : decode cX9_finds 57 = .ok (.invokevirtual 151, 3) := by decide +kernel
theorem dX9_finds_60 : decode cX9_finds 60 = .ok (.iinc 3 1, 3) := by decide +kernel
theorem dX9_finds_63 : decode cX9_finds 63 = .ok (.goto (-34), 3) := by decide +kernel
theorem dX9_finds_66 : decode cX9_finds 66 = .ok (.return_, 1) := by decide +kernel
theorem dX9_finds_67 : decode cX9_finds 67 = .ok (.iconst 0, 1) := by decide +kernel
theorem dX9_finds_68 : decode cX9_finds 68 = .ok (.istore_n 3, 1) := by decide +kernel
theorem dX9_finds_69 : decode cX9_finds 69 = .ok (.iload_n 3, 1) := by decide +kernel
theorem dX9_finds_70 : decode cX9_finds 70 = .ok (.bipush 7, 2) := by decide +kernel
theorem dX9_finds_72 : decode cX9_finds 72 = .ok (.if_icmp .ge 97, 3) := by decide +kernel
theorem dX9_finds_75 : decode cX9_finds 75 = .ok (.aload_n 0, 1) := by decide +kernel
theorem dX9_finds_76 : decode cX9_finds 76 = .ok (.getfield 35, 3) := by decide +kernel
theorem dX9_finds_79 : decode cX9_finds 79 = .ok (.iload_n 3, 1) := by decide +kernel
theorem dX9_finds_80 : decode cX9_finds 80 = .ok (.bipush (-9), 2) := by decide +kernel
theorem dX9_finds_82 : decode cX9_finds 82 = .ok (.iastore, 1) := by decide +kernel
theorem dX9_finds_83 : decode cX9_finds 83 = .ok (.aload_n 0, 1) := by decide +kernel
theorem dX9_finds_84 : decode cX9_finds 84 = .ok (.getfield 38, 3) := by decide +kernel
theorem dX9_finds_87 : decode cX9_finds 87 = .ok (.iload_n 3, 1) := by decide +kernel
theorem dX9_finds_88 : decode cX9_finds 88 = .ok (.ldc 138, 2) := by decide +kernel
theorem dX9_finds_90 : decode cX9_finds 90 = .ok (.iastore, 1) := by decide +kernel
theorem dX9_finds_91 : decode cX9_finds 91 = .ok (.iconst 4, 1) := by decide +kernel
theorem dX9_finds_92 : decode cX9_finds 92 = .ok (.iload_n 3, 1) := by decide +kernel
theorem dX9_finds_93 : decode cX9_finds 93 = .ok (.imul, 1) := by decide +kernel
theorem dX9_finds_94 : decode cX9_finds 94 = .ok (.istore 4, 2) := by decide +kernel
theorem dX9_finds_96 : decode cX9_finds 96 = .ok (.iload 4, 2) := by decide +kernel
theorem dX9_finds_98 : decode cX9_finds 98 = .ok (.iconst 4, 1) := by decide +kernel
theorem dX9_finds_99 : decode cX9_finds 99 = .ok (.iload_n 3, 1) := by decide +kernel
theorem dX9_finds_100 : decode cX9_finds 100 = .ok (.imul, 1) := by decide +kernel
theorem dX9_finds_101 : decode cX9_finds 101 = .ok (.iconst 4, 1) := by decide +kernel
theorem dX9_finds_102 : decode cX9_finds 102 = .ok (.iadd, 1) := by decide +kernel
theorem dX9_finds_103 : decode cX9_finds 103 = .ok (.if_icmp .ge 60, 3) := by decide +kernel
theorem dX9_finds_106 : decode cX9_finds 106 = .ok (.iload 4, 2) := by decide +kernel
theorem dX9_finds_108 : decode cX9_finds 108 = .ok (.aload_n 0, 1) := by decide +kernel
theorem dX9_finds_109 : decode cX9_finds 109 = .ok (.iload_n 1, 1) := by decide +kernel
theorem dX9_finds_110 : decode cX9_finds 110 = .ok (.iconst 3, 1) := by decide +kernel
theorem dX9_finds_111 : decode cX9_finds 111 = .ok (.invokevirtual 122, 3) := by decide +kernel
theorem dX9_finds_114 : decode cX9_finds 114 = .ok (.if_icmp .gt 49, 3) := by decide +kernel
theorem dX9_finds_117 : decode cX9_finds 117 = .ok (.aload_n 0, 1) := by decide +kernel
theorem dX9_finds_118 : decode cX9_finds 118 = .ok (.iload_n 1, 1) := by decide +kernel
theorem dX9_finds_119 : decode cX9_finds 119 = .ok (.iload 4, 2) := by decide +kernel
theorem dX9_finds_121 : decode cX9_finds 121 = .ok (.invokevirtual 139, 3) := by decide +kernel
theorem dX9_finds_124 : decode cX9_finds 124 = .ok (.aload_n 0, 1) := by decide +kernel
theorem dX9_finds_125 : decode cX9_finds 125 = .ok (.getfield 38, 3) := by decide +kernel
theorem dX9_finds_128 : decode cX9_finds 128 = .ok (.iload_n 3, 1) := by decide +kernel
theorem dX9_finds_129 : decode cX9_finds 129 = .ok (.iaload, 1) := by decide +kernel
theorem dX9_finds_130 : decode cX9_finds 130 = .ok (.if_icmp .lt 6, 3) := by decide +kernel
theorem dX9_finds_133 : decode cX9_finds 133 = .ok (.goto 24, 3) := by decide +kernel
theorem dX9_finds_136 : decode cX9_finds 136 = .ok (.aload_n 0, 1) := by decide +kernel
theorem dX9_finds_137 : decode cX9_finds 137 = .ok (.getfield 35, 3) := by decide +kernel
theorem dX9_finds_140 : decode cX9_finds 140 = .ok (.iload_n 3, 1) := by decide +kernel
theorem dX9_finds_141 : decode cX9_finds 141 = .ok (.iload 4, 2) := by decide +kernel
theorem dX9_finds_143 : decode cX9_finds 143 = .ok (.iastore, 1) := by decide +kernel
theorem dX9_finds_144 : decode cX9_finds 144 = .ok (.aload_n 0, 1) := by decide +kernel
theorem dX9_finds_145 : decode cX9_finds 145 = .ok (.getfield 38, 3) := by decide +kernel
theorem dX9_finds_148 : decode cX9_finds 148 = .ok (.iload_n 3, 1) := by decide +kernel
theorem dX9_finds_149 : decode cX9_finds 149 = .ok (.aload_n 0, 1) := by decide +kernel
theorem dX9_finds_150 : decode cX9_finds 150 = .ok (.iload_n 1, 1) := by decide +kernel
theorem dX9_finds_151 : decode cX9_finds 151 = .ok (.iload 4, 2) := by decide +kernel
theorem dX9_finds_153 : decode cX9_finds 153 = .ok (.invokevirtual 139, 3) := by decide +kernel
theorem dX9_finds_156 : decode cX9_finds 156 = .ok (.iastore, 1) := by decide +kernel
theorem dX9_finds_157 : decode cX9_finds 157 = .ok (.iinc 4 1, 3) := by decide +kernel
theorem dX9_finds_160 : decode cX9_finds 160 = .ok (.goto (-64), 3) := by decide +kernel
theorem dX9_finds_163 : decode cX9_finds 163 = .ok (.iinc 3 1, 3) := by decide +kernel
theorem dX9_finds_166 : decode cX9_finds 166 = .ok (.goto (-97), 3) := by decide +kernel
theorem dX9_finds_169 : decode cX9_finds 169 = .ok (.iconst 0, 1) := by decide +kernel
theorem dX9_finds_170 : decode cX9_finds 170 = .ok (.istore_n 3, 1) := by decide +kernel
theorem dX9_finds_171 : decode cX9_finds 171 = .ok (.iload_n 3, 1) := by decide +kernel
theorem dX9_finds_172 : decode cX9_finds 172 = .ok (.sipush 128, 3) := by decide +kernel
theorem dX9_finds_175 : decode cX9_finds 175 = .ok (.if_icmp .ge 103, 3) := by decide +kernel
theorem dX9_finds_178 : decode cX9_finds 178 = .ok (.iconst 0, 1) := by decide +kernel
theorem dX9_finds_179 : decode cX9_finds 179 = .ok (.istore 4, 2) := by decide +kernel
theorem dX9_finds_181 : decode cX9_finds 181 = .ok (.iconst 0, 1) := by decide +kernel
theorem dX9_finds_182 : decode cX9_finds 182 = .ok (.istore 5, 2) := by decide +kernel
theorem dX9_finds_184 : decode cX9_finds 184 = .ok (.iconst 0, 1) := by decide +kernel
theorem dX9_finds_185 : decode cX9_finds 185 = .ok (.istore 6, 2) := by decide +kernel
theorem dX9_finds_187 : decode cX9_finds 187 = .ok (.iconst 0, 1) := by decide +kernel
theorem dX9_finds_188 : decode cX9_finds 188 = .ok (.istore 7, 2) := by decide +kernel
theorem dX9_finds_190 : decode cX9_finds 190 = .ok (.iload 7, 2) := by decide +kernel
theorem dX9_finds_192 : decode cX9_finds 192 = .ok (.bipush 7, 2) := by decide +kernel
theorem dX9_finds_194 : decode cX9_finds 194 = .ok (.if_icmp .ge 64, 3) := by decide +kernel
theorem dX9_finds_197 : decode cX9_finds 197 = .ok (.iload_n 3, 1) := by decide +kernel
theorem dX9_finds_198 : decode cX9_finds 198 = .ok (.iload 7, 2) := by decide +kernel
theorem dX9_finds_200 : decode cX9_finds 200 = .ok (.ishr, 1) := by decide +kernel
theorem dX9_finds_201 : decode cX9_finds 201 = .ok (.iconst 1, 1) := by decide +kernel
theorem dX9_finds_202 : decode cX9_finds 202 = .ok (.iand, 1) := by decide +kernel
theorem dX9_finds_203 : decode cX9_finds 203 = .ok (.ifCond .ne 6, 3) := by decide +kernel
theorem dX9_finds_206 : decode cX9_finds 206 = .ok (.goto 46, 3) := by decide +kernel
theorem dX9_finds_209 : decode cX9_finds 209 = .ok (.iinc 4 1, 3) := by decide +kernel
theorem dX9_finds_212 : decode cX9_finds 212 = .ok (.iload 6, 2) := by decide +kernel
theorem dX9_finds_214 : decode cX9_finds 214 = .ok (.aload_n 0, 1) := by decide +kernel
theorem dX9_finds_215 : decode cX9_finds 215 = .ok (.getfield 38, 3) := by decide +kernel
theorem dX9_finds_218 : decode cX9_finds 218 = .ok (.iload 7, 2) := by decide +kernel
theorem dX9_finds_220 : decode cX9_finds 220 = .ok (.iaload, 1) := by decide +kernel
theorem dX9_finds_221 : decode cX9_finds 221 = .ok (.iadd, 1) := by decide +kernel
theorem dX9_finds_222 : decode cX9_finds 222 = .ok (.istore 6, 2) := by decide +kernel
theorem dX9_finds_224 : decode cX9_finds 224 = .ok (.iload 5, 2) := by decide +kernel
theorem dX9_finds_226 : decode cX9_finds 226 = .ok (.aload_n 0, 1) := by decide +kernel
theorem dX9_finds_227 : decode cX9_finds 227 = .ok (.getfield 35, 3) := by decide +kernel
theorem dX9_finds_230 : decode cX9_finds 230 = .ok (.iload 7, 2) := by decide +kernel
theorem dX9_finds_232 : decode cX9_finds 232 = .ok (.iaload, 1) := by decide +kernel
theorem dX9_finds_233 : decode cX9_finds 233 = .ok (.ifCond .ge 7, 3) := by decide +kernel
theorem dX9_finds_236 : decode cX9_finds 236 = .ok (.iconst 0, 1) := by decide +kernel
theorem dX9_finds_237 : decode cX9_finds 237 = .ok (.goto 12, 3) := by decide +kernel
theorem dX9_finds_240 : decode cX9_finds 240 = .ok (.iconst 1, 1) := by decide +kernel
theorem dX9_finds_241 : decode cX9_finds 241 = .ok (.aload_n 0, 1) := by decide +kernel
theorem dX9_finds_242 : decode cX9_finds 242 = .ok (.getfield 35, 3) := by decide +kernel
theorem dX9_finds_245 : decode cX9_finds 245 = .ok (.iload 7, 2) := by decide +kernel
theorem dX9_finds_247 : decode cX9_finds 247 = .ok (.iaload, 1) := by decide +kernel
theorem dX9_finds_248 : decode cX9_finds 248 = .ok (.ishl, 1) := by decide +kernel
theorem dX9_finds_249 : decode cX9_finds 249 = .ok (.ior, 1) := by decide +kernel
theorem dX9_finds_250 : decode cX9_finds 250 = .ok (.istore 5, 2) := by decide +kernel
theorem dX9_finds_252 : decode cX9_finds 252 = .ok (.iinc 7 1, 3) := by decide +kernel
theorem dX9_finds_255 : decode cX9_finds 255 = .ok (.goto (-65), 3) := by decide +kernel
theorem dX9_finds_258 : decode cX9_finds 258 = .ok (.iload 4, 2) := by decide +kernel
theorem dX9_finds_260 : decode cX9_finds 260 = .ok (.iload_n 2, 1) := by decide +kernel
theorem dX9_finds_261 : decode cX9_finds 261 = .ok (.if_icmp .ne 11, 3) := by decide +kernel
theorem dX9_finds_264 : decode cX9_finds 264 = .ok (.aload_n 0, 1) := by decide +kernel
theorem dX9_finds_265 : decode cX9_finds 265 = .ok (.iload 5, 2) := by decide +kernel
theorem dX9_finds_267 : decode cX9_finds 267 = .ok (.iload 6, 2) := by decide +kernel
theorem dX9_finds_269 : decode cX9_finds 269 = .ok (.invokevirtual 151, 3) := by decide +kernel
theorem dX9_finds_272 : decode cX9_finds 272 = .ok (.iinc 3 1, 3) := by decide +kernel
theorem dX9_finds_275 : decode cX9_finds 275 = .ok (.goto (-104), 3) := by decide +kernel
theorem dX9_finds_278 : decode cX9_finds 278 = .ok (.return_, 1) := by decide +kernel
theorem dX9_costOf_0 : decode cX9_costOf 0 = .ok (.aload_n 0, 1) := by decide +kernel
theorem dX9_costOf_1 : decode cX9_costOf 1 = .ok (.iload_n 1, 1) := by decide +kernel
theorem dX9_costOf_2 : decode cX9_costOf 2 = .ok (.invokevirtual 155, 3) := by decide +kernel
theorem dX9_costOf_5 : decode cX9_costOf 5 = .ok (.aload_n 0, 1) := by decide +kernel
theorem dX9_costOf_6 : decode cX9_costOf 6 = .ok (.getfield 142, 3) := by decide +kernel
theorem dX9_costOf_9 : decode cX9_costOf 9 = .ok (.ireturn, 1) := by decide +kernel
theorem dX9_one_0 : decode cX9_one 0 = .ok (.aload_n 0, 1) := by decide +kernel
theorem dX9_one_1 : decode cX9_one 1 = .ok (.iload_n 1, 1) := by decide +kernel
theorem dX9_one_2 : decode cX9_one 2 = .ok (.invokevirtual 119, 3) := by decide +kernel
theorem dX9_one_5 : decode cX9_one 5 = .ok (.ifCond .ne 9, 3) := by decide +kernel
theorem dX9_one_8 : decode cX9_one 8 = .ok (.aload_n 0, 1) := by decide +kernel
theorem dX9_one_9 : decode cX9_one 9 = .ok (.iconst (-1), 1) := by decide +kernel
theorem dX9_one_10 : decode cX9_one 10 = .ok (.invokevirtual 54, 3) := by decide +kernel
theorem dX9_one_13 : decode cX9_one 13 = .ok (.ireturn, 1) := by decide +kernel
theorem dX9_one_14 : decode cX9_one 14 = .ok (.aload_n 0, 1) := by decide +kernel
theorem dX9_one_15 : decode cX9_one 15 = .ok (.iload_n 1, 1) := by decide +kernel
theorem dX9_one_16 : decode cX9_one 16 = .ok (.invokevirtual 155, 3) := by decide +kernel
theorem dX9_one_19 : decode cX9_one 19 = .ok (.aload_n 0, 1) := by decide +kernel
theorem dX9_one_20 : decode cX9_one 20 = .ok (.getfield 145, 3) := by decide +kernel
theorem dX9_one_23 : decode cX9_one 23 = .ok (.ireturn, 1) := by decide +kernel
theorem dX9_cost_0 : decode cX9_cost 0 = .ok (.aload_n 0, 1) := by decide +kernel
theorem dX9_cost_1 : decode cX9_cost 1 = .ok (.iload_n 1, 1) := by decide +kernel
theorem dX9_cost_2 : decode cX9_cost 2 = .ok (.invokevirtual 119, 3) := by decide +kernel
theorem dX9_cost_5 : decode cX9_cost 5 = .ok (.ifCond .eq 11, 3) := by decide +kernel
theorem dX9_cost_8 : decode cX9_cost 8 = .ok (.aload_n 0, 1) := by decide +kernel
theorem dX9_cost_9 : decode cX9_cost 9 = .ok (.iload_n 1, 1) := by decide +kernel
theorem dX9_cost_10 : decode cX9_cost 10 = .ok (.invokevirtual 159, 3) := by decide +kernel
theorem dX9_cost_13 : decode cX9_cost 13 = .ok (.goto 8, 3) := by decide +kernel
theorem dX9_cost_16 : decode cX9_cost 16 = .ok (.aload_n 0, 1) := by decide +kernel
theorem dX9_cost_17 : decode cX9_cost 17 = .ok (.iconst (-1), 1) := by decide +kernel
theorem dX9_cost_18 : decode cX9_cost 18 = .ok (.invokevirtual 54, 3) := by decide +kernel
theorem dX9_cost_21 : decode cX9_cost 21 = .ok (.ireturn, 1) := by decide +kernel
theorem dX9_netBy_0 : decode cX9_netBy 0 = .ok (.aload_n 0, 1) := by decide +kernel
theorem dX9_netBy_1 : decode cX9_netBy 1 = .ok (.iload_n 1, 1) := by decide +kernel
theorem dX9_netBy_2 : decode cX9_netBy 2 = .ok (.invokevirtual 159, 3) := by decide +kernel
theorem dX9_netBy_5 : decode cX9_netBy 5 = .ok (.istore_n 3, 1) := by decide +kernel
theorem dX9_netBy_6 : decode cX9_netBy 6 = .ok (.iload_n 3, 1) := by decide +kernel
theorem dX9_netBy_7 : decode cX9_netBy 7 = .ok (.ifCond .lt 8, 3) := by decide +kernel
theorem dX9_netBy_10 : decode cX9_netBy 10 = .ok (.iload_n 2, 1) := by decide +kernel
theorem dX9_netBy_11 : decode cX9_netBy 11 = .ok (.iload_n 3, 1) := by decide +kernel
theorem dX9_netBy_12 : decode cX9_netBy 12 = .ok (.if_icmp .ge 8, 3) := by decide +kernel
theorem dX9_netBy_15 : decode cX9_netBy 15 = .ok (.bipush (-9), 2) := by decide +kernel
theorem dX9_netBy_17 : decode cX9_netBy 17 = .ok (.goto 6, 3) := by decide +kernel
theorem dX9_netBy_20 : decode cX9_netBy 20 = .ok (.iload_n 2, 1) := by decide +kernel
theorem dX9_netBy_21 : decode cX9_netBy 21 = .ok (.iload_n 3, 1) := by decide +kernel
theorem dX9_netBy_22 : decode cX9_netBy 22 = .ok (.isub, 1) := by decide +kernel
theorem dX9_netBy_23 : decode cX9_netBy 23 = .ok (.ireturn, 1) := by decide +kernel
theorem dX9_netOf_0 : decode cX9_netOf 0 = .ok (.aload_n 0, 1) := by decide +kernel
theorem dX9_netOf_1 : decode cX9_netOf 1 = .ok (.iload_n 1, 1) := by decide +kernel
theorem dX9_netOf_2 : decode cX9_netOf 2 = .ok (.aload_n 0, 1) := by decide +kernel
theorem dX9_netOf_3 : decode cX9_netOf 3 = .ok (.iload_n 1, 1) := by decide +kernel
theorem dX9_netOf_4 : decode cX9_netOf 4 = .ok (.iconst 4, 1) := by decide +kernel
theorem dX9_netOf_5 : decode cX9_netOf 5 = .ok (.invokevirtual 122, 3) := by decide +kernel
theorem dX9_netOf_8 : decode cX9_netOf 8 = .ok (.invokevirtual 162, 3) := by decide +kernel
theorem dX9_netOf_11 : decode cX9_netOf 11 = .ok (.ireturn, 1) := by decide +kernel
theorem dX9_net_0 : decode cX9_net 0 = .ok (.aload_n 0, 1) := by decide +kernel
theorem dX9_net_1 : decode cX9_net 1 = .ok (.iload_n 1, 1) := by decide +kernel
theorem dX9_net_2 : decode cX9_net 2 = .ok (.invokevirtual 119, 3) := by decide +kernel
theorem dX9_net_5 : decode cX9_net 5 = .ok (.ifCond .eq 11, 3) := by decide +kernel
theorem dX9_net_8 : decode cX9_net 8 = .ok (.aload_n 0, 1) := by decide +kernel
theorem dX9_net_9 : decode cX9_net 9 = .ok (.iload_n 1, 1) := by decide +kernel
theorem dX9_net_10 : decode cX9_net 10 = .ok (.invokevirtual 165, 3) := by decide +kernel
theorem dX9_net_13 : decode cX9_net 13 = .ok (.goto 8, 3) := by decide +kernel
theorem dX9_net_16 : decode cX9_net 16 = .ok (.aload_n 0, 1) := by decide +kernel
theorem dX9_net_17 : decode cX9_net 17 = .ok (.iconst (-1), 1) := by decide +kernel
theorem dX9_net_18 : decode cX9_net 18 = .ok (.invokevirtual 54, 3) := by decide +kernel
theorem dX9_net_21 : decode cX9_net 21 = .ok (.ireturn, 1) := by decide +kernel
theorem dX9_bars_0 : decode cX9_bars 0 = .ok (.aload_n 0, 1) := by decide +kernel
theorem dX9_bars_1 : decode cX9_bars 1 = .ok (.iload_n 1, 1) := by decide +kernel
theorem dX9_bars_2 : decode cX9_bars 2 = .ok (.invokevirtual 119, 3) := by decide +kernel
theorem dX9_bars_5 : decode cX9_bars 5 = .ok (.ifCond .ne 9, 3) := by decide +kernel
theorem dX9_bars_8 : decode cX9_bars 8 = .ok (.aload_n 0, 1) := by decide +kernel
theorem dX9_bars_9 : decode cX9_bars 9 = .ok (.iconst (-1), 1) := by decide +kernel
theorem dX9_bars_10 : decode cX9_bars 10 = .ok (.invokevirtual 54, 3) := by decide +kernel
theorem dX9_bars_13 : decode cX9_bars 13 = .ok (.ireturn, 1) := by decide +kernel
theorem dX9_bars_14 : decode cX9_bars 14 = .ok (.aload_n 0, 1) := by decide +kernel
theorem dX9_bars_15 : decode cX9_bars 15 = .ok (.iload_n 1, 1) := by decide +kernel
theorem dX9_bars_16 : decode cX9_bars 16 = .ok (.invokevirtual 159, 3) := by decide +kernel
theorem dX9_bars_19 : decode cX9_bars 19 = .ok (.ifCond .lt 10, 3) := by decide +kernel
theorem dX9_bars_22 : decode cX9_bars 22 = .ok (.aload_n 0, 1) := by decide +kernel
theorem dX9_bars_23 : decode cX9_bars 23 = .ok (.bipush (-3), 2) := by decide +kernel
theorem dX9_bars_25 : decode cX9_bars 25 = .ok (.invokevirtual 54, 3) := by decide +kernel
theorem dX9_bars_28 : decode cX9_bars 28 = .ok (.ireturn, 1) := by decide +kernel
theorem dX9_bars_29 : decode cX9_bars 29 = .ok (.iconst 0, 1) := by decide +kernel
theorem dX9_bars_30 : decode cX9_bars 30 = .ok (.istore_n 2, 1) := by decide +kernel
theorem dX9_bars_31 : decode cX9_bars 31 = .ok (.iconst 0, 1) := by decide +kernel
theorem dX9_bars_32 : decode cX9_bars 32 = .ok (.istore_n 3, 1) := by decide +kernel
theorem dX9_bars_33 : decode cX9_bars 33 = .ok (.iload_n 3, 1) := by decide +kernel
theorem dX9_bars_34 : decode cX9_bars 34 = .ok (.aload_n 0, 1) := by decide +kernel
theorem dX9_bars_35 : decode cX9_bars 35 = .ok (.getfield 13, 3) := by decide +kernel
theorem dX9_bars_38 : decode cX9_bars 38 = .ok (.iconst 0, 1) := by decide +kernel
theorem dX9_bars_39 : decode cX9_bars 39 = .ok (.iaload, 1) := by decide +kernel
theorem dX9_bars_40 : decode cX9_bars 40 = .ok (.if_icmp .ge 32, 3) := by decide +kernel
theorem dX9_bars_43 : decode cX9_bars 43 = .ok (.aload_n 0, 1) := by decide +kernel
theorem dX9_bars_44 : decode cX9_bars 44 = .ok (.iload_n 3, 1) := by decide +kernel
theorem dX9_bars_45 : decode cX9_bars 45 = .ok (.putfield 31, 3) := by decide +kernel
theorem dX9_bars_48 : decode cX9_bars 48 = .ok (.iload_n 2, 1) := by decide +kernel
theorem dX9_bars_49 : decode cX9_bars 49 = .ok (.aload_n 0, 1) := by decide +kernel
theorem dX9_bars_50 : decode cX9_bars 50 = .ok (.iload_n 1, 1) := by decide +kernel
theorem dX9_bars_51 : decode cX9_bars 51 = .ok (.invokevirtual 159, 3) := by decide +kernel
theorem dX9_bars_54 : decode cX9_bars 54 = .ok (.ifCond .lt 9, 3) := by decide +kernel
theorem dX9_bars_57 : decode cX9_bars 57 = .ok (.iconst 1, 1) := by decide +kernel
theorem dX9_bars_58 : decode cX9_bars 58 = .ok (.iload_n 3, 1) := by decide +kernel
theorem dX9_bars_59 : decode cX9_bars 59 = .ok (.ishl, 1) := by decide +kernel
theorem dX9_bars_60 : decode cX9_bars 60 = .ok (.goto 4, 3) := by decide +kernel
theorem dX9_bars_63 : decode cX9_bars 63 = .ok (.iconst 0, 1) := by decide +kernel
theorem dX9_bars_64 : decode cX9_bars 64 = .ok (.ior, 1) := by decide +kernel
theorem dX9_bars_65 : decode cX9_bars 65 = .ok (.istore_n 2, 1) := by decide +kernel
theorem dX9_bars_66 : decode cX9_bars 66 = .ok (.iinc 3 1, 3) := by decide +kernel
theorem dX9_bars_69 : decode cX9_bars 69 = .ok (.goto (-36), 3) := by decide +kernel
theorem dX9_bars_72 : decode cX9_bars 72 = .ok (.aload_n 0, 1) := by decide +kernel
theorem dX9_bars_73 : decode cX9_bars 73 = .ok (.bipush (-9), 2) := by decide +kernel
theorem dX9_bars_75 : decode cX9_bars 75 = .ok (.putfield 31, 3) := by decide +kernel
theorem dX9_bars_78 : decode cX9_bars 78 = .ok (.iload_n 2, 1) := by decide +kernel
theorem dX9_bars_79 : decode cX9_bars 79 = .ok (.ireturn, 1) := by decide +kernel
theorem dX9_ways_0 : decode cX9_ways 0 = .ok (.iload_n 1, 1) := by decide +kernel
theorem dX9_ways_1 : decode cX9_ways 1 = .ok (.aload_n 0, 1) := by decide +kernel
theorem dX9_ways_2 : decode cX9_ways 2 = .ok (.getfield 13, 3) := by decide +kernel
theorem dX9_ways_5 : decode cX9_ways 5 = .ok (.iconst 1, 1) := by decide +kernel
theorem dX9_ways_6 : decode cX9_ways 6 = .ok (.iaload, 1) := by decide +kernel
theorem dX9_ways_7 : decode cX9_ways 7 = .ok (.if_icmp .ne 59, 3) := by decide +kernel
theorem dX9_ways_10 : decode cX9_ways 10 = .ok (.iload_n 3, 1) := by decide +kernel
theorem dX9_ways_11 : decode cX9_ways 11 = .ok (.aload_n 0, 1) := by decide +kernel
theorem dX9_ways_12 : decode cX9_ways 12 = .ok (.getfield 168, 3) := by decide +kernel
theorem dX9_ways_15 : decode cX9_ways 15 = .ok (.if_icmp .gt 4, 3) := by decide +kernel
theorem dX9_ways_18 : decode cX9_ways 18 = .ok (.return_, 1) := by decide +kernel
theorem dX9_ways_19 : decode cX9_ways 19 = .ok (.aload_n 0, 1) := by decide +kernel
theorem dX9_ways_20 : decode cX9_ways 20 = .ok (.iload_n 3, 1) := by decide +kernel
theorem dX9_ways_21 : decode cX9_ways 21 = .ok (.putfield 168, 3) := by decide +kernel
theorem dX9_ways_24 : decode cX9_ways 24 = .ok (.iconst 0, 1) := by decide +kernel
theorem dX9_ways_25 : decode cX9_ways 25 = .ok (.istore 4, 2) := by decide +kernel
theorem dX9_ways_27 : decode cX9_ways 27 = .ok (.iload 4, 2) := by decide +kernel
theorem dX9_ways_29 : decode cX9_ways 29 = .ok (.bipush 6, 2) := by decide +kernel
theorem dX9_ways_31 : decode cX9_ways 31 = .ok (.if_icmp .ge 34, 3) := by decide +kernel
theorem dX9_ways_34 : decode cX9_ways 34 = .ok (.aload_n 0, 1) := by decide +kernel
theorem dX9_ways_35 : decode cX9_ways 35 = .ok (.getfield 44, 3) := by decide +kernel
theorem dX9_ways_38 : decode cX9_ways 38 = .ok (.iload 4, 2) := by decide +kernel
theorem dX9_ways_40 : decode cX9_ways 40 = .ok (.iload 4, 2) := by decide +kernel
theorem dX9_ways_42 : decode cX9_ways 42 = .ok (.iload_n 1, 1) := by decide +kernel
theorem dX9_ways_43 : decode cX9_ways 43 = .ok (.if_icmp .ge 13, 3) := by decide +kernel
theorem dX9_ways_46 : decode cX9_ways 46 = .ok (.aload_n 0, 1) := by decide +kernel
theorem dX9_ways_47 : decode cX9_ways 47 = .ok (.getfield 41, 3) := by decide +kernel
theorem dX9_ways_50 : decode cX9_ways 50 = .ok (.iload 4, 2) := by decide +kernel
theorem dX9_ways_52 : decode cX9_ways 52 = .ok (.iaload, 1) := by decide +kernel
theorem dX9_ways_53 : decode cX9_ways 53 = .ok (.goto 5, 3) := by decide +kernel
theorem dX9_ways_56 : decode cX9_ways 56 = .ok (.bipush (-9), 2) := by decide +kernel
theorem dX9_ways_58 : decode cX9_ways 58 = .ok (.iastore, 1) := by decide +kernel
theorem dX9_ways_59 : decode cX9_ways 59 = .ok (.iinc 4 1, 3) := by decide +kernel
theorem dX9_ways_62 : decode cX9_ways 62 = .ok (.goto (-35), 3) := by decide +kernel
theorem dX9_ways_65 : decode cX9_ways 65 = .ok (.return_, 1) := by decide +kernel
theorem dX9_ways_66 : decode cX9_ways 66 = .ok (.aload_n 0, 1) := by decide +kernel
theorem dX9_ways_67 : decode cX9_ways 67 = .ok (.getfield 41, 3) := by decide +kernel
theorem dX9_ways_70 : decode cX9_ways 70 = .ok (.iload_n 1, 1) := by decide +kernel
theorem dX9_ways_71 : decode cX9_ways 71 = .ok (.bipush (-9), 2) := by decide +kernel
theorem dX9_ways_73 : decode cX9_ways 73 = .ok (.iastore, 1) := by decide +kernel
theorem dX9_ways_74 : decode cX9_ways 74 = .ok (.aload_n 0, 1) := by decide +kernel
theorem dX9_ways_75 : decode cX9_ways 75 = .ok (.iload_n 1, 1) := by decide +kernel
theorem dX9_ways_76 : decode cX9_ways 76 = .ok (.iconst 1, 1) := by decide +kernel
theorem dX9_ways_77 : decode cX9_ways 77 = .ok (.iadd, 1) := by decide +kernel
theorem dX9_ways_78 : decode cX9_ways 78 = .ok (.iload_n 2, 1) := by decide +kernel
theorem dX9_ways_79 : decode cX9_ways 79 = .ok (.iload_n 3, 1) := by decide +kernel
theorem dX9_ways_80 : decode cX9_ways 80 = .ok (.invokevirtual 171, 3) := by decide +kernel
theorem dX9_ways_83 : decode cX9_ways 83 = .ok (.aload_n 0, 1) := by decide +kernel
theorem dX9_ways_84 : decode cX9_ways 84 = .ok (.iload_n 1, 1) := by decide +kernel
theorem dX9_ways_85 : decode cX9_ways 85 = .ok (.iconst 1, 1) := by decide +kernel
theorem dX9_ways_86 : decode cX9_ways 86 = .ok (.invokevirtual 122, 3) := by decide +kernel
theorem dX9_ways_89 : decode cX9_ways 89 = .ok (.iconst 1, 1) := by decide +kernel
theorem dX9_ways_90 : decode cX9_ways 90 = .ok (.if_icmp .ne 4, 3) := by decide +kernel
theorem dX9_ways_93 : decode cX9_ways 93 = .ok (.return_, 1) := by decide +kernel
theorem dX9_ways_94 : decode cX9_ways 94 = .ok (.aload_n 0, 1) := by decide +kernel
theorem dX9_ways_95 : decode cX9_ways 95 = .ok (.iload_n 1, 1) := by decide +kernel
theorem dX9_ways_96 : decode cX9_ways 96 = .ok (.iconst 2, 1) := by decide +kernel
theorem dX9_ways_97 : decode cX9_ways 97 = .ok (.invokevirtual 122, 3) := by decide +kernel
theorem dX9_ways_100 : decode cX9_ways 100 = .ok (.istore 4, 2) := by decide +kernel
theorem dX9_ways_102 : decode cX9_ways 102 = .ok (.iconst 0, 1) := by decide +kernel
theorem dX9_ways_103 : decode cX9_ways 103 = .ok (.istore 5, 2) := by decide +kernel
theorem dX9_ways_105 : decode cX9_ways 105 = .ok (.iload 5, 2) := by decide +kernel
theorem dX9_ways_107 : decode cX9_ways 107 = .ok (.iload 4, 2) := by decide +kernel
theorem dX9_ways_109 : decode cX9_ways 109 = .ok (.iadd, 1) := by decide +kernel
theorem dX9_ways_110 : decode cX9_ways 110 = .ok (.iconst 1, 1) := by decide +kernel
theorem dX9_ways_111 : decode cX9_ways 111 = .ok (.isub, 1) := by decide +kernel
theorem dX9_ways_112 : decode cX9_ways 112 = .ok (.aload_n 0, 1) := by decide +kernel
theorem dX9_ways_113 : decode cX9_ways 113 = .ok (.iload_n 1, 1) := by decide +kernel
theorem dX9_ways_114 : decode cX9_ways 114 = .ok (.iconst 3, 1) := by decide +kernel
theorem dX9_ways_115 : decode cX9_ways 115 = .ok (.invokevirtual 122, 3) := by decide +kernel
theorem dX9_ways_118 : decode cX9_ways 118 = .ok (.if_icmp .gt 77, 3) := by decide +kernel
theorem dX9_ways_121 : decode cX9_ways 121 = .ok (.iconst 1, 1) := by decide +kernel
theorem dX9_ways_122 : decode cX9_ways 122 = .ok (.iload 4, 2) := by decide +kernel
theorem dX9_ways_124 : decode cX9_ways 124 = .ok (.ishl, 1) := by decide +kernel
theorem dX9_ways_125 : decode cX9_ways 125 = .ok (.iconst 1, 1) := by decide +kernel
theorem dX9_ways_126 : decode cX9_ways 126 = .ok (.isub, 1) := by decide +kernel
theorem dX9_ways_127 : decode cX9_ways 127 = .ok (.iload 5, 2) := by decide +kernel
theorem dX9_ways_129 : decode cX9_ways 129 = .ok (.ishl, 1) := by decide +kernel
theorem dX9_ways_130 : decode cX9_ways 130 = .ok (.istore 6, 2) := by decide +kernel
theorem dX9_ways_132 : decode cX9_ways 132 = .ok (.iload 6, 2) := by decide +kernel
theorem dX9_ways_134 : decode cX9_ways 134 = .ok (.iload_n 2, 1) := by decide +kernel
theorem dX9_ways_135 : decode cX9_ways 135 = .ok (.iand, 1) := by decide +kernel
theorem dX9_ways_136 : decode cX9_ways 136 = .ok (.ifCond .ne 53, 3) := by decide +kernel
theorem dX9_ways_139 : decode cX9_ways 139 = .ok (.aload_n 0, 1) := by decide +kernel
theorem dX9_ways_140 : decode cX9_ways 140 = .ok (.iload_n 1, 1) := by decide +kernel
theorem dX9_ways_141 : decode cX9_ways 141 = .ok (.iload 5, 2) := by decide +kernel
theorem dX9_ways_143 : decode cX9_ways 143 = .ok (.invokevirtual 148, 3) := by decide +kernel
theorem dX9_ways_146 : decode cX9_ways 146 = .ok (.ldc 138, 2) := by decide +kernel
theorem dX9_ways_148 : decode cX9_ways 148 = .ok (.if_icmp .lt 6, 3) := by decide +kernel
theorem dX9_ways_151 : decode cX9_ways 151 = .ok (.goto 38, 3) := by decide +kernel
theorem dX9_ways_154 : decode cX9_ways 154 = .ok (.aload_n 0, 1) := by decide +kernel
theorem dX9_ways_155 : decode cX9_ways 155 = .ok (.getfield 41, 3) := by decide +kernel
theorem dX9_ways_158 : decode cX9_ways 158 = .ok (.iload_n 1, 1) := by decide +kernel
theorem dX9_ways_159 : decode cX9_ways 159 = .ok (.iload 5, 2) := by decide +kernel
theorem dX9_ways_161 : decode cX9_ways 161 = .ok (.iastore, 1) := by decide +kernel
theorem dX9_ways_162 : decode cX9_ways 162 = .ok (.aload_n 0, 1) := by decide +kernel
theorem dX9_ways_163 : decode cX9_ways 163 = .ok (.iload_n 1, 1) := by decide +kernel
theorem dX9_ways_164 : decode cX9_ways 164 = .ok (.iconst 1, 1) := by decide +kernel
theorem dX9_ways_165 : decode cX9_ways 165 = .ok (.iadd, 1) := by decide +kernel
theorem dX9_ways_166 : decode cX9_ways 166 = .ok (.iload_n 2, 1) := by decide +kernel
theorem dX9_ways_167 : decode cX9_ways 167 = .ok (.iload 6, 2) := by decide +kernel
theorem dX9_ways_169 : decode cX9_ways 169 = .ok (.ior, 1) := by decide +kernel
theorem dX9_ways_170 : decode cX9_ways 170 = .ok (.iload_n 3, 1) := by decide +kernel
theorem dX9_ways_171 : decode cX9_ways 171 = .ok (.aload_n 0, 1) := by decide +kernel
theorem dX9_ways_172 : decode cX9_ways 172 = .ok (.iload_n 1, 1) := by decide +kernel
theorem dX9_ways_173 : decode cX9_ways 173 = .ok (.iconst 4, 1) := by decide +kernel
theorem dX9_ways_174 : decode cX9_ways 174 = .ok (.invokevirtual 122, 3) := by decide +kernel
theorem dX9_ways_177 : decode cX9_ways 177 = .ok (.iadd, 1) := by decide +kernel
theorem dX9_ways_178 : decode cX9_ways 178 = .ok (.aload_n 0, 1) := by decide +kernel
theorem dX9_ways_179 : decode cX9_ways 179 = .ok (.iload_n 1, 1) := by decide +kernel
theorem dX9_ways_180 : decode cX9_ways 180 = .ok (.iload 5, 2) := by decide +kernel
theorem dX9_ways_182 : decode cX9_ways 182 = .ok (.invokevirtual 148, 3) := by decide +kernel
theorem dX9_ways_185 : decode cX9_ways 185 = .ok (.isub, 1) := by decide +kernel
theorem dX9_ways_186 : decode cX9_ways 186 = .ok (.invokevirtual 171, 3) := by decide +kernel
theorem dX9_ways_189 : decode cX9_ways 189 = .ok (.iinc 5 1, 3) := by decide +kernel
theorem dX9_ways_192 : decode cX9_ways 192 = .ok (.goto (-87), 3) := by decide +kernel
theorem dX9_ways_195 : decode cX9_ways 195 = .ok (.return_, 1) := by decide +kernel
theorem dX9_areFew_0 : decode cX9_areFew 0 = .ok (.iconst 0, 1) := by decide +kernel
theorem dX9_areFew_1 : decode cX9_areFew 1 = .ok (.istore_n 1, 1) := by decide +kernel
theorem dX9_areFew_2 : decode cX9_areFew 2 = .ok (.iconst 0, 1) := by decide +kernel
theorem dX9_areFew_3 : decode cX9_areFew 3 = .ok (.istore_n 2, 1) := by decide +kernel
theorem dX9_areFew_4 : decode cX9_areFew 4 = .ok (.iload_n 2, 1) := by decide +kernel
theorem dX9_areFew_5 : decode cX9_areFew 5 = .ok (.aload_n 0, 1) := by decide +kernel
theorem dX9_areFew_6 : decode cX9_areFew 6 = .ok (.getfield 13, 3) := by decide +kernel
theorem dX9_areFew_9 : decode cX9_areFew 9 = .ok (.iconst 1, 1) := by decide +kernel
theorem dX9_areFew_10 : decode cX9_areFew 10 = .ok (.iaload, 1) := by decide +kernel
theorem dX9_areFew_11 : decode cX9_areFew 11 = .ok (.if_icmp .ge 20, 3) := by decide +kernel
theorem dX9_areFew_14 : decode cX9_areFew 14 = .ok (.iload_n 1, 1) := by decide +kernel
theorem dX9_areFew_15 : decode cX9_areFew 15 = .ok (.iconst 1, 1) := by decide +kernel
theorem dX9_areFew_16 : decode cX9_areFew 16 = .ok (.aload_n 0, 1) := by decide +kernel
theorem dX9_areFew_17 : decode cX9_areFew 17 = .ok (.iload_n 2, 1) := by decide +kernel
theorem dX9_areFew_18 : decode cX9_areFew 18 = .ok (.iconst 1, 1) := by decide +kernel
theorem dX9_areFew_19 : decode cX9_areFew 19 = .ok (.invokevirtual 122, 3) := by decide +kernel
theorem dX9_areFew_22 : decode cX9_areFew 22 = .ok (.isub, 1) := by decide +kernel
theorem dX9_areFew_23 : decode cX9_areFew 23 = .ok (.iadd, 1) := by decide +kernel
theorem dX9_areFew_24 : decode cX9_areFew 24 = .ok (.istore_n 1, 1) := by decide +kernel
theorem dX9_areFew_25 : decode cX9_areFew 25 = .ok (.iinc 2 1, 3) := by decide +kernel
theorem dX9_areFew_28 : decode cX9_areFew 28 = .ok (.goto (-24), 3) := by decide +kernel
theorem dX9_areFew_31 : decode cX9_areFew 31 = .ok (.iload_n 1, 1) := by decide +kernel
theorem dX9_areFew_32 : decode cX9_areFew 32 = .ok (.iconst 3, 1) := by decide +kernel
theorem dX9_areFew_33 : decode cX9_areFew 33 = .ok (.if_icmp .gt 7, 3) := by decide +kernel
theorem dX9_areFew_36 : decode cX9_areFew 36 = .ok (.iconst 1, 1) := by decide +kernel
theorem dX9_areFew_37 : decode cX9_areFew 37 = .ok (.goto 4, 3) := by decide +kernel
theorem dX9_areFew_40 : decode cX9_areFew 40 = .ok (.iconst 0, 1) := by decide +kernel
theorem dX9_areFew_41 : decode cX9_areFew 41 = .ok (.ireturn, 1) := by decide +kernel
theorem dX9_findsAll_0 : decode cX9_findsAll 0 = .ok (.aload_n 0, 1) := by decide +kernel
theorem dX9_findsAll_1 : decode cX9_findsAll 1 = .ok (.ldc 175, 2) := by decide +kernel
theorem dX9_findsAll_3 : decode cX9_findsAll 3 = .ok (.putfield 168, 3) := by decide +kernel
theorem dX9_findsAll_6 : decode cX9_findsAll 6 = .ok (.aload_n 0, 1) := by decide +kernel
theorem dX9_findsAll_7 : decode cX9_findsAll 7 = .ok (.iconst 0, 1) := by decide +kernel
theorem dX9_findsAll_8 : decode cX9_findsAll 8 = .ok (.iconst 0, 1) := by decide +kernel
theorem dX9_findsAll_9 : decode cX9_findsAll 9 = .ok (.iconst 0, 1) := by decide +kernel
theorem dX9_findsAll_10 : decode cX9_findsAll 10 = .ok (.invokevirtual 171, 3) := by decide +kernel
theorem dX9_findsAll_13 : decode cX9_findsAll 13 = .ok (.return_, 1) := by decide +kernel
theorem dX9_all_0 : decode cX9_all 0 = .ok (.aload_n 0, 1) := by decide +kernel
theorem dX9_all_1 : decode cX9_all 1 = .ok (.invokevirtual 176, 3) := by decide +kernel
theorem dX9_all_4 : decode cX9_all 4 = .ok (.ifCond .ne 10, 3) := by decide +kernel
theorem dX9_all_7 : decode cX9_all 7 = .ok (.aload_n 0, 1) := by decide +kernel
theorem dX9_all_8 : decode cX9_all 8 = .ok (.bipush (-6), 2) := by decide +kernel
theorem dX9_all_10 : decode cX9_all 10 = .ok (.invokevirtual 54, 3) := by decide +kernel
theorem dX9_all_13 : decode cX9_all 13 = .ok (.ireturn, 1) := by decide +kernel
theorem dX9_all_14 : decode cX9_all 14 = .ok (.aload_n 0, 1) := by decide +kernel
theorem dX9_all_15 : decode cX9_all 15 = .ok (.invokevirtual 179, 3) := by decide +kernel
theorem dX9_all_18 : decode cX9_all 18 = .ok (.aload_n 0, 1) := by decide +kernel
theorem dX9_all_19 : decode cX9_all 19 = .ok (.getfield 168, 3) := by decide +kernel
theorem dX9_all_22 : decode cX9_all 22 = .ok (.ireturn, 1) := by decide +kernel
theorem dX9_begin_0 : decode cX9_begin 0 = .ok (.aload_n 0, 1) := by decide +kernel
theorem dX9_begin_1 : decode cX9_begin 1 = .ok (.iload_n 1, 1) := by decide +kernel
theorem dX9_begin_2 : decode cX9_begin 2 = .ok (.invokevirtual 119, 3) := by decide +kernel
theorem dX9_begin_5 : decode cX9_begin 5 = .ok (.ifCond .ne 7, 3) := by decide +kernel
theorem dX9_begin_8 : decode cX9_begin 8 = .ok (.iconst (-1), 1) := by decide +kernel
theorem dX9_begin_9 : decode cX9_begin 9 = .ok (.goto 16, 3) := by decide +kernel
theorem dX9_begin_12 : decode cX9_begin 12 = .ok (.aload_n 0, 1) := by decide +kernel
theorem dX9_begin_13 : decode cX9_begin 13 = .ok (.invokevirtual 176, 3) := by decide +kernel
theorem dX9_begin_16 : decode cX9_begin 16 = .ok (.ifCond .eq 7, 3) := by decide +kernel
theorem dX9_begin_19 : decode cX9_begin 19 = .ok (.iconst 0, 1) := by decide +kernel
theorem dX9_begin_20 : decode cX9_begin 20 = .ok (.goto 5, 3) := by decide +kernel
theorem dX9_begin_23 : decode cX9_begin 23 = .ok (.bipush (-6), 2) := by decide +kernel
theorem dX9_begin_25 : decode cX9_begin 25 = .ok (.istore_n 2, 1) := by decide +kernel
theorem dX9_begin_26 : decode cX9_begin 26 = .ok (.iload_n 2, 1) := by decide +kernel
theorem dX9_begin_27 : decode cX9_begin 27 = .ok (.ifCond .eq 9, 3) := by decide +kernel
theorem dX9_begin_30 : decode cX9_begin 30 = .ok (.aload_n 0, 1) := by decide +kernel
theorem dX9_begin_31 : decode cX9_begin 31 = .ok (.iload_n 2, 1) := by decide +kernel
theorem dX9_begin_32 : decode cX9_begin 32 = .ok (.invokevirtual 54, 3) := by decide +kernel
theorem dX9_begin_35 : decode cX9_begin 35 = .ok (.ireturn, 1) := by decide +kernel
theorem dX9_begin_36 : decode cX9_begin 36 = .ok (.aload_n 0, 1) := by decide +kernel
theorem dX9_begin_37 : decode cX9_begin 37 = .ok (.invokevirtual 179, 3) := by decide +kernel
theorem dX9_begin_40 : decode cX9_begin 40 = .ok (.aload_n 0, 1) := by decide +kernel
theorem dX9_begin_41 : decode cX9_begin 41 = .ok (.getfield 44, 3) := by decide +kernel
theorem dX9_begin_44 : decode cX9_begin 44 = .ok (.iload_n 1, 1) := by decide +kernel
theorem dX9_begin_45 : decode cX9_begin 45 = .ok (.iaload, 1) := by decide +kernel
theorem dX9_begin_46 : decode cX9_begin 46 = .ok (.ireturn, 1) := by decide +kernel
theorem dX9_incomeOf_0 : decode cX9_incomeOf 0 = .ok (.iconst 0, 1) := by decide +kernel
theorem dX9_incomeOf_1 : decode cX9_incomeOf 1 = .ok (.istore_n 2, 1) := by decide +kernel
theorem dX9_incomeOf_2 : decode cX9_incomeOf 2 = .ok (.iconst 0, 1) := by decide +kernel
theorem dX9_incomeOf_3 : decode cX9_incomeOf 3 = .ok (.istore_n 3, 1) := by decide +kernel
theorem dX9_incomeOf_4 : decode cX9_incomeOf 4 = .ok (.iload_n 3, 1) := by decide +kernel
theorem dX9_incomeOf_5 : decode cX9_incomeOf 5 = .ok (.aload_n 0, 1) := by decide +kernel
theorem dX9_incomeOf_6 : decode cX9_incomeOf 6 = .ok (.getfield 13, 3) := by decide +kernel
theorem dX9_incomeOf_9 : decode cX9_incomeOf 9 = .ok (.iconst 1, 1) := by decide +kernel
theorem dX9_incomeOf_10 : decode cX9_incomeOf 10 = .ok (.iaload, 1) := by decide +kernel
theorem dX9_incomeOf_11 : decode cX9_incomeOf 11 = .ok (.if_icmp .ge 73, 3) := by decide +kernel
theorem dX9_incomeOf_14 : decode cX9_incomeOf 14 = .ok (.aload_n 0, 1) := by decide +kernel
theorem dX9_incomeOf_15 : decode cX9_incomeOf 15 = .ok (.iload_n 3, 1) := by decide +kernel
theorem dX9_incomeOf_16 : decode cX9_incomeOf 16 = .ok (.invokevirtual 165, 3) := by decide +kernel
theorem dX9_incomeOf_19 : decode cX9_incomeOf 19 = .ok (.ifCond .ge 6, 3) := by decide +kernel
theorem dX9_incomeOf_22 : decode cX9_incomeOf 22 = .ok (.goto 56, 3) := by decide +kernel
theorem dX9_incomeOf_25 : decode cX9_incomeOf 25 = .ok (.iconst 0, 1) := by decide +kernel
theorem dX9_incomeOf_26 : decode cX9_incomeOf 26 = .ok (.istore 4, 2) := by decide +kernel
theorem dX9_incomeOf_28 : decode cX9_incomeOf 28 = .ok (.iload 4, 2) := by decide +kernel
theorem dX9_incomeOf_30 : decode cX9_incomeOf 30 = .ok (.bipush 28, 2) := by decide +kernel
theorem dX9_incomeOf_32 : decode cX9_incomeOf 32 = .ok (.if_icmp .ge 46, 3) := by decide +kernel
theorem dX9_incomeOf_35 : decode cX9_incomeOf 35 = .ok (.aload_n 0, 1) := by decide +kernel
theorem dX9_incomeOf_36 : decode cX9_incomeOf 36 = .ok (.getfield 145, 3) := by decide +kernel
theorem dX9_incomeOf_39 : decode cX9_incomeOf 39 = .ok (.iload 4, 2) := by decide +kernel
theorem dX9_incomeOf_41 : decode cX9_incomeOf 41 = .ok (.ishr, 1) := by decide +kernel
theorem dX9_incomeOf_42 : decode cX9_incomeOf 42 = .ok (.iconst 1, 1) := by decide +kernel
theorem dX9_incomeOf_43 : decode cX9_incomeOf 43 = .ok (.iand, 1) := by decide +kernel
theorem dX9_incomeOf_44 : decode cX9_incomeOf 44 = .ok (.iconst 1, 1) := by decide +kernel
theorem dX9_incomeOf_45 : decode cX9_incomeOf 45 = .ok (.if_icmp .ne 27, 3) := by decide +kernel
theorem dX9_incomeOf_48 : decode cX9_incomeOf 48 = .ok (.aload_n 0, 1) := by decide +kernel
theorem dX9_incomeOf_49 : decode cX9_incomeOf 49 = .ok (.getfield 13, 3) := by decide +kernel
theorem dX9_incomeOf_52 : decode cX9_incomeOf 52 = .ok (.iload 4, 2) := by decide +kernel
theorem dX9_incomeOf_54 : decode cX9_incomeOf 54 = .ok (.iload_n 1, 1) := by decide +kernel
theorem dX9_incomeOf_55 : decode cX9_incomeOf 55 = .ok (.invokestatic 80, 3) := by decide +kernel
theorem dX9_incomeOf_58 : decode cX9_incomeOf 58 = .ok (.ifCond .eq 14, 3) := by decide +kernel
theorem dX9_incomeOf_61 : decode cX9_incomeOf 61 = .ok (.iload_n 2, 1) := by decide +kernel
theorem dX9_incomeOf_62 : decode cX9_incomeOf 62 = .ok (.aload_n 0, 1) := by decide +kernel
theorem dX9_incomeOf_63 : decode cX9_incomeOf 63 = .ok (.iload_n 3, 1) := by decide +kernel
theorem dX9_incomeOf_64 : decode cX9_incomeOf 64 = .ok (.iload_n 1, 1) := by decide +kernel
theorem dX9_incomeOf_65 : decode cX9_incomeOf 65 = .ok (.iload 4, 2) := by decide +kernel
theorem dX9_incomeOf_67 : decode cX9_incomeOf 67 = .ok (.invokevirtual 135, 3) := by decide +kernel
theorem dX9_incomeOf_70 : decode cX9_incomeOf 70 = .ok (.iadd, 1) := by decide +kernel
theorem dX9_incomeOf_71 : decode cX9_incomeOf 71 = .ok (.istore_n 2, 1) := by decide +kernel
theorem dX9_incomeOf_72 : decode cX9_incomeOf 72 = .ok (.iinc 4 1, 3) := by decide +kernel
theorem dX9_incomeOf_75 : decode cX9_incomeOf 75 = .ok (.goto (-47), 3) := by decide +kernel
theorem dX9_incomeOf_78 : decode cX9_incomeOf 78 = .ok (.iinc 3 1, 3) := by decide +kernel
theorem dX9_incomeOf_81 : decode cX9_incomeOf 81 = .ok (.goto (-77), 3) := by decide +kernel
theorem dX9_incomeOf_84 : decode cX9_incomeOf 84 = .ok (.iload_n 2, 1) := by decide +kernel
theorem dX9_incomeOf_85 : decode cX9_incomeOf 85 = .ok (.ireturn, 1) := by decide +kernel
theorem dX9_askOf_0 : decode cX9_askOf 0 = .ok (.bipush 121, 2) := by decide +kernel
theorem dX9_askOf_2 : decode cX9_askOf 2 = .ok (.iconst 4, 1) := by decide +kernel
theorem dX9_askOf_3 : decode cX9_askOf 3 = .ok (.iload_n 1, 1) := by decide +kernel
theorem dX9_askOf_4 : decode cX9_askOf 4 = .ok (.imul, 1) := by decide +kernel
theorem dX9_askOf_5 : decode cX9_askOf 5 = .ok (.iadd, 1) := by decide +kernel
theorem dX9_askOf_6 : decode cX9_askOf 6 = .ok (.iconst 1, 1) := by decide +kernel
theorem dX9_askOf_7 : decode cX9_askOf 7 = .ok (.iadd, 1) := by decide +kernel
theorem dX9_askOf_8 : decode cX9_askOf 8 = .ok (.istore_n 2, 1) := by decide +kernel
theorem dX9_askOf_9 : decode cX9_askOf 9 = .ok (.aload_n 0, 1) := by decide +kernel
theorem dX9_askOf_10 : decode cX9_askOf 10 = .ok (.getfield 13, 3) := by decide +kernel
theorem dX9_askOf_13 : decode cX9_askOf 13 = .ok (.iload_n 2, 1) := by decide +kernel
theorem dX9_askOf_14 : decode cX9_askOf 14 = .ok (.iaload, 1) := by decide +kernel
theorem dX9_askOf_15 : decode cX9_askOf 15 = .ok (.istore_n 3, 1) := by decide +kernel
theorem dX9_askOf_16 : decode cX9_askOf 16 = .ok (.bipush (-9), 2) := by decide +kernel
theorem dX9_askOf_18 : decode cX9_askOf 18 = .ok (.istore 4, 2) := by decide +kernel
theorem dX9_askOf_20 : decode cX9_askOf 20 = .ok (.iconst 0, 1) := by decide +kernel
theorem dX9_askOf_21 : decode cX9_askOf 21 = .ok (.istore 5, 2) := by decide +kernel
theorem dX9_askOf_23 : decode cX9_askOf 23 = .ok (.iconst 0, 1) := by decide +kernel
theorem dX9_askOf_24 : decode cX9_askOf 24 = .ok (.istore 6, 2) := by decide +kernel
theorem dX9_askOf_26 : decode cX9_askOf 26 = .ok (.iload 6, 2) := by decide +kernel
theorem dX9_askOf_28 : decode cX9_askOf 28 = .ok (.bipush 10, 2) := by decide +kernel
theorem dX9_askOf_30 : decode cX9_askOf 30 = .ok (.if_icmp .ge 47, 3) := by decide +kernel
theorem dX9_askOf_33 : decode cX9_askOf 33 = .ok (.aload_n 0, 1) := by decide +kernel
theorem dX9_askOf_34 : decode cX9_askOf 34 = .ok (.getfield 13, 3) := by decide +kernel
theorem dX9_askOf_37 : decode cX9_askOf 37 = .ok (.iload_n 2, 1) := by decide +kernel
theorem dX9_askOf_38 : decode cX9_askOf 38 = .ok (.iload 6, 2) := by decide +kernel
theorem dX9_askOf_40 : decode cX9_askOf 40 = .ok (.iastore, 1) := by decide +kernel
theorem dX9_askOf_41 : decode cX9_askOf 41 = .ok (.aload_n 0, 1) := by decide +kernel
theorem dX9_askOf_42 : decode cX9_askOf 42 = .ok (.iload_n 1, 1) := by decide +kernel
theorem dX9_askOf_43 : decode cX9_askOf 43 = .ok (.invokevirtual 113, 3) := by decide +kernel
theorem dX9_askOf_46 : decode cX9_askOf 46 = .ok (.istore 7, 2) := by decide +kernel
theorem dX9_askOf_48 : decode cX9_askOf 48 = .ok (.iload 4, 2) := by decide +kernel
theorem dX9_askOf_50 : decode cX9_askOf 50 = .ok (.ifCond .lt 13, 3) := by decide +kernel
theorem dX9_askOf_53 : decode cX9_askOf 53 = .ok (.iload 7, 2) := by decide +kernel
theorem dX9_askOf_55 : decode cX9_askOf 55 = .ok (.iload 5, 2) := by decide +kernel
theorem dX9_askOf_57 : decode cX9_askOf 57 = .ok (.if_icmp .gt 6, 3) := by decide +kernel
theorem dX9_askOf_60 : decode cX9_askOf 60 = .ok (.goto 11, 3) := by decide +kernel
theorem dX9_askOf_63 : decode cX9_askOf 63 = .ok (.iload 6, 2) := by decide +kernel
theorem dX9_askOf_65 : decode cX9_askOf 65 = .ok (.istore 4, 2) := by decide +kernel
theorem dX9_askOf_67 : decode cX9_askOf 67 = .ok (.iload 7, 2) := by decide +kernel
theorem dX9_askOf_69 : decode cX9_askOf 69 = .ok (.istore 5, 2) := by decide +kernel
theorem dX9_askOf_71 : decode cX9_askOf 71 = .ok (.iinc 6 1, 3) := by decide +kernel
theorem dX9_askOf_74 : decode cX9_askOf 74 = .ok (.goto (-48), 3) := by decide +kernel
theorem dX9_askOf_77 : decode cX9_askOf 77 = .ok (.aload_n 0, 1) := by decide +kernel
theorem dX9_askOf_78 : decode cX9_askOf 78 = .ok (.getfield 13, 3) := by decide +kernel
theorem dX9_askOf_81 : decode cX9_askOf 81 = .ok (.iload_n 2, 1) := by decide +kernel
theorem dX9_askOf_82 : decode cX9_askOf 82 = .ok (.iload_n 3, 1) := by decide +kernel
theorem dX9_askOf_83 : decode cX9_askOf 83 = .ok (.iastore, 1) := by decide +kernel
theorem dX9_askOf_84 : decode cX9_askOf 84 = .ok (.iload 4, 2) := by decide +kernel
theorem dX9_askOf_86 : decode cX9_askOf 86 = .ok (.ireturn, 1) := by decide +kernel
theorem dX9_ask_0 : decode cX9_ask 0 = .ok (.aload_n 0, 1) := by decide +kernel
theorem dX9_ask_1 : decode cX9_ask 1 = .ok (.iload_n 1, 1) := by decide +kernel
theorem dX9_ask_2 : decode cX9_ask 2 = .ok (.invokevirtual 106, 3) := by decide +kernel
theorem dX9_ask_5 : decode cX9_ask 5 = .ok (.ifCond .eq 11, 3) := by decide +kernel
theorem dX9_ask_8 : decode cX9_ask 8 = .ok (.aload_n 0, 1) := by decide +kernel
theorem dX9_ask_9 : decode cX9_ask 9 = .ok (.iload_n 1, 1) := by decide +kernel
theorem dX9_ask_10 : decode cX9_ask 10 = .ok (.invokevirtual 182, 3) := by decide +kernel
theorem dX9_ask_13 : decode cX9_ask 13 = .ok (.goto 8, 3) := by decide +kernel
theorem dX9_ask_16 : decode cX9_ask 16 = .ok (.aload_n 0, 1) := by decide +kernel
theorem dX9_ask_17 : decode cX9_ask 17 = .ok (.iconst (-1), 1) := by decide +kernel
theorem dX9_ask_18 : decode cX9_ask 18 = .ok (.invokevirtual 54, 3) := by decide +kernel
theorem dX9_ask_21 : decode cX9_ask 21 = .ok (.ireturn, 1) := by decide +kernel
theorem dX9_rest_0 : decode cX9_rest 0 = .ok (.aload_n 0, 1) := by decide +kernel
theorem dX9_rest_1 : decode cX9_rest 1 = .ok (.getfield 13, 3) := by decide +kernel
theorem dX9_rest_4 : decode cX9_rest 4 = .ok (.aload_n 0, 1) := by decide +kernel
theorem dX9_rest_5 : decode cX9_rest 5 = .ok (.getfield 22, 3) := by decide +kernel
theorem dX9_rest_8 : decode cX9_rest 8 = .ok (.invokestatic 96, 3) := by decide +kernel
theorem dX9_rest_11 : decode cX9_rest 11 = .ok (.bipush (-9), 2) := by decide +kernel
theorem dX9_rest_13 : decode cX9_rest 13 = .ok (.istore_n 1, 1) := by decide +kernel
theorem dX9_rest_14 : decode cX9_rest 14 = .ok (.iconst 1, 1) := by decide +kernel
theorem dX9_rest_15 : decode cX9_rest 15 = .ok (.istore_n 2, 1) := by decide +kernel
theorem dX9_rest_16 : decode cX9_rest 16 = .ok (.iload_n 2, 1) := by decide +kernel
theorem dX9_rest_17 : decode cX9_rest 17 = .ok (.bipush 10, 2) := by decide +kernel
theorem dX9_rest_19 : decode cX9_rest 19 = .ok (.if_icmp .gt 92, 3) := by decide +kernel
theorem dX9_rest_22 : decode cX9_rest 22 = .ok (.iload_n 1, 1) := by decide +kernel
theorem dX9_rest_23 : decode cX9_rest 23 = .ok (.ifCond .ge 88, 3) := by decide +kernel
theorem dX9_rest_26 : decode cX9_rest 26 = .ok (.iconst 0, 1) := by decide +kernel
theorem dX9_rest_27 : decode cX9_rest 27 = .ok (.istore_n 3, 1) := by decide +kernel
theorem dX9_rest_28 : decode cX9_rest 28 = .ok (.iconst 0, 1) := by decide +kernel
theorem dX9_rest_29 : decode cX9_rest 29 = .ok (.istore 4, 2) := by decide +kernel
theorem dX9_rest_31 : decode cX9_rest 31 = .ok (.iload 4, 2) := by decide +kernel
theorem dX9_rest_33 : decode cX9_rest 33 = .ok (.aload_n 0, 1) := by decide +kernel
theorem dX9_rest_34 : decode cX9_rest 34 = .ok (.getfield 13, 3) := by decide +kernel
theorem dX9_rest_37 : decode cX9_rest 37 = .ok (.iconst 0, 1) := by decide +kernel
theorem dX9_rest_38 : decode cX9_rest 38 = .ok (.iaload, 1) := by decide +kernel
theorem dX9_rest_39 : decode cX9_rest 39 = .ok (.if_icmp .ge 55, 3) := by decide +kernel
theorem dX9_rest_42 : decode cX9_rest 42 = .ok (.aload_n 0, 1) := by decide +kernel
theorem dX9_rest_43 : decode cX9_rest 43 = .ok (.iload 4, 2) := by decide +kernel
theorem dX9_rest_45 : decode cX9_rest 45 = .ok (.invokevirtual 182, 3) := by decide +kernel
theorem dX9_rest_48 : decode cX9_rest 48 = .ok (.istore 5, 2) := by decide +kernel
theorem dX9_rest_50 : decode cX9_rest 50 = .ok (.iload_n 3, 1) := by decide +kernel
theorem dX9_rest_51 : decode cX9_rest 51 = .ok (.ifCond .ne 15, 3) := by decide +kernel
theorem dX9_rest_54 : decode cX9_rest 54 = .ok (.iload 5, 2) := by decide +kernel
theorem dX9_rest_56 : decode cX9_rest 56 = .ok (.aload_n 0, 1) := by decide +kernel
theorem dX9_rest_57 : decode cX9_rest 57 = .ok (.iload 4, 2) := by decide +kernel
theorem dX9_rest_59 : decode cX9_rest 59 = .ok (.iconst 1, 1) := by decide +kernel
theorem dX9_rest_60 : decode cX9_rest 60 = .ok (.invokevirtual 109, 3) := by decide +kernel
theorem dX9_rest_63 : decode cX9_rest 63 = .ok (.if_icmp .eq 7, 3) := by decide +kernel
theorem dX9_rest_66 : decode cX9_rest 66 = .ok (.iconst 1, 1) := by decide +kernel
theorem dX9_rest_67 : decode cX9_rest 67 = .ok (.goto 4, 3) := by decide +kernel
theorem dX9_rest_70 : decode cX9_rest 70 = .ok (.iconst 0, 1) := by decide +kernel
theorem dX9_rest_71 : decode cX9_rest 71 = .ok (.istore_n 3, 1) := by decide +kernel
theorem dX9_rest_72 : decode cX9_rest 72 = .ok (.aload_n 0, 1) := by decide +kernel
theorem dX9_rest_73 : decode cX9_rest 73 = .ok (.getfield 13, 3) := by decide +kernel
theorem dX9_rest_76 : decode cX9_rest 76 = .ok (.bipush 121, 2) := by decide +kernel
theorem dX9_rest_78 : decode cX9_rest 78 = .ok (.iconst 4, 1) := by decide +kernel
theorem dX9_rest_79 : decode cX9_rest 79 = .ok (.iload 4, 2) := by decide +kernel
theorem dX9_rest_81 : decode cX9_rest 81 = .ok (.imul, 1) := by decide +kernel
theorem dX9_rest_82 : decode cX9_rest 82 = .ok (.iadd, 1) := by decide +kernel
theorem dX9_rest_83 : decode cX9_rest 83 = .ok (.iconst 1, 1) := by decide +kernel
theorem dX9_rest_84 : decode cX9_rest 84 = .ok (.iadd, 1) := by decide +kernel
theorem dX9_rest_85 : decode cX9_rest 85 = .ok (.iload 5, 2) := by decide +kernel
theorem dX9_rest_87 : decode cX9_rest 87 = .ok (.iastore, 1) := by decide +kernel
theorem dX9_rest_88 : decode cX9_rest 88 = .ok (.iinc 4 1, 3) := by decide +kernel
theorem dX9_rest_91 : decode cX9_rest 91 = .ok (.goto (-60), 3) := by decide +kernel
theorem dX9_rest_94 : decode cX9_rest 94 = .ok (.iload_n 3, 1) := by decide +kernel
theorem dX9_rest_95 : decode cX9_rest 95 = .ok (.ifCond .eq 8, 3) := by decide +kernel
theorem dX9_rest_98 : decode cX9_rest 98 = .ok (.bipush (-9), 2) := by decide +kernel
theorem dX9_rest_100 : decode cX9_rest 100 = .ok (.goto 4, 3) := by decide +kernel
theorem dX9_rest_103 : decode cX9_rest 103 = .ok (.iload_n 2, 1) := by decide +kernel
theorem dX9_rest_104 : decode cX9_rest 104 = .ok (.istore_n 1, 1) := by decide +kernel
theorem dX9_rest_105 : decode cX9_rest 105 = .ok (.iinc 2 1, 3) := by decide +kernel
theorem dX9_rest_108 : decode cX9_rest 108 = .ok (.goto (-92), 3) := by decide +kernel
theorem dX9_rest_111 : decode cX9_rest 111 = .ok (.aload_n 0, 1) := by decide +kernel
theorem dX9_rest_112 : decode cX9_rest 112 = .ok (.getfield 22, 3) := by decide +kernel
theorem dX9_rest_115 : decode cX9_rest 115 = .ok (.aload_n 0, 1) := by decide +kernel
theorem dX9_rest_116 : decode cX9_rest 116 = .ok (.getfield 13, 3) := by decide +kernel
theorem dX9_rest_119 : decode cX9_rest 119 = .ok (.invokestatic 96, 3) := by decide +kernel
theorem dX9_rest_122 : decode cX9_rest 122 = .ok (.iload_n 1, 1) := by decide +kernel
theorem dX9_rest_123 : decode cX9_rest 123 = .ok (.ireturn, 1) := by decide +kernel
theorem dX9_bits_0 : decode cX9_bits 0 = .ok (.iconst 0, 1) := by decide +kernel
theorem dX9_bits_1 : decode cX9_bits 1 = .ok (.istore_n 1, 1) := by decide +kernel
theorem dX9_bits_2 : decode cX9_bits 2 = .ok (.iload_n 0, 1) := by decide +kernel
theorem dX9_bits_3 : decode cX9_bits 3 = .ok (.istore_n 2, 1) := by decide +kernel
theorem dX9_bits_4 : decode cX9_bits 4 = .ok (.iload_n 2, 1) := by decide +kernel
theorem dX9_bits_5 : decode cX9_bits 5 = .ok (.ifCond .le 16, 3) := by decide +kernel
theorem dX9_bits_8 : decode cX9_bits 8 = .ok (.iload_n 1, 1) := by decide +kernel
theorem dX9_bits_9 : decode cX9_bits 9 = .ok (.iload_n 2, 1) := by decide +kernel
theorem dX9_bits_10 : decode cX9_bits 10 = .ok (.iconst 1, 1) := by decide +kernel
theorem dX9_bits_11 : decode cX9_bits 11 = .ok (.iand, 1) := by decide +kernel
theorem dX9_bits_12 : decode cX9_bits 12 = .ok (.iadd, 1) := by decide +kernel
theorem dX9_bits_13 : decode cX9_bits 13 = .ok (.istore_n 1, 1) := by decide +kernel
theorem dX9_bits_14 : decode cX9_bits 14 = .ok (.iload_n 2, 1) := by decide +kernel
theorem dX9_bits_15 : decode cX9_bits 15 = .ok (.iconst 1, 1) := by decide +kernel
theorem dX9_bits_16 : decode cX9_bits 16 = .ok (.ishr, 1) := by decide +kernel
theorem dX9_bits_17 : decode cX9_bits 17 = .ok (.istore_n 2, 1) := by decide +kernel
theorem dX9_bits_18 : decode cX9_bits 18 = .ok (.goto (-14), 3) := by decide +kernel
theorem dX9_bits_21 : decode cX9_bits 21 = .ok (.iload_n 1, 1) := by decide +kernel
theorem dX9_bits_22 : decode cX9_bits 22 = .ok (.ireturn, 1) := by decide +kernel
theorem dX9_stop_0 : decode cX9_stop 0 = .ok (.aload_n 0, 1) := by decide +kernel
theorem dX9_stop_1 : decode cX9_stop 1 = .ok (.iload_n 1, 1) := by decide +kernel
theorem dX9_stop_2 : decode cX9_stop 2 = .ok (.invokevirtual 119, 3) := by decide +kernel
theorem dX9_stop_5 : decode cX9_stop 5 = .ok (.ifCond .ne 9, 3) := by decide +kernel
theorem dX9_stop_8 : decode cX9_stop 8 = .ok (.aload_n 0, 1) := by decide +kernel
theorem dX9_stop_9 : decode cX9_stop 9 = .ok (.iconst (-1), 1) := by decide +kernel
theorem dX9_stop_10 : decode cX9_stop 10 = .ok (.invokevirtual 54, 3) := by decide +kernel
theorem dX9_stop_13 : decode cX9_stop 13 = .ok (.ireturn, 1) := by decide +kernel
theorem dX9_stop_14 : decode cX9_stop 14 = .ok (.aload_n 0, 1) := by decide +kernel
theorem dX9_stop_15 : decode cX9_stop 15 = .ok (.getfield 13, 3) := by decide +kernel
theorem dX9_stop_18 : decode cX9_stop 18 = .ok (.iconst 2, 1) := by decide +kernel
theorem dX9_stop_19 : decode cX9_stop 19 = .ok (.iaload, 1) := by decide +kernel
theorem dX9_stop_20 : decode cX9_stop 20 = .ok (.istore_n 2, 1) := by decide +kernel
theorem dX9_stop_21 : decode cX9_stop 21 = .ok (.bipush (-9), 2) := by decide +kernel
theorem dX9_stop_23 : decode cX9_stop 23 = .ok (.istore_n 3, 1) := by decide +kernel
theorem dX9_stop_24 : decode cX9_stop 24 = .ok (.iconst 0, 1) := by decide +kernel
theorem dX9_stop_25 : decode cX9_stop 25 = .ok (.istore 4, 2) := by decide +kernel
theorem dX9_stop_27 : decode cX9_stop 27 = .ok (.iload 4, 2) := by decide +kernel
theorem dX9_stop_29 : decode cX9_stop 29 = .ok (.iconst 1, 1) := by decide +kernel
theorem dX9_stop_30 : decode cX9_stop 30 = .ok (.aload_n 0, 1) := by decide +kernel
theorem dX9_stop_31 : decode cX9_stop 31 = .ok (.getfield 13, 3) := by decide +kernel
theorem dX9_stop_34 : decode cX9_stop 34 = .ok (.iconst 0, 1) := by decide +kernel
theorem dX9_stop_35 : decode cX9_stop 35 = .ok (.iaload, 1) := by decide +kernel
theorem dX9_stop_36 : decode cX9_stop 36 = .ok (.ishl, 1) := by decide +kernel
theorem dX9_stop_37 : decode cX9_stop 37 = .ok (.if_icmp .ge 68, 3) := by decide +kernel
theorem dX9_stop_40 : decode cX9_stop 40 = .ok (.iload 4, 2) := by decide +kernel
theorem dX9_stop_42 : decode cX9_stop 42 = .ok (.aload_n 0, 1) := by decide +kernel
theorem dX9_stop_43 : decode cX9_stop 43 = .ok (.iload_n 1, 1) := by decide +kernel
theorem dX9_stop_44 : decode cX9_stop 44 = .ok (.iconst 0, 1) := by decide +kernel
theorem dX9_stop_45 : decode cX9_stop 45 = .ok (.invokevirtual 122, 3) := by decide +kernel
theorem dX9_stop_48 : decode cX9_stop 48 = .ok (.ishr, 1) := by decide +kernel
theorem dX9_stop_49 : decode cX9_stop 49 = .ok (.iconst 1, 1) := by decide +kernel
theorem dX9_stop_50 : decode cX9_stop 50 = .ok (.iand, 1) := by decide +kernel
theorem dX9_stop_51 : decode cX9_stop 51 = .ok (.iconst 1, 1) := by decide +kernel
theorem dX9_stop_52 : decode cX9_stop 52 = .ok (.if_icmp .eq 47, 3) := by decide +kernel
theorem dX9_stop_55 : decode cX9_stop 55 = .ok (.iload_n 3, 1) := by decide +kernel
theorem dX9_stop_56 : decode cX9_stop 56 = .ok (.ifCond .lt 18, 3) := by decide +kernel
theorem dX9_stop_59 : decode cX9_stop 59 = .ok (.iload 4, 2) := by decide +kernel
theorem dX9_stop_61 : decode cX9_stop 61 = .ok (.invokestatic 185, 3) := by decide +kernel
theorem dX9_stop_64 : decode cX9_stop 64 = .ok (.iload_n 3, 1) := by decide +kernel
theorem dX9_stop_65 : decode cX9_stop 65 = .ok (.invokestatic 185, 3) := by decide +kernel
theorem dX9_stop_68 : decode cX9_stop 68 = .ok (.if_icmp .lt 6, 3) := by decide +kernel
theorem dX9_stop_71 : decode cX9_stop 71 = .ok (.goto 28, 3) := by decide +kernel
theorem dX9_stop_74 : decode cX9_stop 74 = .ok (.aload_n 0, 1) := by decide +kernel
theorem dX9_stop_75 : decode cX9_stop 75 = .ok (.getfield 13, 3) := by decide +kernel
theorem dX9_stop_78 : decode cX9_stop 78 = .ok (.iconst 2, 1) := by decide +kernel
theorem dX9_stop_79 : decode cX9_stop 79 = .ok (.iload_n 2, 1) := by decide +kernel
theorem dX9_stop_80 : decode cX9_stop 80 = .ok (.iload 4, 2) := by decide +kernel
theorem dX9_stop_82 : decode cX9_stop 82 = .ok (.ior, 1) := by decide +kernel
theorem dX9_stop_83 : decode cX9_stop 83 = .ok (.iastore, 1) := by decide +kernel
theorem dX9_stop_84 : decode cX9_stop 84 = .ok (.aload_n 0, 1) := by decide +kernel
theorem dX9_stop_85 : decode cX9_stop 85 = .ok (.iload_n 1, 1) := by decide +kernel
theorem dX9_stop_86 : decode cX9_stop 86 = .ok (.invokevirtual 159, 3) := by decide +kernel
theorem dX9_stop_89 : decode cX9_stop 89 = .ok (.ifCond .ge 8, 3) := by decide +kernel
theorem dX9_stop_92 : decode cX9_stop 92 = .ok (.iload 4, 2) := by decide +kernel
theorem dX9_stop_94 : decode cX9_stop 94 = .ok (.goto 4, 3) := by decide +kernel
theorem dX9_stop_97 : decode cX9_stop 97 = .ok (.iload_n 3, 1) := by decide +kernel
theorem dX9_stop_98 : decode cX9_stop 98 = .ok (.istore_n 3, 1) := by decide +kernel
theorem dX9_stop_99 : decode cX9_stop 99 = .ok (.iinc 4 1, 3) := by decide +kernel
theorem dX9_stop_102 : decode cX9_stop 102 = .ok (.goto (-75), 3) := by decide +kernel
theorem dX9_stop_105 : decode cX9_stop 105 = .ok (.aload_n 0, 1) := by decide +kernel
theorem dX9_stop_106 : decode cX9_stop 106 = .ok (.getfield 13, 3) := by decide +kernel
theorem dX9_stop_109 : decode cX9_stop 109 = .ok (.iconst 2, 1) := by decide +kernel
theorem dX9_stop_110 : decode cX9_stop 110 = .ok (.iload_n 2, 1) := by decide +kernel
theorem dX9_stop_111 : decode cX9_stop 111 = .ok (.iastore, 1) := by decide +kernel
theorem dX9_stop_112 : decode cX9_stop 112 = .ok (.iload_n 3, 1) := by decide +kernel
theorem dX9_stop_113 : decode cX9_stop 113 = .ok (.ireturn, 1) := by decide +kernel
theorem dX9_areStopped_0 : decode cX9_areStopped 0 = .ok (.iconst 0, 1) := by decide +kernel
theorem dX9_areStopped_1 : decode cX9_areStopped 1 = .ok (.istore_n 2, 1) := by decide +kernel
theorem dX9_areStopped_2 : decode cX9_areStopped 2 = .ok (.iload_n 2, 1) := by decide +kernel
theorem dX9_areStopped_3 : decode cX9_areStopped 3 = .ok (.aload_n 0, 1) := by decide +kernel
theorem dX9_areStopped_4 : decode cX9_areStopped 4 = .ok (.getfield 13, 3) := by decide +kernel
theorem dX9_areStopped_7 : decode cX9_areStopped 7 = .ok (.iconst 1, 1) := by decide +kernel
theorem dX9_areStopped_8 : decode cX9_areStopped 8 = .ok (.iaload, 1) := by decide +kernel
theorem dX9_areStopped_9 : decode cX9_areStopped 9 = .ok (.if_icmp .ge 32, 3) := by decide +kernel
theorem dX9_areStopped_12 : decode cX9_areStopped 12 = .ok (.iload_n 1, 1) := by decide +kernel
theorem dX9_areStopped_13 : decode cX9_areStopped 13 = .ok (.aload_n 0, 1) := by decide +kernel
theorem dX9_areStopped_14 : decode cX9_areStopped 14 = .ok (.iload_n 2, 1) := by decide +kernel
theorem dX9_areStopped_15 : decode cX9_areStopped 15 = .ok (.iconst 0, 1) := by decide +kernel
theorem dX9_areStopped_16 : decode cX9_areStopped 16 = .ok (.invokevirtual 122, 3) := by decide +kernel
theorem dX9_areStopped_19 : decode cX9_areStopped 19 = .ok (.ishr, 1) := by decide +kernel
theorem dX9_areStopped_20 : decode cX9_areStopped 20 = .ok (.iconst 1, 1) := by decide +kernel
theorem dX9_areStopped_21 : decode cX9_areStopped 21 = .ok (.iand, 1) := by decide +kernel
theorem dX9_areStopped_22 : decode cX9_areStopped 22 = .ok (.ifCond .ne 13, 3) := by decide +kernel
theorem dX9_areStopped_25 : decode cX9_areStopped 25 = .ok (.aload_n 0, 1) := by decide +kernel
theorem dX9_areStopped_26 : decode cX9_areStopped 26 = .ok (.iload_n 2, 1) := by decide +kernel
theorem dX9_areStopped_27 : decode cX9_areStopped 27 = .ok (.invokevirtual 159, 3) := by decide +kernel
theorem dX9_areStopped_30 : decode cX9_areStopped 30 = .ok (.ifCond .lt 5, 3) := by decide +kernel
theorem dX9_areStopped_33 : decode cX9_areStopped 33 = .ok (.iconst 0, 1) := by decide +kernel
theorem dX9_areStopped_34 : decode cX9_areStopped 34 = .ok (.ireturn, 1) := by decide +kernel
theorem dX9_areStopped_35 : decode cX9_areStopped 35 = .ok (.iinc 2 1, 3) := by decide +kernel
theorem dX9_areStopped_38 : decode cX9_areStopped 38 = .ok (.goto (-36), 3) := by decide +kernel
theorem dX9_areStopped_41 : decode cX9_areStopped 41 = .ok (.iconst 1, 1) := by decide +kernel
theorem dX9_areStopped_42 : decode cX9_areStopped 42 = .ok (.ireturn, 1) := by decide +kernel
theorem dX9_stopAll_0 : decode cX9_stopAll 0 = .ok (.aload_n 0, 1) := by decide +kernel
theorem dX9_stopAll_1 : decode cX9_stopAll 1 = .ok (.getfield 13, 3) := by decide +kernel
theorem dX9_stopAll_4 : decode cX9_stopAll 4 = .ok (.iconst 2, 1) := by decide +kernel
theorem dX9_stopAll_5 : decode cX9_stopAll 5 = .ok (.iaload, 1) := by decide +kernel
theorem dX9_stopAll_6 : decode cX9_stopAll 6 = .ok (.istore_n 1, 1) := by decide +kernel
theorem dX9_stopAll_7 : decode cX9_stopAll 7 = .ok (.bipush (-9), 2) := by decide +kernel
theorem dX9_stopAll_9 : decode cX9_stopAll 9 = .ok (.istore_n 2, 1) := by decide +kernel
theorem dX9_stopAll_10 : decode cX9_stopAll 10 = .ok (.iconst 0, 1) := by decide +kernel
theorem dX9_stopAll_11 : decode cX9_stopAll 11 = .ok (.istore_n 3, 1) := by decide +kernel
theorem dX9_stopAll_12 : decode cX9_stopAll 12 = .ok (.iload_n 3, 1) := by decide +kernel
theorem dX9_stopAll_13 : decode cX9_stopAll 13 = .ok (.iconst 1, 1) := by decide +kernel
theorem dX9_stopAll_14 : decode cX9_stopAll 14 = .ok (.aload_n 0, 1) := by decide +kernel
theorem dX9_stopAll_15 : decode cX9_stopAll 15 = .ok (.getfield 13, 3) := by decide +kernel
theorem dX9_stopAll_18 : decode cX9_stopAll 18 = .ok (.iconst 0, 1) := by decide +kernel
theorem dX9_stopAll_19 : decode cX9_stopAll 19 = .ok (.iaload, 1) := by decide +kernel
theorem dX9_stopAll_20 : decode cX9_stopAll 20 = .ok (.ishl, 1) := by decide +kernel
theorem dX9_stopAll_21 : decode cX9_stopAll 21 = .ok (.if_icmp .ge 50, 3) := by decide +kernel
theorem dX9_stopAll_24 : decode cX9_stopAll 24 = .ok (.iload_n 2, 1) := by decide +kernel
theorem dX9_stopAll_25 : decode cX9_stopAll 25 = .ok (.ifCond .lt 17, 3) := by decide +kernel
theorem dX9_stopAll_28 : decode cX9_stopAll 28 = .ok (.iload_n 3, 1) := by decide +kernel
theorem dX9_stopAll_29 : decode cX9_stopAll 29 = .ok (.invokestatic 185, 3) := by decide +kernel
theorem dX9_stopAll_32 : decode cX9_stopAll 32 = .ok (.iload_n 2, 1) := by decide +kernel
theorem dX9_stopAll_33 : decode cX9_stopAll 33 = .ok (.invokestatic 185, 3) := by decide +kernel
theorem dX9_stopAll_36 : decode cX9_stopAll 36 = .ok (.if_icmp .lt 6, 3) := by decide +kernel
theorem dX9_stopAll_39 : decode cX9_stopAll 39 = .ok (.goto 26, 3) := by decide +kernel
theorem dX9_stopAll_42 : decode cX9_stopAll 42 = .ok (.aload_n 0, 1) := by decide +kernel
theorem dX9_stopAll_43 : decode cX9_stopAll 43 = .ok (.getfield 13, 3) := by decide +kernel
theorem dX9_stopAll_46 : decode cX9_stopAll 46 = .ok (.iconst 2, 1) := by decide +kernel
theorem dX9_stopAll_47 : decode cX9_stopAll 47 = .ok (.iload_n 1, 1) := by decide +kernel
theorem dX9_stopAll_48 : decode cX9_stopAll 48 = .ok (.iload_n 3, 1) := by decide +kernel
theorem dX9_stopAll_49 : decode cX9_stopAll 49 = .ok (.ior, 1) := by decide +kernel
theorem dX9_stopAll_50 : decode cX9_stopAll 50 = .ok (.iastore, 1) := by decide +kernel
theorem dX9_stopAll_51 : decode cX9_stopAll 51 = .ok (.aload_n 0, 1) := by decide +kernel
theorem dX9_stopAll_52 : decode cX9_stopAll 52 = .ok (.iload_n 3, 1) := by decide +kernel
theorem dX9_stopAll_53 : decode cX9_stopAll 53 = .ok (.invokevirtual 188, 3) := by decide +kernel
theorem dX9_stopAll_56 : decode cX9_stopAll 56 = .ok (.ifCond .eq 7, 3) := by decide +kernel
theorem dX9_stopAll_59 : decode cX9_stopAll 59 = .ok (.iload_n 3, 1) := by decide +kernel
theorem dX9_stopAll_60 : decode cX9_stopAll 60 = .ok (.goto 4, 3) := by decide +kernel
theorem dX9_stopAll_63 : decode cX9_stopAll 63 = .ok (.iload_n 2, 1) := by decide +kernel
theorem dX9_stopAll_64 : decode cX9_stopAll 64 = .ok (.istore_n 2, 1) := by decide +kernel
theorem dX9_stopAll_65 : decode cX9_stopAll 65 = .ok (.iinc 3 1, 3) := by decide +kernel
theorem dX9_stopAll_68 : decode cX9_stopAll 68 = .ok (.goto (-56), 3) := by decide +kernel
theorem dX9_stopAll_71 : decode cX9_stopAll 71 = .ok (.aload_n 0, 1) := by decide +kernel
theorem dX9_stopAll_72 : decode cX9_stopAll 72 = .ok (.getfield 13, 3) := by decide +kernel
theorem dX9_stopAll_75 : decode cX9_stopAll 75 = .ok (.iconst 2, 1) := by decide +kernel
theorem dX9_stopAll_76 : decode cX9_stopAll 76 = .ok (.iload_n 1, 1) := by decide +kernel
theorem dX9_stopAll_77 : decode cX9_stopAll 77 = .ok (.iastore, 1) := by decide +kernel
theorem dX9_stopAll_78 : decode cX9_stopAll 78 = .ok (.iload_n 2, 1) := by decide +kernel
theorem dX9_stopAll_79 : decode cX9_stopAll 79 = .ok (.ireturn, 1) := by decide +kernel
theorem dX9_lines_0 : decode cX9_lines 0 = .ok (.iload 4, 2) := by decide +kernel
theorem dX9_lines_2 : decode cX9_lines 2 = .ok (.iload 5, 2) := by decide +kernel
theorem dX9_lines_4 : decode cX9_lines 4 = .ok (.if_icmp .ne 14, 3) := by decide +kernel
theorem dX9_lines_7 : decode cX9_lines 7 = .ok (.aload_n 0, 1) := by decide +kernel
theorem dX9_lines_8 : decode cX9_lines 8 = .ok (.dup, 1) := by decide +kernel
theorem dX9_lines_9 : decode cX9_lines 9 = .ok (.getfield 191, 3) := by decide +kernel
theorem dX9_lines_12 : decode cX9_lines 12 = .ok (.iconst 1, 1) := by decide +kernel
theorem dX9_lines_13 : decode cX9_lines 13 = .ok (.iadd, 1) := by decide +kernel
theorem dX9_lines_14 : decode cX9_lines 14 = .ok (.putfield 191, 3) := by decide +kernel
theorem dX9_lines_17 : decode cX9_lines 17 = .ok (.return_, 1) := by decide +kernel
theorem dX9_lines_18 : decode cX9_lines 18 = .ok (.iconst 0, 1) := by decide +kernel
theorem dX9_lines_19 : decode cX9_lines 19 = .ok (.istore 6, 2) := by decide +kernel
theorem dX9_lines_21 : decode cX9_lines 21 = .ok (.iload 6, 2) := by decide +kernel
theorem dX9_lines_23 : decode cX9_lines 23 = .ok (.aload_n 0, 1) := by decide +kernel
theorem dX9_lines_24 : decode cX9_lines 24 = .ok (.getfield 13, 3) := by decide +kernel
theorem dX9_lines_27 : decode cX9_lines 27 = .ok (.iconst 0, 1) := by decide +kernel
theorem dX9_lines_28 : decode cX9_lines 28 = .ok (.iaload, 1) := by decide +kernel
theorem dX9_lines_29 : decode cX9_lines 29 = .ok (.if_icmp .ge 147, 3) := by decide +kernel
theorem dX9_lines_32 : decode cX9_lines 32 = .ok (.iload 5, 2) := by decide +kernel
theorem dX9_lines_34 : decode cX9_lines 34 = .ok (.iload 6, 2) := by decide +kernel
theorem dX9_lines_36 : decode cX9_lines 36 = .ok (.ishr, 1) := by decide +kernel
theorem dX9_lines_37 : decode cX9_lines 37 = .ok (.iconst 1, 1) := by decide +kernel
theorem dX9_lines_38 : decode cX9_lines 38 = .ok (.iand, 1) := by decide +kernel
theorem dX9_lines_39 : decode cX9_lines 39 = .ok (.ifCond .eq 131, 3) := by decide +kernel
theorem dX9_lines_42 : decode cX9_lines 42 = .ok (.iload 4, 2) := by decide +kernel
theorem dX9_lines_44 : decode cX9_lines 44 = .ok (.iload 6, 2) := by decide +kernel
theorem dX9_lines_46 : decode cX9_lines 46 = .ok (.ishr, 1) := by decide +kernel
theorem dX9_lines_47 : decode cX9_lines 47 = .ok (.iconst 1, 1) := by decide +kernel
theorem dX9_lines_48 : decode cX9_lines 48 = .ok (.iand, 1) := by decide +kernel
theorem dX9_lines_49 : decode cX9_lines 49 = .ok (.iconst 1, 1) := by decide +kernel
theorem dX9_lines_50 : decode cX9_lines 50 = .ok (.if_icmp .ne 6, 3) := by decide +kernel
theorem dX9_lines_53 : decode cX9_lines 53 = .ok (.goto 117, 3) := by decide +kernel
theorem dX9_lines_56 : decode cX9_lines 56 = .ok (.aload_n 0, 1) := by decide +kernel
theorem dX9_lines_57 : decode cX9_lines 57 = .ok (.getfield 191, 3) := by decide +kernel
theorem dX9_lines_60 : decode cX9_lines 60 = .ok (.istore 7, 2) := by decide +kernel
theorem dX9_lines_62 : decode cX9_lines 62 = .ok (.aload_n 0, 1) := by decide +kernel
theorem dX9_lines_63 : decode cX9_lines 63 = .ok (.iload_n 1, 1) := by decide +kernel
theorem dX9_lines_64 : decode cX9_lines 64 = .ok (.iload_n 2, 1) := by decide +kernel
theorem dX9_lines_65 : decode cX9_lines 65 = .ok (.iload_n 3, 1) := by decide +kernel
theorem dX9_lines_66 : decode cX9_lines 66 = .ok (.iload 4, 2) := by decide +kernel
theorem dX9_lines_68 : decode cX9_lines 68 = .ok (.iconst 1, 1) := by decide +kernel
theorem dX9_lines_69 : decode cX9_lines 69 = .ok (.iload 6, 2) := by decide +kernel
theorem dX9_lines_71 : decode cX9_lines 71 = .ok (.ishl, 1) := by decide +kernel
theorem dX9_lines_72 : decode cX9_lines 72 = .ok (.ior, 1) := by decide +kernel
theorem dX9_lines_73 : decode cX9_lines 73 = .ok (.iload 5, 2) := by decide +kernel
theorem dX9_lines_75 : decode cX9_lines 75 = .ok (.invokevirtual 194, 3) := by decide +kernel
theorem dX9_lines_78 : decode cX9_lines 78 = .ok (.iload 6, 2) := by decide +kernel
theorem dX9_lines_80 : decode cX9_lines 80 = .ok (.iload_n 1, 1) := by decide +kernel
theorem dX9_lines_81 : decode cX9_lines 81 = .ok (.if_icmp .eq 6, 3) := by decide +kernel
theorem dX9_lines_84 : decode cX9_lines 84 = .ok (.goto 86, 3) := by decide +kernel
theorem dX9_lines_87 : decode cX9_lines 87 = .ok (.aload_n 0, 1) := by decide +kernel
theorem dX9_lines_88 : decode cX9_lines 88 = .ok (.getfield 13, 3) := by decide +kernel
theorem dX9_lines_91 : decode cX9_lines 91 = .ok (.iconst 2, 1) := by decide +kernel
theorem dX9_lines_92 : decode cX9_lines 92 = .ok (.iload_n 3, 1) := by decide +kernel
theorem dX9_lines_93 : decode cX9_lines 93 = .ok (.iload 5, 2) := by decide +kernel
theorem dX9_lines_95 : decode cX9_lines 95 = .ok (.iload 4, 2) := by decide +kernel
theorem dX9_lines_97 : decode cX9_lines 97 = .ok (.iconst (-1), 1) := by decide +kernel
theorem dX9_lines_98 : decode cX9_lines 98 = .ok (.ixor, 1) := by decide +kernel
theorem dX9_lines_99 : decode cX9_lines 99 = .ok (.iand, 1) := by decide +kernel
theorem dX9_lines_100 : decode cX9_lines 100 = .ok (.ior, 1) := by decide +kernel
theorem dX9_lines_101 : decode cX9_lines 101 = .ok (.iastore, 1) := by decide +kernel
theorem dX9_lines_102 : decode cX9_lines 102 = .ok (.aload_n 0, 1) := by decide +kernel
theorem dX9_lines_103 : decode cX9_lines 103 = .ok (.iload_n 2, 1) := by decide +kernel
theorem dX9_lines_104 : decode cX9_lines 104 = .ok (.invokevirtual 159, 3) := by decide +kernel
theorem dX9_lines_107 : decode cX9_lines 107 = .ok (.ifCond .lt 7, 3) := by decide +kernel
theorem dX9_lines_110 : decode cX9_lines 110 = .ok (.iconst 1, 1) := by decide +kernel
theorem dX9_lines_111 : decode cX9_lines 111 = .ok (.goto 4, 3) := by decide +kernel
theorem dX9_lines_114 : decode cX9_lines 114 = .ok (.iconst 0, 1) := by decide +kernel
theorem dX9_lines_115 : decode cX9_lines 115 = .ok (.istore 8, 2) := by decide +kernel
theorem dX9_lines_117 : decode cX9_lines 117 = .ok (.aload_n 0, 1) := by decide +kernel
theorem dX9_lines_118 : decode cX9_lines 118 = .ok (.getfield 13, 3) := by decide +kernel
theorem dX9_lines_121 : decode cX9_lines 121 = .ok (.iconst 2, 1) := by decide +kernel
theorem dX9_lines_122 : decode cX9_lines 122 = .ok (.iload_n 3, 1) := by decide +kernel
theorem dX9_lines_123 : decode cX9_lines 123 = .ok (.iload 5, 2) := by decide +kernel
theorem dX9_lines_125 : decode cX9_lines 125 = .ok (.iload 4, 2) := by decide +kernel
theorem dX9_lines_127 : decode cX9_lines 127 = .ok (.iconst 1, 1) := by decide +kernel
theorem dX9_lines_128 : decode cX9_lines 128 = .ok (.iload 6, 2) := by decide +kernel
theorem dX9_lines_130 : decode cX9_lines 130 = .ok (.ishl, 1) := by decide +kernel
theorem dX9_lines_131 : decode cX9_lines 131 = .ok (.ior, 1) := by decide +kernel
theorem dX9_lines_132 : decode cX9_lines 132 = .ok (.iconst (-1), 1) := by decide +kernel
theorem dX9_lines_133 : decode cX9_lines 133 = .ok (.ixor, 1) := by decide +kernel
theorem dX9_lines_134 : decode cX9_lines 134 = .ok (.iand, 1) := by decide +kernel
theorem dX9_lines_135 : decode cX9_lines 135 = .ok (.ior, 1) := by decide +kernel
theorem dX9_lines_136 : decode cX9_lines 136 = .ok (.iastore, 1) := by decide +kernel
theorem dX9_lines_137 : decode cX9_lines 137 = .ok (.aload_n 0, 1) := by decide +kernel
theorem dX9_lines_138 : decode cX9_lines 138 = .ok (.dup, 1) := by decide +kernel
theorem dX9_lines_139 : decode cX9_lines 139 = .ok (.getfield 198, 3) := by decide +kernel
theorem dX9_lines_142 : decode cX9_lines 142 = .ok (.iload 8, 2) := by decide +kernel
theorem dX9_lines_144 : decode cX9_lines 144 = .ok (.ifCond .ne 21, 3) := by decide +kernel
theorem dX9_lines_147 : decode cX9_lines 147 = .ok (.aload_n 0, 1) := by decide +kernel
theorem dX9_lines_148 : decode cX9_lines 148 = .ok (.iload_n 2, 1) := by decide +kernel
theorem dX9_lines_149 : decode cX9_lines 149 = .ok (.invokevirtual 159, 3) := by decide +kernel
theorem dX9_lines_152 : decode cX9_lines 152 = .ok (.ifCond .lt 13, 3) := by decide +kernel
theorem dX9_lines_155 : decode cX9_lines 155 = .ok (.aload_n 0, 1) := by decide +kernel
theorem dX9_lines_156 : decode cX9_lines 156 = .ok (.getfield 191, 3) := by decide +kernel
theorem dX9_lines_159 : decode cX9_lines 159 = .ok (.iload 7, 2) := by decide +kernel
theorem dX9_lines_161 : decode cX9_lines 161 = .ok (.isub, 1) := by decide +kernel
theorem dX9_lines_162 : decode cX9_lines 162 = .ok (.goto 4, 3) := by decide +kernel
theorem dX9_lines_165 : decode cX9_lines 165 = .ok (.iconst 0, 1) := by decide +kernel
theorem dX9_lines_166 : decode cX9_lines 166 = .ok (.iadd, 1) := by decide +kernel
theorem dX9_lines_167 : decode cX9_lines 167 = .ok (.putfield 198, 3) := by decide +kernel
theorem dX9_lines_170 : decode cX9_lines 170 = .ok (.iinc 6 1, 3) := by decide +kernel
theorem dX9_lines_173 : decode cX9_lines 173 = .ok (.goto (-152), 3) := by decide +kernel
theorem dX9_lines_176 : decode cX9_lines 176 = .ok (.return_, 1) := by decide +kernel
theorem dX9_common_0 : decode cX9_common 0 = .ok (.iload_n 1, 1) := by decide +kernel
theorem dX9_common_1 : decode cX9_common 1 = .ok (.ifCond .ne 7, 3) := by decide +kernel
theorem dX9_common_4 : decode cX9_common 4 = .ok (.iload_n 0, 1) := by decide +kernel
theorem dX9_common_5 : decode cX9_common 5 = .ok (.goto 10, 3) := by decide +kernel
theorem dX9_common_8 : decode cX9_common 8 = .ok (.iload_n 1, 1) := by decide +kernel
theorem dX9_common_9 : decode cX9_common 9 = .ok (.iload_n 0, 1) := by decide +kernel
theorem dX9_common_10 : decode cX9_common 10 = .ok (.iload_n 1, 1) := by decide +kernel
theorem dX9_common_11 : decode cX9_common 11 = .ok (.irem, 1) := by decide +kernel
theorem dX9_common_12 : decode cX9_common 12 = .ok (.invokestatic 201, 3) := by decide +kernel
theorem dX9_common_15 : decode cX9_common 15 = .ok (.ireturn, 1) := by decide +kernel
theorem dX9_power_0 : decode cX9_power 0 = .ok (.aload_n 0, 1) := by decide +kernel
theorem dX9_power_1 : decode cX9_power 1 = .ok (.iload_n 1, 1) := by decide +kernel
theorem dX9_power_2 : decode cX9_power 2 = .ok (.invokevirtual 106, 3) := by decide +kernel
theorem dX9_power_5 : decode cX9_power 5 = .ok (.ifCond .eq 21, 3) := by decide +kernel
theorem dX9_power_8 : decode cX9_power 8 = .ok (.aload_n 0, 1) := by decide +kernel
theorem dX9_power_9 : decode cX9_power 9 = .ok (.iload_n 2, 1) := by decide +kernel
theorem dX9_power_10 : decode cX9_power 10 = .ok (.invokevirtual 119, 3) := by decide +kernel
theorem dX9_power_13 : decode cX9_power 13 = .ok (.ifCond .eq 13, 3) := by decide +kernel
theorem dX9_power_16 : decode cX9_power 16 = .ok (.aload_n 0, 1) := by decide +kernel
theorem dX9_power_17 : decode cX9_power 17 = .ok (.iload_n 2, 1) := by decide +kernel
theorem dX9_power_18 : decode cX9_power 18 = .ok (.iconst 0, 1) := by decide +kernel
theorem dX9_power_19 : decode cX9_power 19 = .ok (.invokevirtual 122, 3) := by decide +kernel
theorem dX9_power_22 : decode cX9_power 22 = .ok (.iload_n 1, 1) := by decide +kernel
theorem dX9_power_23 : decode cX9_power 23 = .ok (.if_icmp .ne 9, 3) := by decide +kernel
theorem dX9_power_26 : decode cX9_power 26 = .ok (.aload_n 0, 1) := by decide +kernel
theorem dX9_power_27 : decode cX9_power 27 = .ok (.iconst (-1), 1) := by decide +kernel
theorem dX9_power_28 : decode cX9_power 28 = .ok (.invokevirtual 54, 3) := by decide +kernel
theorem dX9_power_31 : decode cX9_power 31 = .ok (.ireturn, 1) := by decide +kernel
theorem dX9_power_32 : decode cX9_power 32 = .ok (.iload_n 3, 1) := by decide +kernel
theorem dX9_power_33 : decode cX9_power 33 = .ok (.iconst 2, 1) := by decide +kernel
theorem dX9_power_34 : decode cX9_power 34 = .ok (.invokestatic 50, 3) := by decide +kernel
theorem dX9_power_37 : decode cX9_power 37 = .ok (.ifCond .ne 10, 3) := by decide +kernel
theorem dX9_power_40 : decode cX9_power 40 = .ok (.aload_n 0, 1) := by decide +kernel
theorem dX9_power_41 : decode cX9_power 41 = .ok (.bipush (-2), 2) := by decide +kernel
theorem dX9_power_43 : decode cX9_power 43 = .ok (.invokevirtual 54, 3) := by decide +kernel
theorem dX9_power_46 : decode cX9_power 46 = .ok (.ireturn, 1) := by decide +kernel
theorem dX9_power_47 : decode cX9_power 47 = .ok (.aload_n 0, 1) := by decide +kernel
theorem dX9_power_48 : decode cX9_power 48 = .ok (.getfield 13, 3) := by decide +kernel
theorem dX9_power_51 : decode cX9_power 51 = .ok (.iconst 0, 1) := by decide +kernel
theorem dX9_power_52 : decode cX9_power 52 = .ok (.iaload, 1) := by decide +kernel
theorem dX9_power_53 : decode cX9_power 53 = .ok (.bipush 6, 2) := by decide +kernel
theorem dX9_power_55 : decode cX9_power 55 = .ok (.if_icmp .le 10, 3) := by decide +kernel
theorem dX9_power_58 : decode cX9_power 58 = .ok (.aload_n 0, 1) := by decide +kernel
theorem dX9_power_59 : decode cX9_power 59 = .ok (.bipush (-6), 2) := by decide +kernel
theorem dX9_power_61 : decode cX9_power 61 = .ok (.invokevirtual 54, 3) := by decide +kernel
theorem dX9_power_64 : decode cX9_power 64 = .ok (.ireturn, 1) := by decide +kernel
theorem dX9_power_65 : decode cX9_power 65 = .ok (.aload_n 0, 1) := by decide +kernel
theorem dX9_power_66 : decode cX9_power 66 = .ok (.getfield 13, 3) := by decide +kernel
theorem dX9_power_69 : decode cX9_power 69 = .ok (.iconst 2, 1) := by decide +kernel
theorem dX9_power_70 : decode cX9_power 70 = .ok (.iaload, 1) := by decide +kernel
theorem dX9_power_71 : decode cX9_power 71 = .ok (.istore 4, 2) := by decide +kernel
theorem dX9_power_73 : decode cX9_power 73 = .ok (.aload_n 0, 1) := by decide +kernel
theorem dX9_power_74 : decode cX9_power 74 = .ok (.iconst 0, 1) := by decide +kernel
theorem dX9_power_75 : decode cX9_power 75 = .ok (.putfield 198, 3) := by decide +kernel
theorem dX9_power_78 : decode cX9_power 78 = .ok (.aload_n 0, 1) := by decide +kernel
theorem dX9_power_79 : decode cX9_power 79 = .ok (.iconst 0, 1) := by decide +kernel
theorem dX9_power_80 : decode cX9_power 80 = .ok (.putfield 191, 3) := by decide +kernel
theorem dX9_power_83 : decode cX9_power 83 = .ok (.aload_n 0, 1) := by decide +kernel
theorem dX9_power_84 : decode cX9_power 84 = .ok (.iload_n 1, 1) := by decide +kernel
theorem dX9_power_85 : decode cX9_power 85 = .ok (.iload_n 2, 1) := by decide +kernel
theorem dX9_power_86 : decode cX9_power 86 = .ok (.iload 4, 2) := by decide +kernel
theorem dX9_power_88 : decode cX9_power 88 = .ok (.iconst 0, 1) := by decide +kernel
theorem dX9_power_89 : decode cX9_power 89 = .ok (.iconst 1, 1) := by decide +kernel
theorem dX9_power_90 : decode cX9_power 90 = .ok (.aload_n 0, 1) := by decide +kernel
theorem dX9_power_91 : decode cX9_power 91 = .ok (.getfield 13, 3) := by decide +kernel
theorem dX9_power_94 : decode cX9_power 94 = .ok (.iconst 0, 1) := by decide +kernel
theorem dX9_power_95 : decode cX9_power 95 = .ok (.iaload, 1) := by decide +kernel
theorem dX9_power_96 : decode cX9_power 96 = .ok (.ishl, 1) := by decide +kernel
theorem dX9_power_97 : decode cX9_power 97 = .ok (.iconst 1, 1) := by decide +kernel
theorem dX9_power_98 : decode cX9_power 98 = .ok (.isub, 1) := by decide +kernel
theorem dX9_power_99 : decode cX9_power 99 = .ok (.iconst 1, 1) := by decide +kernel
theorem dX9_power_100 : decode cX9_power 100 = .ok (.aload_n 0, 1) := by decide +kernel
theorem dX9_power_101 : decode cX9_power 101 = .ok (.iload_n 2, 1) := by decide +kernel
theorem dX9_power_102 : decode cX9_power 102 = .ok (.iconst 0, 1) := by decide +kernel
theorem dX9_power_103 : decode cX9_power 103 = .ok (.invokevirtual 122, 3) := by decide +kernel
theorem dX9_power_106 : decode cX9_power 106 = .ok (.ishl, 1) := by decide +kernel
theorem dX9_power_107 : decode cX9_power 107 = .ok (.iconst (-1), 1) := by decide +kernel
theorem dX9_power_108 : decode cX9_power 108 = .ok (.ixor, 1) := by decide +kernel
theorem dX9_power_109 : decode cX9_power 109 = .ok (.iand, 1) := by decide +kernel
theorem dX9_power_110 : decode cX9_power 110 = .ok (.invokevirtual 194, 3) := by decide +kernel
theorem dX9_power_113 : decode cX9_power 113 = .ok (.aload_n 0, 1) := by decide +kernel
theorem dX9_power_114 : decode cX9_power 114 = .ok (.getfield 13, 3) := by decide +kernel
theorem dX9_power_117 : decode cX9_power 117 = .ok (.iconst 2, 1) := by decide +kernel
theorem dX9_power_118 : decode cX9_power 118 = .ok (.iload 4, 2) := by decide +kernel
theorem dX9_power_120 : decode cX9_power 120 = .ok (.iastore, 1) := by decide +kernel
theorem dX9_power_121 : decode cX9_power 121 = .ok (.aload_n 0, 1) := by decide +kernel
theorem dX9_power_122 : decode cX9_power 122 = .ok (.getfield 191, 3) := by decide +kernel
theorem dX9_power_125 : decode cX9_power 125 = .ok (.aload_n 0, 1) := by decide +kernel
theorem dX9_power_126 : decode cX9_power 126 = .ok (.getfield 198, 3) := by decide +kernel
theorem dX9_power_129 : decode cX9_power 129 = .ok (.invokestatic 201, 3) := by decide +kernel
theorem dX9_power_132 : decode cX9_power 132 = .ok (.istore 5, 2) := by decide +kernel
theorem dX9_power_134 : decode cX9_power 134 = .ok (.iload_n 3, 1) := by decide +kernel
theorem dX9_power_135 : decode cX9_power 135 = .ok (.ifCond .ne 13, 3) := by decide +kernel
theorem dX9_power_138 : decode cX9_power 138 = .ok (.aload_n 0, 1) := by decide +kernel
theorem dX9_power_139 : decode cX9_power 139 = .ok (.getfield 198, 3) := by decide +kernel
theorem dX9_power_142 : decode cX9_power 142 = .ok (.iload 5, 2) := by decide +kernel
theorem dX9_power_144 : decode cX9_power 144 = .ok (.idiv, 1) := by decide +kernel
theorem dX9_power_145 : decode cX9_power 145 = .ok (.goto 10, 3) := by decide +kernel
theorem dX9_power_148 : decode cX9_power 148 = .ok (.aload_n 0, 1) := by decide +kernel
theorem dX9_power_149 : decode cX9_power 149 = .ok (.getfield 191, 3) := by decide +kernel
theorem dX9_power_152 : decode cX9_power 152 = .ok (.iload 5, 2) := by decide +kernel
theorem dX9_power_154 : decode cX9_power 154 = .ok (.idiv, 1) := by decide +kernel
theorem dX9_power_155 : decode cX9_power 155 = .ok (.ireturn, 1) := by decide +kernel
theorem dX9_weds_0 : decode cX9_weds 0 = .ok (.iconst 0, 1) := by decide +kernel
theorem dX9_weds_1 : decode cX9_weds 1 = .ok (.istore_n 3, 1) := by decide +kernel
theorem dX9_weds_2 : decode cX9_weds 2 = .ok (.iload_n 3, 1) := by decide +kernel
theorem dX9_weds_3 : decode cX9_weds 3 = .ok (.aload_n 0, 1) := by decide +kernel
theorem dX9_weds_4 : decode cX9_weds 4 = .ok (.getfield 13, 3) := by decide +kernel
theorem dX9_weds_7 : decode cX9_weds 7 = .ok (.iconst 0, 1) := by decide +kernel
theorem dX9_weds_8 : decode cX9_weds 8 = .ok (.iaload, 1) := by decide +kernel
theorem dX9_weds_9 : decode cX9_weds 9 = .ok (.if_icmp .ge 44, 3) := by decide +kernel
theorem dX9_weds_12 : decode cX9_weds 12 = .ok (.aload_n 0, 1) := by decide +kernel
theorem dX9_weds_13 : decode cX9_weds 13 = .ok (.iload_n 3, 1) := by decide +kernel
theorem dX9_weds_14 : decode cX9_weds 14 = .ok (.iconst 3, 1) := by decide +kernel
theorem dX9_weds_15 : decode cX9_weds 15 = .ok (.invokevirtual 109, 3) := by decide +kernel
theorem dX9_weds_18 : decode cX9_weds 18 = .ok (.iload_n 1, 1) := by decide +kernel
theorem dX9_weds_19 : decode cX9_weds 19 = .ok (.if_icmp .eq 13, 3) := by decide +kernel
theorem dX9_weds_22 : decode cX9_weds 22 = .ok (.aload_n 0, 1) := by decide +kernel
theorem dX9_weds_23 : decode cX9_weds 23 = .ok (.iload_n 3, 1) := by decide +kernel
theorem dX9_weds_24 : decode cX9_weds 24 = .ok (.iconst 3, 1) := by decide +kernel
theorem dX9_weds_25 : decode cX9_weds 25 = .ok (.invokevirtual 109, 3) := by decide +kernel
theorem dX9_weds_28 : decode cX9_weds 28 = .ok (.iload_n 2, 1) := by decide +kernel
theorem dX9_weds_29 : decode cX9_weds 29 = .ok (.if_icmp .ne 18, 3) := by decide +kernel
theorem dX9_weds_32 : decode cX9_weds 32 = .ok (.aload_n 0, 1) := by decide +kernel
theorem dX9_weds_33 : decode cX9_weds 33 = .ok (.getfield 13, 3) := by decide +kernel
theorem dX9_weds_36 : decode cX9_weds 36 = .ok (.bipush 121, 2) := by decide +kernel
theorem dX9_weds_38 : decode cX9_weds 38 = .ok (.iconst 4, 1) := by decide +kernel
theorem dX9_weds_39 : decode cX9_weds 39 = .ok (.iload_n 3, 1) := by decide +kernel
theorem dX9_weds_40 : decode cX9_weds 40 = .ok (.imul, 1) := by decide +kernel
theorem dX9_weds_41 : decode cX9_weds 41 = .ok (.iadd, 1) := by decide +kernel
theorem dX9_weds_42 : decode cX9_weds 42 = .ok (.iconst 3, 1) := by decide +kernel
theorem dX9_weds_43 : decode cX9_weds 43 = .ok (.iadd, 1) := by decide +kernel
theorem dX9_weds_44 : decode cX9_weds 44 = .ok (.bipush (-9), 2) := by decide +kernel
theorem dX9_weds_46 : decode cX9_weds 46 = .ok (.iastore, 1) := by decide +kernel
theorem dX9_weds_47 : decode cX9_weds 47 = .ok (.iinc 3 1, 3) := by decide +kernel
theorem dX9_weds_50 : decode cX9_weds 50 = .ok (.goto (-48), 3) := by decide +kernel
theorem dX9_weds_53 : decode cX9_weds 53 = .ok (.aload_n 0, 1) := by decide +kernel
theorem dX9_weds_54 : decode cX9_weds 54 = .ok (.getfield 13, 3) := by decide +kernel
theorem dX9_weds_57 : decode cX9_weds 57 = .ok (.bipush 121, 2) := by decide +kernel
theorem dX9_weds_59 : decode cX9_weds 59 = .ok (.iconst 4, 1) := by decide +kernel
theorem dX9_weds_60 : decode cX9_weds 60 = .ok (.iload_n 1, 1) := by decide +kernel
theorem dX9_weds_61 : decode cX9_weds 61 = .ok (.imul, 1) := by decide +kernel
theorem dX9_weds_62 : decode cX9_weds 62 = .ok (.iadd, 1) := by decide +kernel
theorem dX9_weds_63 : decode cX9_weds 63 = .ok (.iconst 3, 1) := by decide +kernel
theorem dX9_weds_64 : decode cX9_weds 64 = .ok (.iadd, 1) := by decide +kernel
theorem dX9_weds_65 : decode cX9_weds 65 = .ok (.iload_n 2, 1) := by decide +kernel
theorem dX9_weds_66 : decode cX9_weds 66 = .ok (.iastore, 1) := by decide +kernel
theorem dX9_weds_67 : decode cX9_weds 67 = .ok (.aload_n 0, 1) := by decide +kernel
theorem dX9_weds_68 : decode cX9_weds 68 = .ok (.getfield 13, 3) := by decide +kernel
theorem dX9_weds_71 : decode cX9_weds 71 = .ok (.bipush 121, 2) := by decide +kernel
theorem dX9_weds_73 : decode cX9_weds 73 = .ok (.iconst 4, 1) := by decide +kernel
theorem dX9_weds_74 : decode cX9_weds 74 = .ok (.iload_n 2, 1) := by decide +kernel
theorem dX9_weds_75 : decode cX9_weds 75 = .ok (.imul, 1) := by decide +kernel
theorem dX9_weds_76 : decode cX9_weds 76 = .ok (.iadd, 1) := by decide +kernel
theorem dX9_weds_77 : decode cX9_weds 77 = .ok (.iconst 3, 1) := by decide +kernel
theorem dX9_weds_78 : decode cX9_weds 78 = .ok (.iadd, 1) := by decide +kernel
theorem dX9_weds_79 : decode cX9_weds 79 = .ok (.iload_n 1, 1) := by decide +kernel
theorem dX9_weds_80 : decode cX9_weds 80 = .ok (.iastore, 1) := by decide +kernel
theorem dX9_weds_81 : decode cX9_weds 81 = .ok (.return_, 1) := by decide +kernel
theorem dX9_costsOf_0 : decode cX9_costsOf 0 = .ok (.iconst 0, 1) := by decide +kernel
theorem dX9_costsOf_1 : decode cX9_costsOf 1 = .ok (.istore_n 2, 1) := by decide +kernel
theorem dX9_costsOf_2 : decode cX9_costsOf 2 = .ok (.iconst 0, 1) := by decide +kernel
theorem dX9_costsOf_3 : decode cX9_costsOf 3 = .ok (.istore_n 3, 1) := by decide +kernel
theorem dX9_costsOf_4 : decode cX9_costsOf 4 = .ok (.iload_n 3, 1) := by decide +kernel
theorem dX9_costsOf_5 : decode cX9_costsOf 5 = .ok (.aload_n 0, 1) := by decide +kernel
theorem dX9_costsOf_6 : decode cX9_costsOf 6 = .ok (.getfield 13, 3) := by decide +kernel
theorem dX9_costsOf_9 : decode cX9_costsOf 9 = .ok (.iconst 1, 1) := by decide +kernel
theorem dX9_costsOf_10 : decode cX9_costsOf 10 = .ok (.iaload, 1) := by decide +kernel
theorem dX9_costsOf_11 : decode cX9_costsOf 11 = .ok (.if_icmp .ge 44, 3) := by decide +kernel
theorem dX9_costsOf_14 : decode cX9_costsOf 14 = .ok (.aload_n 0, 1) := by decide +kernel
theorem dX9_costsOf_15 : decode cX9_costsOf 15 = .ok (.iload_n 3, 1) := by decide +kernel
theorem dX9_costsOf_16 : decode cX9_costsOf 16 = .ok (.iconst 0, 1) := by decide +kernel
theorem dX9_costsOf_17 : decode cX9_costsOf 17 = .ok (.invokevirtual 122, 3) := by decide +kernel
theorem dX9_costsOf_20 : decode cX9_costsOf 20 = .ok (.iload_n 1, 1) := by decide +kernel
theorem dX9_costsOf_21 : decode cX9_costsOf 21 = .ok (.if_icmp .eq 6, 3) := by decide +kernel
theorem dX9_costsOf_24 : decode cX9_costsOf 24 = .ok (.goto 25, 3) := by decide +kernel
theorem dX9_costsOf_27 : decode cX9_costsOf 27 = .ok (.aload_n 0, 1) := by decide +kernel
theorem dX9_costsOf_28 : decode cX9_costsOf 28 = .ok (.iload_n 3, 1) := by decide +kernel
theorem dX9_costsOf_29 : decode cX9_costsOf 29 = .ok (.invokevirtual 159, 3) := by decide +kernel
theorem dX9_costsOf_32 : decode cX9_costsOf 32 = .ok (.istore 4, 2) := by decide +kernel
theorem dX9_costsOf_34 : decode cX9_costsOf 34 = .ok (.iload_n 2, 1) := by decide +kernel
theorem dX9_costsOf_35 : decode cX9_costsOf 35 = .ok (.iload 4, 2) := by decide +kernel
theorem dX9_costsOf_37 : decode cX9_costsOf 37 = .ok (.ifCond .ge 8, 3) := by decide +kernel
theorem dX9_costsOf_40 : decode cX9_costsOf 40 = .ok (.bipush 100, 2) := by decide +kernel
theorem dX9_costsOf_42 : decode cX9_costsOf 42 = .ok (.goto 5, 3) := by decide +kernel
theorem dX9_costsOf_45 : decode cX9_costsOf 45 = .ok (.iload 4, 2) := by decide +kernel
theorem dX9_costsOf_47 : decode cX9_costsOf 47 = .ok (.iadd, 1) := by decide +kernel
theorem dX9_costsOf_48 : decode cX9_costsOf 48 = .ok (.istore_n 2, 1) := by decide +kernel
theorem dX9_costsOf_49 : decode cX9_costsOf 49 = .ok (.iinc 3 1, 3) := by decide +kernel
theorem dX9_costsOf_52 : decode cX9_costsOf 52 = .ok (.goto (-48), 3) := by decide +kernel
theorem dX9_costsOf_55 : decode cX9_costsOf 55 = .ok (.iload_n 2, 1) := by decide +kernel
theorem dX9_costsOf_56 : decode cX9_costsOf 56 = .ok (.ireturn, 1) := by decide +kernel
theorem dX9_wed_0 : decode cX9_wed 0 = .ok (.aload_n 0, 1) := by decide +kernel
theorem dX9_wed_1 : decode cX9_wed 1 = .ok (.iload_n 1, 1) := by decide +kernel
theorem dX9_wed_2 : decode cX9_wed 2 = .ok (.invokevirtual 106, 3) := by decide +kernel
theorem dX9_wed_5 : decode cX9_wed 5 = .ok (.ifCond .ne 9, 3) := by decide +kernel
theorem dX9_wed_8 : decode cX9_wed 8 = .ok (.aload_n 0, 1) := by decide +kernel
theorem dX9_wed_9 : decode cX9_wed 9 = .ok (.iconst (-1), 1) := by decide +kernel
theorem dX9_wed_10 : decode cX9_wed 10 = .ok (.invokevirtual 54, 3) := by decide +kernel
theorem dX9_wed_13 : decode cX9_wed 13 = .ok (.ireturn, 1) := by decide +kernel
theorem dX9_wed_14 : decode cX9_wed 14 = .ok (.bipush (-9), 2) := by decide +kernel
theorem dX9_wed_16 : decode cX9_wed 16 = .ok (.istore_n 2, 1) := by decide +kernel
theorem dX9_wed_17 : decode cX9_wed 17 = .ok (.aload_n 0, 1) := by decide +kernel
theorem dX9_wed_18 : decode cX9_wed 18 = .ok (.iload_n 1, 1) := by decide +kernel
theorem dX9_wed_19 : decode cX9_wed 19 = .ok (.invokevirtual 204, 3) := by decide +kernel
theorem dX9_wed_22 : decode cX9_wed 22 = .ok (.istore_n 3, 1) := by decide +kernel
theorem dX9_wed_23 : decode cX9_wed 23 = .ok (.aload_n 0, 1) := by decide +kernel
theorem dX9_wed_24 : decode cX9_wed 24 = .ok (.getfield 13, 3) := by decide +kernel
theorem dX9_wed_27 : decode cX9_wed 27 = .ok (.aload_n 0, 1) := by decide +kernel
theorem dX9_wed_28 : decode cX9_wed 28 = .ok (.getfield 22, 3) := by decide +kernel
theorem dX9_wed_31 : decode cX9_wed 31 = .ok (.invokestatic 96, 3) := by decide +kernel
theorem dX9_wed_34 : decode cX9_wed 34 = .ok (.iconst 0, 1) := by decide +kernel
theorem dX9_wed_35 : decode cX9_wed 35 = .ok (.istore 4, 2) := by decide +kernel
theorem dX9_wed_37 : decode cX9_wed 37 = .ok (.iload 4, 2) := by decide +kernel
theorem dX9_wed_39 : decode cX9_wed 39 = .ok (.aload_n 0, 1) := by decide +kernel
theorem dX9_wed_40 : decode cX9_wed 40 = .ok (.getfield 13, 3) := by decide +kernel
theorem dX9_wed_43 : decode cX9_wed 43 = .ok (.iconst 0, 1) := by decide +kernel
theorem dX9_wed_44 : decode cX9_wed 44 = .ok (.iaload, 1) := by decide +kernel
theorem dX9_wed_45 : decode cX9_wed 45 = .ok (.if_icmp .ge 58, 3) := by decide +kernel
theorem dX9_wed_48 : decode cX9_wed 48 = .ok (.iload 4, 2) := by decide +kernel
theorem dX9_wed_50 : decode cX9_wed 50 = .ok (.iload_n 1, 1) := by decide +kernel
theorem dX9_wed_51 : decode cX9_wed 51 = .ok (.if_icmp .ne 6, 3) := by decide +kernel
theorem dX9_wed_54 : decode cX9_wed 54 = .ok (.goto 43, 3) := by decide +kernel
theorem dX9_wed_57 : decode cX9_wed 57 = .ok (.aload_n 0, 1) := by decide +kernel
theorem dX9_wed_58 : decode cX9_wed 58 = .ok (.iload_n 1, 1) := by decide +kernel
theorem dX9_wed_59 : decode cX9_wed 59 = .ok (.iload 4, 2) := by decide +kernel
theorem dX9_wed_61 : decode cX9_wed 61 = .ok (.invokevirtual 207, 3) := by decide +kernel
theorem dX9_wed_64 : decode cX9_wed 64 = .ok (.aload_n 0, 1) := by decide +kernel
theorem dX9_wed_65 : decode cX9_wed 65 = .ok (.iload_n 1, 1) := by decide +kernel
theorem dX9_wed_66 : decode cX9_wed 66 = .ok (.invokevirtual 204, 3) := by decide +kernel
theorem dX9_wed_69 : decode cX9_wed 69 = .ok (.istore 5, 2) := by decide +kernel
theorem dX9_wed_71 : decode cX9_wed 71 = .ok (.aload_n 0, 1) := by decide +kernel
theorem dX9_wed_72 : decode cX9_wed 72 = .ok (.getfield 22, 3) := by decide +kernel
theorem dX9_wed_75 : decode cX9_wed 75 = .ok (.aload_n 0, 1) := by decide +kernel
theorem dX9_wed_76 : decode cX9_wed 76 = .ok (.getfield 13, 3) := by decide +kernel
theorem dX9_wed_79 : decode cX9_wed 79 = .ok (.invokestatic 96, 3) := by decide +kernel
theorem dX9_wed_82 : decode cX9_wed 82 = .ok (.iload 5, 2) := by decide +kernel
theorem dX9_wed_84 : decode cX9_wed 84 = .ok (.iload_n 3, 1) := by decide +kernel
theorem dX9_wed_85 : decode cX9_wed 85 = .ok (.if_icmp .lt 6, 3) := by decide +kernel
theorem dX9_wed_88 : decode cX9_wed 88 = .ok (.goto 9, 3) := by decide +kernel
theorem dX9_wed_91 : decode cX9_wed 91 = .ok (.iload 4, 2) := by decide +kernel
theorem dX9_wed_93 : decode cX9_wed 93 = .ok (.istore_n 2, 1) := by decide +kernel
theorem dX9_wed_94 : decode cX9_wed 94 = .ok (.iload 5, 2) := by decide +kernel
theorem dX9_wed_96 : decode cX9_wed 96 = .ok (.istore_n 3, 1) := by decide +kernel
theorem dX9_wed_97 : decode cX9_wed 97 = .ok (.iinc 4 1, 3) := by decide +kernel
theorem dX9_wed_100 : decode cX9_wed 100 = .ok (.goto (-63), 3) := by decide +kernel
theorem dX9_wed_103 : decode cX9_wed 103 = .ok (.iload_n 2, 1) := by decide +kernel
theorem dX9_wed_104 : decode cX9_wed 104 = .ok (.ireturn, 1) := by decide +kernel
theorem dX9_marry_0 : decode cX9_marry 0 = .ok (.aload_n 0, 1) := by decide +kernel
theorem dX9_marry_1 : decode cX9_marry 1 = .ok (.iload_n 1, 1) := by decide +kernel
theorem dX9_marry_2 : decode cX9_marry 2 = .ok (.invokevirtual 106, 3) := by decide +kernel
theorem dX9_marry_5 : decode cX9_marry 5 = .ok (.ifCond .eq 16, 3) := by decide +kernel
theorem dX9_marry_8 : decode cX9_marry 8 = .ok (.aload_n 0, 1) := by decide +kernel
theorem dX9_marry_9 : decode cX9_marry 9 = .ok (.iload_n 2, 1) := by decide +kernel
theorem dX9_marry_10 : decode cX9_marry 10 = .ok (.invokevirtual 106, 3) := by decide +kernel
theorem dX9_marry_13 : decode cX9_marry 13 = .ok (.ifCond .eq 8, 3) := by decide +kernel
theorem dX9_marry_16 : decode cX9_marry 16 = .ok (.iload_n 1, 1) := by decide +kernel
theorem dX9_marry_17 : decode cX9_marry 17 = .ok (.iload_n 2, 1) := by decide +kernel
theorem dX9_marry_18 : decode cX9_marry 18 = .ok (.if_icmp .ne 9, 3) := by decide +kernel
theorem dX9_marry_21 : decode cX9_marry 21 = .ok (.aload_n 0, 1) := by decide +kernel
theorem dX9_marry_22 : decode cX9_marry 22 = .ok (.iconst (-1), 1) := by decide +kernel
theorem dX9_marry_23 : decode cX9_marry 23 = .ok (.invokevirtual 54, 3) := by decide +kernel
theorem dX9_marry_26 : decode cX9_marry 26 = .ok (.ireturn, 1) := by decide +kernel
theorem dX9_marry_27 : decode cX9_marry 27 = .ok (.aload_n 0, 1) := by decide +kernel
theorem dX9_marry_28 : decode cX9_marry 28 = .ok (.iload_n 1, 1) := by decide +kernel
theorem dX9_marry_29 : decode cX9_marry 29 = .ok (.iload_n 2, 1) := by decide +kernel
theorem dX9_marry_30 : decode cX9_marry 30 = .ok (.invokevirtual 207, 3) := by decide +kernel
theorem dX9_marry_33 : decode cX9_marry 33 = .ok (.iconst 1, 1) := by decide +kernel
theorem dX9_marry_34 : decode cX9_marry 34 = .ok (.ireturn, 1) := by decide +kernel
theorem dX9_wedTo_0 : decode cX9_wedTo 0 = .ok (.aload_n 0, 1) := by decide +kernel
theorem dX9_wedTo_1 : decode cX9_wedTo 1 = .ok (.iload_n 1, 1) := by decide +kernel
theorem dX9_wedTo_2 : decode cX9_wedTo 2 = .ok (.invokevirtual 106, 3) := by decide +kernel
theorem dX9_wedTo_5 : decode cX9_wedTo 5 = .ok (.ifCond .eq 12, 3) := by decide +kernel
theorem dX9_wedTo_8 : decode cX9_wedTo 8 = .ok (.aload_n 0, 1) := by decide +kernel
theorem dX9_wedTo_9 : decode cX9_wedTo 9 = .ok (.iload_n 1, 1) := by decide +kernel
theorem dX9_wedTo_10 : decode cX9_wedTo 10 = .ok (.iconst 3, 1) := by decide +kernel
theorem dX9_wedTo_11 : decode cX9_wedTo 11 = .ok (.invokevirtual 109, 3) := by decide +kernel
theorem dX9_wedTo_14 : decode cX9_wedTo 14 = .ok (.goto 8, 3) := by decide +kernel
theorem dX9_wedTo_17 : decode cX9_wedTo 17 = .ok (.aload_n 0, 1) := by decide +kernel
theorem dX9_wedTo_18 : decode cX9_wedTo 18 = .ok (.iconst (-1), 1) := by decide +kernel
theorem dX9_wedTo_19 : decode cX9_wedTo 19 = .ok (.invokevirtual 54, 3) := by decide +kernel
theorem dX9_wedTo_22 : decode cX9_wedTo 22 = .ok (.ireturn, 1) := by decide +kernel
theorem dX9_heirs_0 : decode cX9_heirs 0 = .ok (.iload_n 1, 1) := by decide +kernel
theorem dX9_heirs_1 : decode cX9_heirs 1 = .ok (.invokestatic 116, 3) := by decide +kernel
theorem dX9_heirs_4 : decode cX9_heirs 4 = .ok (.ifCond .eq 14, 3) := by decide +kernel
theorem dX9_heirs_7 : decode cX9_heirs 7 = .ok (.iload_n 2, 1) := by decide +kernel
theorem dX9_heirs_8 : decode cX9_heirs 8 = .ok (.iconst 0, 1) := by decide +kernel
theorem dX9_heirs_9 : decode cX9_heirs 9 = .ok (.sipush 9999, 3) := by decide +kernel
theorem dX9_heirs_12 : decode cX9_heirs 12 = .ok (.invokestatic 125, 3) := by decide +kernel
theorem dX9_heirs_15 : decode cX9_heirs 15 = .ok (.goto 4, 3) := by decide +kernel
theorem dX9_heirs_18 : decode cX9_heirs 18 = .ok (.iconst (-1), 1) := by decide +kernel
theorem dX9_heirs_19 : decode cX9_heirs 19 = .ok (.istore_n 3, 1) := by decide +kernel
theorem dX9_heirs_20 : decode cX9_heirs 20 = .ok (.iload_n 3, 1) := by decide +kernel
theorem dX9_heirs_21 : decode cX9_heirs 21 = .ok (.ifCond .eq 9, 3) := by decide +kernel
theorem dX9_heirs_24 : decode cX9_heirs 24 = .ok (.aload_n 0, 1) := by decide +kernel
theorem dX9_heirs_25 : decode cX9_heirs 25 = .ok (.iload_n 3, 1) := by decide +kernel
theorem dX9_heirs_26 : decode cX9_heirs 26 = .ok (.invokevirtual 54, 3) := by decide +kernel
theorem dX9_heirs_29 : decode cX9_heirs 29 = .ok (.ireturn, 1) := by decide +kernel
theorem dX9_heirs_30 : decode cX9_heirs 30 = .ok (.iconst 0, 1) := by decide +kernel
theorem dX9_heirs_31 : decode cX9_heirs 31 = .ok (.istore 4, 2) := by decide +kernel
theorem dX9_heirs_33 : decode cX9_heirs 33 = .ok (.iload 4, 2) := by decide +kernel
theorem dX9_heirs_35 : decode cX9_heirs 35 = .ok (.bipush 20, 2) := by decide +kernel
theorem dX9_heirs_37 : decode cX9_heirs 37 = .ok (.if_icmp .gt 30, 3) := by decide +kernel
theorem dX9_heirs_40 : decode cX9_heirs 40 = .ok (.aload_n 0, 1) := by decide +kernel
theorem dX9_heirs_41 : decode cX9_heirs 41 = .ok (.getfield 13, 3) := by decide +kernel
theorem dX9_heirs_44 : decode cX9_heirs 44 = .ok (.bipush 9, 2) := by decide +kernel
theorem dX9_heirs_46 : decode cX9_heirs 46 = .ok (.iconst 4, 1) := by decide +kernel
theorem dX9_heirs_47 : decode cX9_heirs 47 = .ok (.iload_n 1, 1) := by decide +kernel
theorem dX9_heirs_48 : decode cX9_heirs 48 = .ok (.imul, 1) := by decide +kernel
theorem dX9_heirs_49 : decode cX9_heirs 49 = .ok (.iadd, 1) := by decide +kernel
theorem dX9_heirs_50 : decode cX9_heirs 50 = .ok (.iaload, 1) := by decide +kernel
theorem dX9_heirs_51 : decode cX9_heirs 51 = .ok (.iload 4, 2) := by decide +kernel
theorem dX9_heirs_53 : decode cX9_heirs 53 = .ok (.ishl, 1) := by decide +kernel
theorem dX9_heirs_54 : decode cX9_heirs 54 = .ok (.iload_n 2, 1) := by decide +kernel
theorem dX9_heirs_55 : decode cX9_heirs 55 = .ok (.if_icmp .le 6, 3) := by decide +kernel
theorem dX9_heirs_58 : decode cX9_heirs 58 = .ok (.iload 4, 2) := by decide +kernel
theorem dX9_heirs_60 : decode cX9_heirs 60 = .ok (.ireturn, 1) := by decide +kernel
theorem dX9_heirs_61 : decode cX9_heirs 61 = .ok (.iinc 4 1, 3) := by decide +kernel
theorem dX9_heirs_64 : decode cX9_heirs 64 = .ok (.goto (-31), 3) := by decide +kernel
theorem dX9_heirs_67 : decode cX9_heirs 67 = .ok (.bipush (-9), 2) := by decide +kernel
theorem dX9_heirs_69 : decode cX9_heirs 69 = .ok (.ireturn, 1) := by decide +kernel
theorem dX9_netsBy_0 : decode cX9_netsBy 0 = .ok (.iconst 0, 1) := by decide +kernel
theorem dX9_netsBy_1 : decode cX9_netsBy 1 = .ok (.istore_n 2, 1) := by decide +kernel
theorem dX9_netsBy_2 : decode cX9_netsBy 2 = .ok (.iconst 0, 1) := by decide +kernel
theorem dX9_netsBy_3 : decode cX9_netsBy 3 = .ok (.istore_n 3, 1) := by decide +kernel
theorem dX9_netsBy_4 : decode cX9_netsBy 4 = .ok (.iload_n 3, 1) := by decide +kernel
theorem dX9_netsBy_5 : decode cX9_netsBy 5 = .ok (.aload_n 0, 1) := by decide +kernel
theorem dX9_netsBy_6 : decode cX9_netsBy 6 = .ok (.getfield 13, 3) := by decide +kernel
theorem dX9_netsBy_9 : decode cX9_netsBy 9 = .ok (.iconst 1, 1) := by decide +kernel
theorem dX9_netsBy_10 : decode cX9_netsBy 10 = .ok (.iaload, 1) := by decide +kernel
theorem dX9_netsBy_11 : decode cX9_netsBy 11 = .ok (.if_icmp .ge 41, 3) := by decide +kernel
theorem dX9_netsBy_14 : decode cX9_netsBy 14 = .ok (.aload_n 0, 1) := by decide +kernel
theorem dX9_netsBy_15 : decode cX9_netsBy 15 = .ok (.iload_n 3, 1) := by decide +kernel
theorem dX9_netsBy_16 : decode cX9_netsBy 16 = .ok (.aload_n 0, 1) := by decide +kernel
theorem dX9_netsBy_17 : decode cX9_netsBy 17 = .ok (.iload_n 3, 1) := by decide +kernel
theorem dX9_netsBy_18 : decode cX9_netsBy 18 = .ok (.iconst 4, 1) := by decide +kernel
theorem dX9_netsBy_19 : decode cX9_netsBy 19 = .ok (.invokevirtual 122, 3) := by decide +kernel
theorem dX9_netsBy_22 : decode cX9_netsBy 22 = .ok (.iload_n 1, 1) := by decide +kernel
theorem dX9_netsBy_23 : decode cX9_netsBy 23 = .ok (.imul, 1) := by decide +kernel
theorem dX9_netsBy_24 : decode cX9_netsBy 24 = .ok (.bipush 100, 2) := by decide +kernel
theorem dX9_netsBy_26 : decode cX9_netsBy 26 = .ok (.idiv, 1) := by decide +kernel
theorem dX9_netsBy_27 : decode cX9_netsBy 27 = .ok (.invokevirtual 162, 3) := by decide +kernel
theorem dX9_netsBy_30 : decode cX9_netsBy 30 = .ok (.istore 4, 2) := by decide +kernel
theorem dX9_netsBy_32 : decode cX9_netsBy 32 = .ok (.iload_n 2, 1) := by decide +kernel
theorem dX9_netsBy_33 : decode cX9_netsBy 33 = .ok (.iload 4, 2) := by decide +kernel
theorem dX9_netsBy_35 : decode cX9_netsBy 35 = .ok (.ifCond .ge 7, 3) := by decide +kernel
theorem dX9_netsBy_38 : decode cX9_netsBy 38 = .ok (.iconst 0, 1) := by decide +kernel
theorem dX9_netsBy_39 : decode cX9_netsBy 39 = .ok (.goto 5, 3) := by decide +kernel
theorem dX9_netsBy_42 : decode cX9_netsBy 42 = .ok (.iload 4, 2) := by decide +kernel
theorem dX9_netsBy_44 : decode cX9_netsBy 44 = .ok (.iadd, 1) := by decide +kernel
theorem dX9_netsBy_45 : decode cX9_netsBy 45 = .ok (.istore_n 2, 1) := by decide +kernel
theorem dX9_netsBy_46 : decode cX9_netsBy 46 = .ok (.iinc 3 1, 3) := by decide +kernel
theorem dX9_netsBy_49 : decode cX9_netsBy 49 = .ok (.goto (-45), 3) := by decide +kernel
theorem dX9_netsBy_52 : decode cX9_netsBy 52 = .ok (.iload_n 2, 1) := by decide +kernel
theorem dX9_netsBy_53 : decode cX9_netsBy 53 = .ok (.ireturn, 1) := by decide +kernel
theorem dX9_give_0 : decode cX9_give 0 = .ok (.aload_n 0, 1) := by decide +kernel
theorem dX9_give_1 : decode cX9_give 1 = .ok (.getfield 13, 3) := by decide +kernel
theorem dX9_give_4 : decode cX9_give 4 = .ok (.aload_n 0, 1) := by decide +kernel
theorem dX9_give_5 : decode cX9_give 5 = .ok (.getfield 22, 3) := by decide +kernel
theorem dX9_give_8 : decode cX9_give 8 = .ok (.invokestatic 96, 3) := by decide +kernel
theorem dX9_give_11 : decode cX9_give 11 = .ok (.bipush (-9), 2) := by decide +kernel
theorem dX9_give_13 : decode cX9_give 13 = .ok (.istore_n 1, 1) := by decide +kernel
theorem dX9_give_14 : decode cX9_give 14 = .ok (.iconst 0, 1) := by decide +kernel
theorem dX9_give_15 : decode cX9_give 15 = .ok (.istore_n 2, 1) := by decide +kernel
theorem dX9_give_16 : decode cX9_give 16 = .ok (.iconst 0, 1) := by decide +kernel
theorem dX9_give_17 : decode cX9_give 17 = .ok (.istore_n 3, 1) := by decide +kernel
theorem dX9_give_18 : decode cX9_give 18 = .ok (.iload_n 3, 1) := by decide +kernel
theorem dX9_give_19 : decode cX9_give 19 = .ok (.aload_n 0, 1) := by decide +kernel
theorem dX9_give_20 : decode cX9_give 20 = .ok (.getfield 13, 3) := by decide +kernel
theorem dX9_give_23 : decode cX9_give 23 = .ok (.iconst 0, 1) := by decide +kernel
theorem dX9_give_24 : decode cX9_give 24 = .ok (.iaload, 1) := by decide +kernel
theorem dX9_give_25 : decode cX9_give 25 = .ok (.if_icmp .ge 87, 3) := by decide +kernel
theorem dX9_give_28 : decode cX9_give 28 = .ok (.iconst 0, 1) := by decide +kernel
theorem dX9_give_29 : decode cX9_give 29 = .ok (.istore 4, 2) := by decide +kernel
theorem dX9_give_31 : decode cX9_give 31 = .ok (.iload 4, 2) := by decide +kernel
theorem dX9_give_33 : decode cX9_give 33 = .ok (.bipush 28, 2) := by decide +kernel
theorem dX9_give_35 : decode cX9_give 35 = .ok (.if_icmp .ge 34, 3) := by decide +kernel
theorem dX9_give_38 : decode cX9_give 38 = .ok (.aload_n 0, 1) := by decide +kernel
theorem dX9_give_39 : decode cX9_give 39 = .ok (.getfield 13, 3) := by decide +kernel
theorem dX9_give_42 : decode cX9_give 42 = .ok (.bipush 9, 2) := by decide +kernel
theorem dX9_give_44 : decode cX9_give 44 = .ok (.iconst 4, 1) := by decide +kernel
theorem dX9_give_45 : decode cX9_give 45 = .ok (.iload 4, 2) := by decide +kernel
theorem dX9_give_47 : decode cX9_give 47 = .ok (.imul, 1) := by decide +kernel
theorem dX9_give_48 : decode cX9_give 48 = .ok (.iadd, 1) := by decide +kernel
theorem dX9_give_49 : decode cX9_give 49 = .ok (.iaload, 1) := by decide +kernel
theorem dX9_give_50 : decode cX9_give 50 = .ok (.ifCond .ne 13, 3) := by decide +kernel
theorem dX9_give_53 : decode cX9_give 53 = .ok (.aload_n 0, 1) := by decide +kernel
theorem dX9_give_54 : decode cX9_give 54 = .ok (.getfield 13, 3) := by decide +kernel
theorem dX9_give_57 : decode cX9_give 57 = .ok (.iload 4, 2) := by decide +kernel
theorem dX9_give_59 : decode cX9_give 59 = .ok (.iload_n 3, 1) := by decide +kernel
theorem dX9_give_60 : decode cX9_give 60 = .ok (.invokestatic 84, 3) := by decide +kernel
theorem dX9_give_63 : decode cX9_give 63 = .ok (.iinc 4 1, 3) := by decide +kernel
theorem dX9_give_66 : decode cX9_give 66 = .ok (.goto (-35), 3) := by decide +kernel
theorem dX9_give_69 : decode cX9_give 69 = .ok (.aload_n 0, 1) := by decide +kernel
theorem dX9_give_70 : decode cX9_give 70 = .ok (.bipush 100, 2) := by decide +kernel
theorem dX9_give_72 : decode cX9_give 72 = .ok (.invokevirtual 210, 3) := by decide +kernel
theorem dX9_give_75 : decode cX9_give 75 = .ok (.istore 4, 2) := by decide +kernel
theorem dX9_give_77 : decode cX9_give 77 = .ok (.aload_n 0, 1) := by decide +kernel
theorem dX9_give_78 : decode cX9_give 78 = .ok (.getfield 22, 3) := by decide +kernel
theorem dX9_give_81 : decode cX9_give 81 = .ok (.aload_n 0, 1) := by decide +kernel
theorem dX9_give_82 : decode cX9_give 82 = .ok (.getfield 13, 3) := by decide +kernel
theorem dX9_give_85 : decode cX9_give 85 = .ok (.invokestatic 96, 3) := by decide +kernel
theorem dX9_give_88 : decode cX9_give 88 = .ok (.iload_n 1, 1) := by decide +kernel
theorem dX9_give_89 : decode cX9_give 89 = .ok (.ifCond .lt 12, 3) := by decide +kernel
theorem dX9_give_92 : decode cX9_give 92 = .ok (.iload 4, 2) := by decide +kernel
theorem dX9_give_94 : decode cX9_give 94 = .ok (.iload_n 2, 1) := by decide +kernel
theorem dX9_give_95 : decode cX9_give 95 = .ok (.if_icmp .gt 6, 3) := by decide +kernel
theorem dX9_give_98 : decode cX9_give 98 = .ok (.goto 8, 3) := by decide +kernel
theorem dX9_give_101 : decode cX9_give 101 = .ok (.iload_n 3, 1) := by decide +kernel
theorem dX9_give_102 : decode cX9_give 102 = .ok (.istore_n 1, 1) := by decide +kernel
theorem dX9_give_103 : decode cX9_give 103 = .ok (.iload 4, 2) := by decide +kernel
theorem dX9_give_105 : decode cX9_give 105 = .ok (.istore_n 2, 1) := by decide +kernel
theorem dX9_give_106 : decode cX9_give 106 = .ok (.iinc 3 1, 3) := by decide +kernel
theorem dX9_give_109 : decode cX9_give 109 = .ok (.goto (-91), 3) := by decide +kernel
theorem dX9_give_112 : decode cX9_give 112 = .ok (.iload_n 1, 1) := by decide +kernel
theorem dX9_give_113 : decode cX9_give 113 = .ok (.ireturn, 1) := by decide +kernel
theorem dX9_together_0 : decode cX9_together 0 = .ok (.aload_n 0, 1) := by decide +kernel
theorem dX9_together_1 : decode cX9_together 1 = .ok (.iload_n 1, 1) := by decide +kernel
theorem dX9_together_2 : decode cX9_together 2 = .ok (.invokevirtual 106, 3) := by decide +kernel
theorem dX9_together_5 : decode cX9_together 5 = .ok (.ifCond .eq 16, 3) := by decide +kernel
theorem dX9_together_8 : decode cX9_together 8 = .ok (.aload_n 0, 1) := by decide +kernel
theorem dX9_together_9 : decode cX9_together 9 = .ok (.iload_n 2, 1) := by decide +kernel
theorem dX9_together_10 : decode cX9_together 10 = .ok (.invokevirtual 106, 3) := by decide +kernel
theorem dX9_together_13 : decode cX9_together 13 = .ok (.ifCond .eq 8, 3) := by decide +kernel
theorem dX9_together_16 : decode cX9_together 16 = .ok (.iload_n 1, 1) := by decide +kernel
theorem dX9_together_17 : decode cX9_together 17 = .ok (.iload_n 2, 1) := by decide +kernel
theorem dX9_together_18 : decode cX9_together 18 = .ok (.if_icmp .ne 9, 3) := by decide +kernel
theorem dX9_together_21 : decode cX9_together 21 = .ok (.aload_n 0, 1) := by decide +kernel
theorem dX9_together_22 : decode cX9_together 22 = .ok (.iconst (-1), 1) := by decide +kernel
theorem dX9_together_23 : decode cX9_together 23 = .ok (.invokevirtual 54, 3) := by decide +kernel
theorem dX9_together_26 : decode cX9_together 26 = .ok (.ireturn, 1) := by decide +kernel
theorem dX9_together_27 : decode cX9_together 27 = .ok (.iconst 0, 1) := by decide +kernel
theorem dX9_together_28 : decode cX9_together 28 = .ok (.istore_n 3, 1) := by decide +kernel
theorem dX9_together_29 : decode cX9_together 29 = .ok (.iconst 0, 1) := by decide +kernel
theorem dX9_together_30 : decode cX9_together 30 = .ok (.istore 4, 2) := by decide +kernel
theorem dX9_together_32 : decode cX9_together 32 = .ok (.iload 4, 2) := by decide +kernel
theorem dX9_together_34 : decode cX9_together 34 = .ok (.bipush 28, 2) := by decide +kernel
theorem dX9_together_36 : decode cX9_together 36 = .ok (.if_icmp .ge 43, 3) := by decide +kernel
theorem dX9_together_39 : decode cX9_together 39 = .ok (.iload_n 3, 1) := by decide +kernel
theorem dX9_together_40 : decode cX9_together 40 = .ok (.aload_n 0, 1) := by decide +kernel
theorem dX9_together_41 : decode cX9_together 41 = .ok (.getfield 13, 3) := by decide +kernel
theorem dX9_together_44 : decode cX9_together 44 = .ok (.iload 4, 2) := by decide +kernel
theorem dX9_together_46 : decode cX9_together 46 = .ok (.iload_n 1, 1) := by decide +kernel
theorem dX9_together_47 : decode cX9_together 47 = .ok (.invokestatic 80, 3) := by decide +kernel
theorem dX9_together_50 : decode cX9_together 50 = .ok (.ifCond .eq 20, 3) := by decide +kernel
theorem dX9_together_53 : decode cX9_together 53 = .ok (.aload_n 0, 1) := by decide +kernel
theorem dX9_together_54 : decode cX9_together 54 = .ok (.getfield 13, 3) := by decide +kernel
theorem dX9_together_57 : decode cX9_together 57 = .ok (.iload 4, 2) := by decide +kernel
theorem dX9_together_59 : decode cX9_together 59 = .ok (.iload_n 2, 1) := by decide +kernel
theorem dX9_together_60 : decode cX9_together 60 = .ok (.invokestatic 80, 3) := by decide +kernel
theorem dX9_together_63 : decode cX9_together 63 = .ok (.ifCond .eq 7, 3) := by decide +kernel
theorem dX9_together_66 : decode cX9_together 66 = .ok (.iconst 1, 1) := by decide +kernel
theorem dX9_together_67 : decode cX9_together 67 = .ok (.goto 4, 3) := by decide +kernel
theorem dX9_together_70 : decode cX9_together 70 = .ok (.iconst 0, 1) := by decide +kernel
theorem dX9_together_71 : decode cX9_together 71 = .ok (.iadd, 1) := by decide +kernel
theorem dX9_together_72 : decode cX9_together 72 = .ok (.istore_n 3, 1) := by decide +kernel
theorem dX9_together_73 : decode cX9_together 73 = .ok (.iinc 4 1, 3) := by decide +kernel
theorem dX9_together_76 : decode cX9_together 76 = .ok (.goto (-44), 3) := by decide +kernel
theorem dX9_together_79 : decode cX9_together 79 = .ok (.iload_n 3, 1) := by decide +kernel
theorem dX9_together_80 : decode cX9_together 80 = .ok (.ireturn, 1) := by decide +kernel
theorem dX9_season_0 : decode cX9_season 0 = .ok (.iload_n 1, 1) := by decide +kernel
theorem dX9_season_1 : decode cX9_season 1 = .ok (.iconst 4, 1) := by decide +kernel
theorem dX9_season_2 : decode cX9_season 2 = .ok (.invokestatic 50, 3) := by decide +kernel
theorem dX9_season_5 : decode cX9_season 5 = .ok (.ifCond .eq 14, 3) := by decide +kernel
theorem dX9_season_8 : decode cX9_season 8 = .ok (.iload_n 2, 1) := by decide +kernel
theorem dX9_season_9 : decode cX9_season 9 = .ok (.iconst 0, 1) := by decide +kernel
theorem dX9_season_10 : decode cX9_season 10 = .ok (.sipush 300, 3) := by decide +kernel
theorem dX9_season_13 : decode cX9_season 13 = .ok (.invokestatic 125, 3) := by decide +kernel
theorem dX9_season_16 : decode cX9_season 16 = .ok (.goto 4, 3) := by decide +kernel
theorem dX9_season_19 : decode cX9_season 19 = .ok (.iconst (-1), 1) := by decide +kernel
theorem dX9_season_20 : decode cX9_season 20 = .ok (.istore_n 3, 1) := by decide +kernel
theorem dX9_season_21 : decode cX9_season 21 = .ok (.iload_n 3, 1) := by decide +kernel
theorem dX9_season_22 : decode cX9_season 22 = .ok (.ifCond .eq 11, 3) := by decide +kernel
theorem dX9_season_25 : decode cX9_season 25 = .ok (.aload_n 0, 1) := by decide +kernel
theorem dX9_season_26 : decode cX9_season 26 = .ok (.iload_n 3, 1) := by decide +kernel
theorem dX9_season_27 : decode cX9_season 27 = .ok (.invokevirtual 54, 3) := by decide +kernel
theorem dX9_season_30 : decode cX9_season 30 = .ok (.goto 11, 3) := by decide +kernel
theorem dX9_season_33 : decode cX9_season 33 = .ok (.aload_n 0, 1) := by decide +kernel
theorem dX9_season_34 : decode cX9_season 34 = .ok (.iconst 5, 1) := by decide +kernel
theorem dX9_season_35 : decode cX9_season 35 = .ok (.iload_n 1, 1) := by decide +kernel
theorem dX9_season_36 : decode cX9_season 36 = .ok (.iadd, 1) := by decide +kernel
theorem dX9_season_37 : decode cX9_season 37 = .ok (.iload_n 2, 1) := by decide +kernel
theorem dX9_season_38 : decode cX9_season 38 = .ok (.invokevirtual 129, 3) := by decide +kernel
theorem dX9_season_41 : decode cX9_season 41 = .ok (.ireturn, 1) := by decide +kernel
theorem dX9_year_0 : decode cX9_year 0 = .ok (.iconst 0, 1) := by decide +kernel
theorem dX9_year_1 : decode cX9_year 1 = .ok (.istore_n 1, 1) := by decide +kernel
theorem dX9_year_2 : decode cX9_year 2 = .ok (.iconst 0, 1) := by decide +kernel
theorem dX9_year_3 : decode cX9_year 3 = .ok (.istore_n 2, 1) := by decide +kernel
theorem dX9_year_4 : decode cX9_year 4 = .ok (.iload_n 2, 1) := by decide +kernel
theorem dX9_year_5 : decode cX9_year 5 = .ok (.iconst 4, 1) := by decide +kernel
theorem dX9_year_6 : decode cX9_year 6 = .ok (.if_icmp .ge 24, 3) := by decide +kernel
theorem dX9_year_9 : decode cX9_year 9 = .ok (.iload_n 1, 1) := by decide +kernel
theorem dX9_year_10 : decode cX9_year 10 = .ok (.aload_n 0, 1) := by decide +kernel
theorem dX9_year_11 : decode cX9_year 11 = .ok (.aload_n 0, 1) := by decide +kernel
theorem dX9_year_12 : decode cX9_year 12 = .ok (.getfield 13, 3) := by decide +kernel
theorem dX9_year_15 : decode cX9_year 15 = .ok (.iconst 5, 1) := by decide +kernel
theorem dX9_year_16 : decode cX9_year 16 = .ok (.iload_n 2, 1) := by decide +kernel
theorem dX9_year_17 : decode cX9_year 17 = .ok (.iadd, 1) := by decide +kernel
theorem dX9_year_18 : decode cX9_year 18 = .ok (.iaload, 1) := by decide +kernel
theorem dX9_year_19 : decode cX9_year 19 = .ok (.invokevirtual 210, 3) := by decide +kernel
theorem dX9_year_22 : decode cX9_year 22 = .ok (.iadd, 1) := by decide +kernel
theorem dX9_year_23 : decode cX9_year 23 = .ok (.istore_n 1, 1) := by decide +kernel
theorem dX9_year_24 : decode cX9_year 24 = .ok (.iinc 2 1, 3) := by decide +kernel
theorem dX9_year_27 : decode cX9_year 27 = .ok (.goto (-23), 3) := by decide +kernel
theorem dX9_year_30 : decode cX9_year 30 = .ok (.iload_n 1, 1) := by decide +kernel
theorem dX9_year_31 : decode cX9_year 31 = .ok (.ireturn, 1) := by decide +kernel
theorem dX9_years_0 : decode cX9_years 0 = .ok (.iload_n 1, 1) := by decide +kernel
theorem dX9_years_1 : decode cX9_years 1 = .ok (.iconst 1, 1) := by decide +kernel
theorem dX9_years_2 : decode cX9_years 2 = .ok (.bipush 10, 2) := by decide +kernel
theorem dX9_years_4 : decode cX9_years 4 = .ok (.invokestatic 125, 3) := by decide +kernel
theorem dX9_years_7 : decode cX9_years 7 = .ok (.istore_n 3, 1) := by decide +kernel
theorem dX9_years_8 : decode cX9_years 8 = .ok (.iload_n 3, 1) := by decide +kernel
theorem dX9_years_9 : decode cX9_years 9 = .ok (.ifCond .eq 9, 3) := by decide +kernel
theorem dX9_years_12 : decode cX9_years 12 = .ok (.aload_n 0, 1) := by decide +kernel
theorem dX9_years_13 : decode cX9_years 13 = .ok (.iload_n 3, 1) := by decide +kernel
theorem dX9_years_14 : decode cX9_years 14 = .ok (.invokevirtual 54, 3) := by decide +kernel
theorem dX9_years_17 : decode cX9_years 17 = .ok (.ireturn, 1) := by decide +kernel
theorem dX9_years_18 : decode cX9_years 18 = .ok (.iload_n 2, 1) := by decide +kernel
theorem dX9_years_19 : decode cX9_years 19 = .ok (.istore 4, 2) := by decide +kernel
theorem dX9_years_21 : decode cX9_years 21 = .ok (.iconst 0, 1) := by decide +kernel
theorem dX9_years_22 : decode cX9_years 22 = .ok (.istore 5, 2) := by decide +kernel
theorem dX9_years_24 : decode cX9_years 24 = .ok (.iconst 0, 1) := by decide +kernel
theorem dX9_years_25 : decode cX9_years 25 = .ok (.istore 6, 2) := by decide +kernel
theorem dX9_years_27 : decode cX9_years 27 = .ok (.iload 6, 2) := by decide +kernel
theorem dX9_years_29 : decode cX9_years 29 = .ok (.iload_n 1, 1) := by decide +kernel
theorem dX9_years_30 : decode cX9_years 30 = .ok (.if_icmp .ge 84, 3) := by decide +kernel
theorem dX9_years_33 : decode cX9_years 33 = .ok (.iconst 0, 1) := by decide +kernel
theorem dX9_years_34 : decode cX9_years 34 = .ok (.istore 7, 2) := by decide +kernel
theorem dX9_years_36 : decode cX9_years 36 = .ok (.iload 7, 2) := by decide +kernel
theorem dX9_years_38 : decode cX9_years 38 = .ok (.aload_n 0, 1) := by decide +kernel
theorem dX9_years_39 : decode cX9_years 39 = .ok (.getfield 13, 3) := by decide +kernel
theorem dX9_years_42 : decode cX9_years 42 = .ok (.iconst 1, 1) := by decide +kernel
theorem dX9_years_43 : decode cX9_years 43 = .ok (.iaload, 1) := by decide +kernel
theorem dX9_years_44 : decode cX9_years 44 = .ok (.if_icmp .ge 64, 3) := by decide +kernel
theorem dX9_years_47 : decode cX9_years 47 = .ok (.iload 4, 2) := by decide +kernel
theorem dX9_years_49 : decode cX9_years 49 = .ok (.ldc 213, 2) := by decide +kernel
theorem dX9_years_51 : decode cX9_years 51 = .ok (.imul, 1) := by decide +kernel
theorem dX9_years_52 : decode cX9_years 52 = .ok (.ldc 214, 2) := by decide +kernel
theorem dX9_years_54 : decode cX9_years 54 = .ok (.iadd, 1) := by decide +kernel
theorem dX9_years_55 : decode cX9_years 55 = .ok (.istore 4, 2) := by decide +kernel
theorem dX9_years_57 : decode cX9_years 57 = .ok (.aload_n 0, 1) := by decide +kernel
theorem dX9_years_58 : decode cX9_years 58 = .ok (.iload 7, 2) := by decide +kernel
theorem dX9_years_60 : decode cX9_years 60 = .ok (.iload 4, 2) := by decide +kernel
theorem dX9_years_62 : decode cX9_years 62 = .ok (.ldc 215, 2) := by decide +kernel
theorem dX9_years_64 : decode cX9_years 64 = .ok (.iand, 1) := by decide +kernel
theorem dX9_years_65 : decode cX9_years 65 = .ok (.sipush 256, 3) := by decide +kernel
theorem dX9_years_68 : decode cX9_years 68 = .ok (.idiv, 1) := by decide +kernel
theorem dX9_years_69 : decode cX9_years 69 = .ok (.iconst 2, 1) := by decide +kernel
theorem dX9_years_70 : decode cX9_years 70 = .ok (.aload_n 0, 1) := by decide +kernel
theorem dX9_years_71 : decode cX9_years 71 = .ok (.iload 7, 2) := by decide +kernel
theorem dX9_years_73 : decode cX9_years 73 = .ok (.iconst 4, 1) := by decide +kernel
theorem dX9_years_74 : decode cX9_years 74 = .ok (.invokevirtual 122, 3) := by decide +kernel
theorem dX9_years_77 : decode cX9_years 77 = .ok (.imul, 1) := by decide +kernel
theorem dX9_years_78 : decode cX9_years 78 = .ok (.iconst 1, 1) := by decide +kernel
theorem dX9_years_79 : decode cX9_years 79 = .ok (.iadd, 1) := by decide +kernel
theorem dX9_years_80 : decode cX9_years 80 = .ok (.irem, 1) := by decide +kernel
theorem dX9_years_81 : decode cX9_years 81 = .ok (.invokevirtual 162, 3) := by decide +kernel
theorem dX9_years_84 : decode cX9_years 84 = .ok (.istore 8, 2) := by decide +kernel
theorem dX9_years_86 : decode cX9_years 86 = .ok (.iload 5, 2) := by decide +kernel
theorem dX9_years_88 : decode cX9_years 88 = .ok (.iload 8, 2) := by decide +kernel
theorem dX9_years_90 : decode cX9_years 90 = .ok (.ifCond .ge 7, 3) := by decide +kernel
theorem dX9_years_93 : decode cX9_years 93 = .ok (.iconst 0, 1) := by decide +kernel
theorem dX9_years_94 : decode cX9_years 94 = .ok (.goto 5, 3) := by decide +kernel
theorem dX9_years_97 : decode cX9_years 97 = .ok (.iload 8, 2) := by decide +kernel
theorem dX9_years_99 : decode cX9_years 99 = .ok (.iadd, 1) := by decide +kernel
theorem dX9_years_100 : decode cX9_years 100 = .ok (.istore 5, 2) := by decide +kernel
theorem dX9_years_102 : decode cX9_years 102 = .ok (.iinc 7 1, 3) := by decide +kernel
theorem dX9_years_105 : decode cX9_years 105 = .ok (.goto (-69), 3) := by decide +kernel
theorem dX9_years_108 : decode cX9_years 108 = .ok (.iinc 6 1, 3) := by decide +kernel
theorem dX9_years_111 : decode cX9_years 111 = .ok (.goto (-84), 3) := by decide +kernel
theorem dX9_years_114 : decode cX9_years 114 = .ok (.iload 5, 2) := by decide +kernel
theorem dX9_years_116 : decode cX9_years 116 = .ok (.ireturn, 1) := by decide +kernel
theorem dX9_row_0 : decode cX9_row 0 = .ok (.iload_n 1, 1) := by decide +kernel
theorem dX9_row_1 : decode cX9_row 1 = .ok (.iconst 0, 1) := by decide +kernel
theorem dX9_row_2 : decode cX9_row 2 = .ok (.bipush 9, 2) := by decide +kernel
theorem dX9_row_4 : decode cX9_row 4 = .ok (.invokestatic 125, 3) := by decide +kernel
theorem dX9_row_7 : decode cX9_row 7 = .ok (.istore_n 2, 1) := by decide +kernel
theorem dX9_row_8 : decode cX9_row 8 = .ok (.iload_n 2, 1) := by decide +kernel
theorem dX9_row_9 : decode cX9_row 9 = .ok (.ifCond .ne 15, 3) := by decide +kernel
theorem dX9_row_12 : decode cX9_row 12 = .ok (.aload_n 0, 1) := by decide +kernel
theorem dX9_row_13 : decode cX9_row 13 = .ok (.getfield 216, 3) := by decide +kernel
theorem dX9_row_16 : decode cX9_row 16 = .ok (.bipush 28, 2) := by decide +kernel
theorem dX9_row_18 : decode cX9_row 18 = .ok (.if_icmp .ne 6, 3) := by decide +kernel
theorem dX9_row_21 : decode cX9_row 21 = .ok (.bipush (-6), 2) := by decide +kernel
theorem dX9_row_23 : decode cX9_row 23 = .ok (.istore_n 2, 1) := by decide +kernel
theorem dX9_row_24 : decode cX9_row 24 = .ok (.iload_n 2, 1) := by decide +kernel
theorem dX9_row_25 : decode cX9_row 25 = .ok (.ifCond .eq 9, 3) := by decide +kernel
theorem dX9_row_28 : decode cX9_row 28 = .ok (.aload_n 0, 1) := by decide +kernel
theorem dX9_row_29 : decode cX9_row 29 = .ok (.iload_n 2, 1) := by decide +kernel
theorem dX9_row_30 : decode cX9_row 30 = .ok (.invokevirtual 54, 3) := by decide +kernel
theorem dX9_row_33 : decode cX9_row 33 = .ok (.ireturn, 1) := by decide +kernel
theorem dX9_row_34 : decode cX9_row 34 = .ok (.aload_n 0, 1) := by decide +kernel
theorem dX9_row_35 : decode cX9_row 35 = .ok (.getfield 47, 3) := by decide +kernel
theorem dX9_row_38 : decode cX9_row 38 = .ok (.aload_n 0, 1) := by decide +kernel
theorem dX9_row_39 : decode cX9_row 39 = .ok (.getfield 216, 3) := by decide +kernel
theorem dX9_row_42 : decode cX9_row 42 = .ok (.iload_n 1, 1) := by decide +kernel
theorem dX9_row_43 : decode cX9_row 43 = .ok (.iastore, 1) := by decide +kernel
theorem dX9_row_44 : decode cX9_row 44 = .ok (.aload_n 0, 1) := by decide +kernel
theorem dX9_row_45 : decode cX9_row 45 = .ok (.dup, 1) := by decide +kernel
theorem dX9_row_46 : decode cX9_row 46 = .ok (.getfield 216, 3) := by decide +kernel
theorem dX9_row_49 : decode cX9_row 49 = .ok (.iconst 1, 1) := by decide +kernel
theorem dX9_row_50 : decode cX9_row 50 = .ok (.iadd, 1) := by decide +kernel
theorem dX9_row_51 : decode cX9_row 51 = .ok (.putfield 216, 3) := by decide +kernel
theorem dX9_row_54 : decode cX9_row 54 = .ok (.aload_n 0, 1) := by decide +kernel
theorem dX9_row_55 : decode cX9_row 55 = .ok (.getfield 216, 3) := by decide +kernel
theorem dX9_row_58 : decode cX9_row 58 = .ok (.ireturn, 1) := by decide +kernel
theorem dX9_firstWrong_0 : decode cX9_firstWrong 0 = .ok (.iconst 0, 1) := by decide +kernel
theorem dX9_firstWrong_1 : decode cX9_firstWrong 1 = .ok (.istore_n 2, 1) := by decide +kernel
theorem dX9_firstWrong_2 : decode cX9_firstWrong 2 = .ok (.iload_n 2, 1) := by decide +kernel
theorem dX9_firstWrong_3 : decode cX9_firstWrong 3 = .ok (.iload_n 1, 1) := by decide +kernel
theorem dX9_firstWrong_4 : decode cX9_firstWrong 4 = .ok (.if_icmp .ge 56, 3) := by decide +kernel
theorem dX9_firstWrong_7 : decode cX9_firstWrong 7 = .ok (.aload_n 0, 1) := by decide +kernel
theorem dX9_firstWrong_8 : decode cX9_firstWrong 8 = .ok (.getfield 47, 3) := by decide +kernel
theorem dX9_firstWrong_11 : decode cX9_firstWrong 11 = .ok (.iload_n 2, 1) := by decide +kernel
theorem dX9_firstWrong_12 : decode cX9_firstWrong 12 = .ok (.iaload, 1) := by decide +kernel
theorem dX9_firstWrong_13 : decode cX9_firstWrong 13 = .ok (.istore_n 3, 1) := by decide +kernel
theorem dX9_firstWrong_14 : decode cX9_firstWrong 14 = .ok (.iload_n 3, 1) := by decide +kernel
theorem dX9_firstWrong_15 : decode cX9_firstWrong 15 = .ok (.bipush 9, 2) := by decide +kernel
theorem dX9_firstWrong_17 : decode cX9_firstWrong 17 = .ok (.if_icmp .ne 6, 3) := by decide +kernel
theorem dX9_firstWrong_20 : decode cX9_firstWrong 20 = .ok (.goto 34, 3) := by decide +kernel
theorem dX9_firstWrong_23 : decode cX9_firstWrong 23 = .ok (.aload_n 0, 1) := by decide +kernel
theorem dX9_firstWrong_24 : decode cX9_firstWrong 24 = .ok (.iload_n 3, 1) := by decide +kernel
theorem dX9_firstWrong_25 : decode cX9_firstWrong 25 = .ok (.invokevirtual 119, 3) := by decide +kernel
theorem dX9_firstWrong_28 : decode cX9_firstWrong 28 = .ok (.ifCond .eq 24, 3) := by decide +kernel
theorem dX9_firstWrong_31 : decode cX9_firstWrong 31 = .ok (.iload_n 2, 1) := by decide +kernel
theorem dX9_firstWrong_32 : decode cX9_firstWrong 32 = .ok (.aload_n 0, 1) := by decide +kernel
theorem dX9_firstWrong_33 : decode cX9_firstWrong 33 = .ok (.iload_n 3, 1) := by decide +kernel
theorem dX9_firstWrong_34 : decode cX9_firstWrong 34 = .ok (.iconst 3, 1) := by decide +kernel
theorem dX9_firstWrong_35 : decode cX9_firstWrong 35 = .ok (.invokevirtual 122, 3) := by decide +kernel
theorem dX9_firstWrong_38 : decode cX9_firstWrong 38 = .ok (.if_icmp .gt 14, 3) := by decide +kernel
theorem dX9_firstWrong_41 : decode cX9_firstWrong 41 = .ok (.aload_n 0, 1) := by decide +kernel
theorem dX9_firstWrong_42 : decode cX9_firstWrong 42 = .ok (.iload_n 3, 1) := by decide +kernel
theorem dX9_firstWrong_43 : decode cX9_firstWrong 43 = .ok (.iload_n 2, 1) := by decide +kernel
theorem dX9_firstWrong_44 : decode cX9_firstWrong 44 = .ok (.invokevirtual 139, 3) := by decide +kernel
theorem dX9_firstWrong_47 : decode cX9_firstWrong 47 = .ok (.ldc 138, 2) := by decide +kernel
theorem dX9_firstWrong_49 : decode cX9_firstWrong 49 = .ok (.if_icmp .lt 5, 3) := by decide +kernel
theorem dX9_firstWrong_52 : decode cX9_firstWrong 52 = .ok (.iload_n 2, 1) := by decide +kernel
theorem dX9_firstWrong_53 : decode cX9_firstWrong 53 = .ok (.ireturn, 1) := by decide +kernel
theorem dX9_firstWrong_54 : decode cX9_firstWrong 54 = .ok (.iinc 2 1, 3) := by decide +kernel
theorem dX9_firstWrong_57 : decode cX9_firstWrong 57 = .ok (.goto (-55), 3) := by decide +kernel
theorem dX9_firstWrong_60 : decode cX9_firstWrong 60 = .ok (.bipush (-9), 2) := by decide +kernel
theorem dX9_firstWrong_62 : decode cX9_firstWrong 62 = .ok (.ireturn, 1) := by decide +kernel
theorem dX9_isDone_0 : decode cX9_isDone 0 = .ok (.iconst 0, 1) := by decide +kernel
theorem dX9_isDone_1 : decode cX9_isDone 1 = .ok (.istore_n 3, 1) := by decide +kernel
theorem dX9_isDone_2 : decode cX9_isDone 2 = .ok (.iconst 0, 1) := by decide +kernel
theorem dX9_isDone_3 : decode cX9_isDone 3 = .ok (.istore 4, 2) := by decide +kernel
theorem dX9_isDone_5 : decode cX9_isDone 5 = .ok (.bipush (-9), 2) := by decide +kernel
theorem dX9_isDone_7 : decode cX9_isDone 7 = .ok (.istore 5, 2) := by decide +kernel
theorem dX9_isDone_9 : decode cX9_isDone 9 = .ok (.iconst 0, 1) := by decide +kernel
theorem dX9_isDone_10 : decode cX9_isDone 10 = .ok (.istore 6, 2) := by decide +kernel
theorem dX9_isDone_12 : decode cX9_isDone 12 = .ok (.iload 6, 2) := by decide +kernel
theorem dX9_isDone_14 : decode cX9_isDone 14 = .ok (.iload_n 2, 1) := by decide +kernel
theorem dX9_isDone_15 : decode cX9_isDone 15 = .ok (.if_icmp .ge 82, 3) := by decide +kernel
theorem dX9_isDone_18 : decode cX9_isDone 18 = .ok (.aload_n 0, 1) := by decide +kernel
theorem dX9_isDone_19 : decode cX9_isDone 19 = .ok (.getfield 47, 3) := by decide +kernel
theorem dX9_isDone_22 : decode cX9_isDone 22 = .ok (.iload 6, 2) := by decide +kernel
theorem dX9_isDone_24 : decode cX9_isDone 24 = .ok (.iaload, 1) := by decide +kernel
theorem dX9_isDone_25 : decode cX9_isDone 25 = .ok (.iload_n 1, 1) := by decide +kernel
theorem dX9_isDone_26 : decode cX9_isDone 26 = .ok (.if_icmp .eq 6, 3) := by decide +kernel
theorem dX9_isDone_29 : decode cX9_isDone 29 = .ok (.goto 62, 3) := by decide +kernel
theorem dX9_isDone_32 : decode cX9_isDone 32 = .ok (.aload_n 0, 1) := by decide +kernel
theorem dX9_isDone_33 : decode cX9_isDone 33 = .ok (.iload_n 1, 1) := by decide +kernel
theorem dX9_isDone_34 : decode cX9_isDone 34 = .ok (.iconst 1, 1) := by decide +kernel
theorem dX9_isDone_35 : decode cX9_isDone 35 = .ok (.invokevirtual 122, 3) := by decide +kernel
theorem dX9_isDone_38 : decode cX9_isDone 38 = .ok (.iconst 1, 1) := by decide +kernel
theorem dX9_isDone_39 : decode cX9_isDone 39 = .ok (.if_icmp .ne 19, 3) := by decide +kernel
theorem dX9_isDone_42 : decode cX9_isDone 42 = .ok (.iload 4, 2) := by decide +kernel
theorem dX9_isDone_44 : decode cX9_isDone 44 = .ok (.iload 6, 2) := by decide +kernel
theorem dX9_isDone_46 : decode cX9_isDone 46 = .ok (.iconst 4, 1) := by decide +kernel
theorem dX9_isDone_47 : decode cX9_isDone 47 = .ok (.idiv, 1) := by decide +kernel
theorem dX9_isDone_48 : decode cX9_isDone 48 = .ok (.ishr, 1) := by decide +kernel
theorem dX9_isDone_49 : decode cX9_isDone 49 = .ok (.iconst 1, 1) := by decide +kernel
theorem dX9_isDone_50 : decode cX9_isDone 50 = .ok (.iand, 1) := by decide +kernel
theorem dX9_isDone_51 : decode cX9_isDone 51 = .ok (.iconst 1, 1) := by decide +kernel
theorem dX9_isDone_52 : decode cX9_isDone 52 = .ok (.if_icmp .ne 21, 3) := by decide +kernel
theorem dX9_isDone_55 : decode cX9_isDone 55 = .ok (.goto 16, 3) := by decide +kernel
theorem dX9_isDone_58 : decode cX9_isDone 58 = .ok (.iload_n 3, 1) := by decide +kernel
theorem dX9_isDone_59 : decode cX9_isDone 59 = .ok (.ifCond .le 14, 3) := by decide +kernel
theorem dX9_isDone_62 : decode cX9_isDone 62 = .ok (.iload 5, 2) := by decide +kernel
theorem dX9_isDone_64 : decode cX9_isDone 64 = .ok (.iload 6, 2) := by decide +kernel
theorem dX9_isDone_66 : decode cX9_isDone 66 = .ok (.iconst 1, 1) := by decide +kernel
theorem dX9_isDone_67 : decode cX9_isDone 67 = .ok (.isub, 1) := by decide +kernel
theorem dX9_isDone_68 : decode cX9_isDone 68 = .ok (.if_icmp .eq 5, 3) := by decide +kernel
theorem dX9_isDone_71 : decode cX9_isDone 71 = .ok (.iconst 0, 1) := by decide +kernel
theorem dX9_isDone_72 : decode cX9_isDone 72 = .ok (.ireturn, 1) := by decide +kernel
theorem dX9_isDone_73 : decode cX9_isDone 73 = .ok (.iinc 3 1, 3) := by decide +kernel
theorem dX9_isDone_76 : decode cX9_isDone 76 = .ok (.iload 4, 2) := by decide +kernel
theorem dX9_isDone_78 : decode cX9_isDone 78 = .ok (.iconst 1, 1) := by decide +kernel
theorem dX9_isDone_79 : decode cX9_isDone 79 = .ok (.iload 6, 2) := by decide +kernel
theorem dX9_isDone_81 : decode cX9_isDone 81 = .ok (.iconst 4, 1) := by decide +kernel
theorem dX9_isDone_82 : decode cX9_isDone 82 = .ok (.idiv, 1) := by decide +kernel
theorem dX9_isDone_83 : decode cX9_isDone 83 = .ok (.ishl, 1) := by decide +kernel
theorem dX9_isDone_84 : decode cX9_isDone 84 = .ok (.ior, 1) := by decide +kernel
theorem dX9_isDone_85 : decode cX9_isDone 85 = .ok (.istore 4, 2) := by decide +kernel
theorem dX9_isDone_87 : decode cX9_isDone 87 = .ok (.iload 6, 2) := by decide +kernel
theorem dX9_isDone_89 : decode cX9_isDone 89 = .ok (.istore 5, 2) := by decide +kernel
theorem dX9_isDone_91 : decode cX9_isDone 91 = .ok (.iinc 6 1, 3) := by decide +kernel
theorem dX9_isDone_94 : decode cX9_isDone 94 = .ok (.goto (-82), 3) := by decide +kernel
theorem dX9_isDone_97 : decode cX9_isDone 97 = .ok (.iload_n 3, 1) := by decide +kernel
theorem dX9_isDone_98 : decode cX9_isDone 98 = .ok (.aload_n 0, 1) := by decide +kernel
theorem dX9_isDone_99 : decode cX9_isDone 99 = .ok (.iload_n 1, 1) := by decide +kernel
theorem dX9_isDone_100 : decode cX9_isDone 100 = .ok (.iconst 2, 1) := by decide +kernel
theorem dX9_isDone_101 : decode cX9_isDone 101 = .ok (.invokevirtual 122, 3) := by decide +kernel
theorem dX9_isDone_104 : decode cX9_isDone 104 = .ok (.if_icmp .ne 7, 3) := by decide +kernel
theorem dX9_isDone_107 : decode cX9_isDone 107 = .ok (.iconst 1, 1) := by decide +kernel
theorem dX9_isDone_108 : decode cX9_isDone 108 = .ok (.goto 4, 3) := by decide +kernel
theorem dX9_isDone_111 : decode cX9_isDone 111 = .ok (.iconst 0, 1) := by decide +kernel
theorem dX9_isDone_112 : decode cX9_isDone 112 = .ok (.ireturn, 1) := by decide +kernel
theorem dX9_judge_0 : decode cX9_judge 0 = .ok (.iload_n 1, 1) := by decide +kernel
theorem dX9_judge_1 : decode cX9_judge 1 = .ok (.iconst 2, 1) := by decide +kernel
theorem dX9_judge_2 : decode cX9_judge 2 = .ok (.invokestatic 50, 3) := by decide +kernel
theorem dX9_judge_5 : decode cX9_judge 5 = .ok (.ifCond .ne 10, 3) := by decide +kernel
theorem dX9_judge_8 : decode cX9_judge 8 = .ok (.aload_n 0, 1) := by decide +kernel
theorem dX9_judge_9 : decode cX9_judge 9 = .ok (.bipush (-2), 2) := by decide +kernel
theorem dX9_judge_11 : decode cX9_judge 11 = .ok (.invokevirtual 54, 3) := by decide +kernel
theorem dX9_judge_14 : decode cX9_judge 14 = .ok (.ireturn, 1) := by decide +kernel
theorem dX9_judge_15 : decode cX9_judge 15 = .ok (.aload_n 0, 1) := by decide +kernel
theorem dX9_judge_16 : decode cX9_judge 16 = .ok (.getfield 216, 3) := by decide +kernel
theorem dX9_judge_19 : decode cX9_judge 19 = .ok (.istore_n 2, 1) := by decide +kernel
theorem dX9_judge_20 : decode cX9_judge 20 = .ok (.aload_n 0, 1) := by decide +kernel
theorem dX9_judge_21 : decode cX9_judge 21 = .ok (.iconst 0, 1) := by decide +kernel
theorem dX9_judge_22 : decode cX9_judge 22 = .ok (.putfield 216, 3) := by decide +kernel
theorem dX9_judge_25 : decode cX9_judge 25 = .ok (.iload_n 1, 1) := by decide +kernel
theorem dX9_judge_26 : decode cX9_judge 26 = .ok (.ifCond .ne 9, 3) := by decide +kernel
theorem dX9_judge_29 : decode cX9_judge 29 = .ok (.aload_n 0, 1) := by decide +kernel
theorem dX9_judge_30 : decode cX9_judge 30 = .ok (.iload_n 2, 1) := by decide +kernel
theorem dX9_judge_31 : decode cX9_judge 31 = .ok (.invokevirtual 219, 3) := by decide +kernel
theorem dX9_judge_34 : decode cX9_judge 34 = .ok (.ireturn, 1) := by decide +kernel
theorem dX9_judge_35 : decode cX9_judge 35 = .ok (.iconst 0, 1) := by decide +kernel
theorem dX9_judge_36 : decode cX9_judge 36 = .ok (.istore_n 3, 1) := by decide +kernel
theorem dX9_judge_37 : decode cX9_judge 37 = .ok (.iload_n 3, 1) := by decide +kernel
theorem dX9_judge_38 : decode cX9_judge 38 = .ok (.aload_n 0, 1) := by decide +kernel
theorem dX9_judge_39 : decode cX9_judge 39 = .ok (.getfield 13, 3) := by decide +kernel
theorem dX9_judge_42 : decode cX9_judge 42 = .ok (.iconst 1, 1) := by decide +kernel
theorem dX9_judge_43 : decode cX9_judge 43 = .ok (.iaload, 1) := by decide +kernel
theorem dX9_judge_44 : decode cX9_judge 44 = .ok (.if_icmp .ge 20, 3) := by decide +kernel
theorem dX9_judge_47 : decode cX9_judge 47 = .ok (.aload_n 0, 1) := by decide +kernel
theorem dX9_judge_48 : decode cX9_judge 48 = .ok (.iload_n 3, 1) := by decide +kernel
theorem dX9_judge_49 : decode cX9_judge 49 = .ok (.iload_n 2, 1) := by decide +kernel
theorem dX9_judge_50 : decode cX9_judge 50 = .ok (.invokevirtual 222, 3) := by decide +kernel
theorem dX9_judge_53 : decode cX9_judge 53 = .ok (.ifCond .ne 5, 3) := by decide +kernel
theorem dX9_judge_56 : decode cX9_judge 56 = .ok (.iload_n 3, 1) := by decide +kernel
theorem dX9_judge_57 : decode cX9_judge 57 = .ok (.ireturn, 1) := by decide +kernel
theorem dX9_judge_58 : decode cX9_judge 58 = .ok (.iinc 3 1, 3) := by decide +kernel
theorem dX9_judge_61 : decode cX9_judge 61 = .ok (.goto (-24), 3) := by decide +kernel
theorem dX9_judge_64 : decode cX9_judge 64 = .ok (.bipush (-9), 2) := by decide +kernel
theorem dX9_judge_66 : decode cX9_judge 66 = .ok (.ireturn, 1) := by decide +kernel
theorem dX9_image_0 : decode cX9_image 0 = .ok (.aload_n 0, 1) := by decide +kernel
theorem dX9_image_1 : decode cX9_image 1 = .ok (.getfield 13, 3) := by decide +kernel
theorem dX9_image_4 : decode cX9_image 4 = .ok (.aload_n 0, 1) := by decide +kernel
theorem dX9_image_5 : decode cX9_image 5 = .ok (.getfield 16, 3) := by decide +kernel
theorem dX9_image_8 : decode cX9_image 8 = .ok (.invokestatic 96, 3) := by decide +kernel
theorem dX9_image_11 : decode cX9_image 11 = .ok (.aload_n 0, 1) := by decide +kernel
theorem dX9_image_12 : decode cX9_image 12 = .ok (.iconst 1, 1) := by decide +kernel
theorem dX9_image_13 : decode cX9_image 13 = .ok (.putfield 225, 3) := by decide +kernel
theorem dX9_image_16 : decode cX9_image 16 = .ok (.aload_n 0, 1) := by decide +kernel
theorem dX9_image_17 : decode cX9_image 17 = .ok (.getfield 13, 3) := by decide +kernel
theorem dX9_image_20 : decode cX9_image 20 = .ok (.iconst 0, 1) := by decide +kernel
theorem dX9_image_21 : decode cX9_image 21 = .ok (.iaload, 1) := by decide +kernel
theorem dX9_image_22 : decode cX9_image 22 = .ok (.ireturn, 1) := by decide +kernel
theorem dX9_on_0 : decode cX9_on 0 = .ok (.aload_n 0, 1) := by decide +kernel
theorem dX9_on_1 : decode cX9_on 1 = .ok (.getfield 225, 3) := by decide +kernel
theorem dX9_on_4 : decode cX9_on 4 = .ok (.ifCond .ne 10, 3) := by decide +kernel
theorem dX9_on_7 : decode cX9_on 7 = .ok (.aload_n 0, 1) := by decide +kernel
theorem dX9_on_8 : decode cX9_on 8 = .ok (.bipush (-3), 2) := by decide +kernel
theorem dX9_on_10 : decode cX9_on 10 = .ok (.invokevirtual 54, 3) := by decide +kernel
theorem dX9_on_13 : decode cX9_on 13 = .ok (.ireturn, 1) := by decide +kernel
theorem dX9_on_14 : decode cX9_on 14 = .ok (.aload_n 0, 1) := by decide +kernel
theorem dX9_on_15 : decode cX9_on 15 = .ok (.getfield 16, 3) := by decide +kernel
theorem dX9_on_18 : decode cX9_on 18 = .ok (.aload_n 0, 1) := by decide +kernel
theorem dX9_on_19 : decode cX9_on 19 = .ok (.getfield 13, 3) := by decide +kernel
theorem dX9_on_22 : decode cX9_on 22 = .ok (.invokestatic 96, 3) := by decide +kernel
theorem dX9_on_25 : decode cX9_on 25 = .ok (.aload_n 0, 1) := by decide +kernel
theorem dX9_on_26 : decode cX9_on 26 = .ok (.getfield 13, 3) := by decide +kernel
theorem dX9_on_29 : decode cX9_on 29 = .ok (.iconst 0, 1) := by decide +kernel
theorem dX9_on_30 : decode cX9_on 30 = .ok (.iaload, 1) := by decide +kernel
theorem dX9_on_31 : decode cX9_on 31 = .ok (.ireturn, 1) := by decide +kernel
theorem dX9_count_0 : decode cX9_count 0 = .ok (.iload_n 1, 1) := by decide +kernel
theorem dX9_count_1 : decode cX9_count 1 = .ok (.bipush 10, 2) := by decide +kernel
theorem dX9_count_3 : decode cX9_count 3 = .ok (.if_icmp .le 19, 3) := by decide +kernel
theorem dX9_count_6 : decode cX9_count 6 = .ok (.iload_n 1, 1) := by decide +kernel
theorem dX9_count_7 : decode cX9_count 7 = .ok (.bipush 17, 2) := by decide +kernel
theorem dX9_count_9 : decode cX9_count 9 = .ok (.if_icmp .ge 13, 3) := by decide +kernel
theorem dX9_count_12 : decode cX9_count 12 = .ok (.aload_n 0, 1) := by decide +kernel
theorem dX9_count_13 : decode cX9_count 13 = .ok (.getfield 7, 3) := by decide +kernel
theorem dX9_count_16 : decode cX9_count 16 = .ok (.iload_n 1, 1) := by decide +kernel
theorem dX9_count_17 : decode cX9_count 17 = .ok (.bipush 10, 2) := by decide +kernel
theorem dX9_count_19 : decode cX9_count 19 = .ok (.isub, 1) := by decide +kernel
theorem dX9_count_20 : decode cX9_count 20 = .ok (.iaload, 1) := by decide +kernel
theorem dX9_count_21 : decode cX9_count 21 = .ok (.ireturn, 1) := by decide +kernel
theorem dX9_count_22 : decode cX9_count 22 = .ok (.iconst 0, 1) := by decide +kernel
theorem dX9_count_23 : decode cX9_count 23 = .ok (.istore_n 2, 1) := by decide +kernel
theorem dX9_count_24 : decode cX9_count 24 = .ok (.iload_n 1, 1) := by decide +kernel
theorem dX9_count_25 : decode cX9_count 25 = .ok (.tableswitch 127 0 6 #[43, 43, 50, 50, 107, 117, 122], 43) := by decide +kernel
theorem dX9_count_68 : decode cX9_count 68 = .ok (.aload_n 0, 1) := by decide +kernel
theorem dX9_count_69 : decode cX9_count 69 = .ok (.getfield 13, 3) := by decide +kernel
theorem dX9_count_72 : decode cX9_count 72 = .ok (.iload_n 1, 1) := by decide +kernel
theorem dX9_count_73 : decode cX9_count 73 = .ok (.iaload, 1) := by decide +kernel
theorem dX9_count_74 : decode cX9_count 74 = .ok (.ireturn, 1) := by decide +kernel
theorem dX9_count_75 : decode cX9_count 75 = .ok (.iconst 0, 1) := by decide +kernel
theorem dX9_count_76 : decode cX9_count 76 = .ok (.istore_n 3, 1) := by decide +kernel
theorem dX9_count_77 : decode cX9_count 77 = .ok (.iload_n 3, 1) := by decide +kernel
theorem dX9_count_78 : decode cX9_count 78 = .ok (.bipush 28, 2) := by decide +kernel
theorem dX9_count_80 : decode cX9_count 80 = .ok (.if_icmp .ge 50, 3) := by decide +kernel
theorem dX9_count_83 : decode cX9_count 83 = .ok (.iload_n 2, 1) := by decide +kernel
theorem dX9_count_84 : decode cX9_count 84 = .ok (.iload_n 1, 1) := by decide +kernel
theorem dX9_count_85 : decode cX9_count 85 = .ok (.iconst 2, 1) := by decide +kernel
theorem dX9_count_86 : decode cX9_count 86 = .ok (.if_icmp .ne 25, 3) := by decide +kernel
theorem dX9_count_89 : decode cX9_count 89 = .ok (.aload_n 0, 1) := by decide +kernel
theorem dX9_count_90 : decode cX9_count 90 = .ok (.getfield 13, 3) := by decide +kernel
theorem dX9_count_93 : decode cX9_count 93 = .ok (.bipush 9, 2) := by decide +kernel
theorem dX9_count_95 : decode cX9_count 95 = .ok (.iconst 4, 1) := by decide +kernel
theorem dX9_count_96 : decode cX9_count 96 = .ok (.iload_n 3, 1) := by decide +kernel
theorem dX9_count_97 : decode cX9_count 97 = .ok (.imul, 1) := by decide +kernel
theorem dX9_count_98 : decode cX9_count 98 = .ok (.iadd, 1) := by decide +kernel
theorem dX9_count_99 : decode cX9_count 99 = .ok (.iaload, 1) := by decide +kernel
theorem dX9_count_100 : decode cX9_count 100 = .ok (.ifCond .ne 7, 3) := by decide +kernel
theorem dX9_count_103 : decode cX9_count 103 = .ok (.iconst 1, 1) := by decide +kernel
theorem dX9_count_104 : decode cX9_count 104 = .ok (.goto 18, 3) := by decide +kernel
theorem dX9_count_107 : decode cX9_count 107 = .ok (.iconst 0, 1) := by decide +kernel
theorem dX9_count_108 : decode cX9_count 108 = .ok (.goto 14, 3) := by decide +kernel
theorem dX9_count_111 : decode cX9_count 111 = .ok (.aload_n 0, 1) := by decide +kernel
theorem dX9_count_112 : decode cX9_count 112 = .ok (.getfield 13, 3) := by decide +kernel
theorem dX9_count_115 : decode cX9_count 115 = .ok (.bipush 9, 2) := by decide +kernel
theorem dX9_count_117 : decode cX9_count 117 = .ok (.iconst 4, 1) := by decide +kernel
theorem dX9_count_118 : decode cX9_count 118 = .ok (.iload_n 3, 1) := by decide +kernel
theorem dX9_count_119 : decode cX9_count 119 = .ok (.imul, 1) := by decide +kernel
theorem dX9_count_120 : decode cX9_count 120 = .ok (.iadd, 1) := by decide +kernel
theorem dX9_count_121 : decode cX9_count 121 = .ok (.iaload, 1) := by decide +kernel
theorem dX9_count_122 : decode cX9_count 122 = .ok (.iadd, 1) := by decide +kernel
theorem dX9_count_123 : decode cX9_count 123 = .ok (.istore_n 2, 1) := by decide +kernel
theorem dX9_count_124 : decode cX9_count 124 = .ok (.iinc 3 1, 3) := by decide +kernel
theorem dX9_count_127 : decode cX9_count 127 = .ok (.goto (-50), 3) := by decide +kernel
theorem dX9_count_130 : decode cX9_count 130 = .ok (.iload_n 2, 1) := by decide +kernel
theorem dX9_count_131 : decode cX9_count 131 = .ok (.ireturn, 1) := by decide +kernel
theorem dX9_count_132 : decode cX9_count 132 = .ok (.aload_n 0, 1) := by decide +kernel
theorem dX9_count_133 : decode cX9_count 133 = .ok (.getfield 13, 3) := by decide +kernel
theorem dX9_count_136 : decode cX9_count 136 = .ok (.iconst 2, 1) := by decide +kernel
theorem dX9_count_137 : decode cX9_count 137 = .ok (.iaload, 1) := by decide +kernel
theorem dX9_count_138 : decode cX9_count 138 = .ok (.invokestatic 185, 3) := by decide +kernel
theorem dX9_count_141 : decode cX9_count 141 = .ok (.ireturn, 1) := by decide +kernel
theorem dX9_count_142 : decode cX9_count 142 = .ok (.aload_n 0, 1) := by decide +kernel
theorem dX9_count_143 : decode cX9_count 143 = .ok (.getfield 216, 3) := by decide +kernel
theorem dX9_count_146 : decode cX9_count 146 = .ok (.ireturn, 1) := by decide +kernel
theorem dX9_count_147 : decode cX9_count 147 = .ok (.aload_n 0, 1) := by decide +kernel
theorem dX9_count_148 : decode cX9_count 148 = .ok (.getfield 58, 3) := by decide +kernel
theorem dX9_count_151 : decode cX9_count 151 = .ok (.ireturn, 1) := by decide +kernel
theorem dX9_count_152 : decode cX9_count 152 = .ok (.bipush (-9), 2) := by decide +kernel
theorem dX9_count_154 : decode cX9_count 154 = .ok (.ireturn, 1) := by decide +kernel
theorem dL_law_0 : decode cL_law 0 = .ok (.new 7, 3) := by decide +kernel
theorem dL_law_3 : decode cL_law 3 = .ok (.dup, 1) := by decide +kernel
theorem dL_law_4 : decode cL_law 4 = .ok (.invokespecial 9, 3) := by decide +kernel
theorem dL_law_7 : decode cL_law 7 = .ok (.astore_n 1, 1) := by decide +kernel
theorem dL_law_8 : decode cL_law 8 = .ok (.new 10, 3) := by decide +kernel
theorem dL_law_11 : decode cL_law 11 = .ok (.dup, 1) := by decide +kernel
theorem dL_law_12 : decode cL_law 12 = .ok (.invokespecial 12, 3) := by decide +kernel
theorem dL_law_15 : decode cL_law 15 = .ok (.astore_n 2, 1) := by decide +kernel
theorem dL_law_16 : decode cL_law 16 = .ok (.iconst 0, 1) := by decide +kernel
theorem dL_law_17 : decode cL_law 17 = .ok (.istore_n 3, 1) := by decide +kernel
theorem dL_law_18 : decode cL_law 18 = .ok (.iload_n 3, 1) := by decide +kernel
theorem dL_law_19 : decode cL_law 19 = .ok (.aload_n 0, 1) := by decide +kernel
theorem dL_law_20 : decode cL_law 20 = .ok (.arraylength, 1) := by decide +kernel
theorem dL_law_21 : decode cL_law 21 = .ok (.iconst 4, 1) := by decide +kernel
theorem dL_law_22 : decode cL_law 22 = .ok (.isub, 1) := by decide +kernel
theorem dL_law_23 : decode cL_law 23 = .ok (.if_icmp .gt 1049, 3) := by decide +kernel
theorem dL_law_26 : decode cL_law 26 = .ok (.aload_n 0, 1) := by decide +kernel
theorem dL_law_27 : decode cL_law 27 = .ok (.iload_n 3, 1) := by decide +kernel
theorem dL_law_28 : decode cL_law 28 = .ok (.iaload, 1) := by decide +kernel
theorem dL_law_29 : decode cL_law 29 = .ok (.bipush 63, 2) := by decide +kernel
theorem dL_law_31 : decode cL_law 31 = .ok (.iand, 1) := by decide +kernel
theorem dL_law_32 : decode cL_law 32 = .ok (.tableswitch 1034 0 33 #[152, 215, 228, 261, 294, 327, 360, 383, 416, 459, 482, 505, 528, 551, 564, 587, 610, 623, 646, 659, 702, 725, 758, 781, 814, 827, 860, 893, 906, 939, 962, 985, 998, 1011], 152) := by decide +kernel
theorem dL_law_184 : decode cL_law 184 = .ok (.aload_n 1, 1) := by decide +kernel
theorem dL_law_185 : decode cL_law 185 = .ok (.aload_n 0, 1) := by decide +kernel
theorem dL_law_186 : decode cL_law 186 = .ok (.iload_n 3, 1) := by decide +kernel
theorem dL_law_187 : decode cL_law 187 = .ok (.iconst 1, 1) := by decide +kernel
theorem dL_law_188 : decode cL_law 188 = .ok (.iadd, 1) := by decide +kernel
theorem dL_law_189 : decode cL_law 189 = .ok (.iaload, 1) := by decide +kernel
theorem dL_law_190 : decode cL_law 190 = .ok (.aload_n 0, 1) := by decide +kernel
theorem dL_law_191 : decode cL_law 191 = .ok (.iload_n 3, 1) := by decide +kernel
theorem dL_law_192 : decode cL_law 192 = .ok (.iconst 2, 1) := by decide +kernel
theorem dL_law_193 : decode cL_law 193 = .ok (.iadd, 1) := by decide +kernel
theorem dL_law_194 : decode cL_law 194 = .ok (.iaload, 1) := by decide +kernel
theorem dL_law_195 : decode cL_law 195 = .ok (.i2l, 1) := by decide +kernel
theorem dL_law_196 : decode cL_law 196 = .ok (.bipush 32, 2) := by decide +kernel
theorem dL_law_198 : decode cL_law 198 = .ok (.lshl, 1) := by decide +kernel
theorem dL_law_199 : decode cL_law 199 = .ok (.aload_n 0, 1) := by decide +kernel
theorem dL_law_200 : decode cL_law 200 = .ok (.iload_n 3, 1) := by decide +kernel
theorem dL_law_201 : decode cL_law 201 = .ok (.iconst 3, 1) := by decide +kernel
theorem dL_law_202 : decode cL_law 202 = .ok (.iadd, 1) := by decide +kernel
theorem dL_law_203 : decode cL_law 203 = .ok (.iaload, 1) := by decide +kernel
theorem dL_law_204 : decode cL_law 204 = .ok (.i2l, 1) := by decide +kernel
theorem dL_law_205 : decode cL_law 205 = .ok (.ldc2_w 13, 3) := by decide +kernel
theorem dL_law_208 : decode cL_law 208 = .ok (.land, 1) := by decide +kernel
theorem dL_law_209 : decode cL_law 209 = .ok (.lor, 1) := by decide +kernel
theorem dL_law_210 : decode cL_law 210 = .ok (.invokevirtual 15, 3) := by decide +kernel
theorem dL_law_213 : decode cL_law 213 = .ok (.aload_n 2, 1) := by decide +kernel
theorem dL_law_214 : decode cL_law 214 = .ok (.aload_n 0, 1) := by decide +kernel
theorem dL_law_215 : decode cL_law 215 = .ok (.iload_n 3, 1) := by decide +kernel
theorem dL_law_216 : decode cL_law 216 = .ok (.iconst 1, 1) := by decide +kernel
theorem dL_law_217 : decode cL_law 217 = .ok (.iadd, 1) := by decide +kernel
theorem dL_law_218 : decode cL_law 218 = .ok (.iaload, 1) := by decide +kernel
theorem dL_law_219 : decode cL_law 219 = .ok (.aload_n 0, 1) := by decide +kernel
theorem dL_law_220 : decode cL_law 220 = .ok (.iload_n 3, 1) := by decide +kernel
theorem dL_law_221 : decode cL_law 221 = .ok (.iconst 2, 1) := by decide +kernel
theorem dL_law_222 : decode cL_law 222 = .ok (.iadd, 1) := by decide +kernel
theorem dL_law_223 : decode cL_law 223 = .ok (.iaload, 1) := by decide +kernel
theorem dL_law_224 : decode cL_law 224 = .ok (.i2l, 1) := by decide +kernel
theorem dL_law_225 : decode cL_law 225 = .ok (.bipush 32, 2) := by decide +kernel
theorem dL_law_227 : decode cL_law 227 = .ok (.lshl, 1) := by decide +kernel
theorem dL_law_228 : decode cL_law 228 = .ok (.aload_n 0, 1) := by decide +kernel
theorem dL_law_229 : decode cL_law 229 = .ok (.iload_n 3, 1) := by decide +kernel
theorem dL_law_230 : decode cL_law 230 = .ok (.iconst 3, 1) := by decide +kernel
theorem dL_law_231 : decode cL_law 231 = .ok (.iadd, 1) := by decide +kernel
theorem dL_law_232 : decode cL_law 232 = .ok (.iaload, 1) := by decide +kernel
theorem dL_law_233 : decode cL_law 233 = .ok (.i2l, 1) := by decide +kernel
theorem dL_law_234 : decode cL_law 234 = .ok (.ldc2_w 13, 3) := by decide +kernel
theorem dL_law_237 : decode cL_law 237 = .ok (.land, 1) := by decide +kernel
theorem dL_law_238 : decode cL_law 238 = .ok (.lor, 1) := by decide +kernel
theorem dL_law_239 : decode cL_law 239 = .ok (.invokevirtual 19, 3) := by decide +kernel
theorem dL_law_242 : decode cL_law 242 = .ok (.if_icmp .eq 824, 3) := by decide +kernel
theorem dL_law_245 : decode cL_law 245 = .ok (.iconst 0, 1) := by decide +kernel
theorem dL_law_246 : decode cL_law 246 = .ok (.ireturn, 1) := by decide +kernel
theorem dL_law_247 : decode cL_law 247 = .ok (.aload_n 1, 1) := by decide +kernel
theorem dL_law_248 : decode cL_law 248 = .ok (.invokevirtual 20, 3) := by decide +kernel
theorem dL_law_251 : decode cL_law 251 = .ok (.aload_n 2, 1) := by decide +kernel
theorem dL_law_252 : decode cL_law 252 = .ok (.invokevirtual 24, 3) := by decide +kernel
theorem dL_law_255 : decode cL_law 255 = .ok (.if_icmp .eq 811, 3) := by decide +kernel
theorem dL_law_258 : decode cL_law 258 = .ok (.iconst 0, 1) := by decide +kernel
theorem dL_law_259 : decode cL_law 259 = .ok (.ireturn, 1) := by decide +kernel
theorem dL_law_260 : decode cL_law 260 = .ok (.aload_n 1, 1) := by decide +kernel
theorem dL_law_261 : decode cL_law 261 = .ok (.aload_n 0, 1) := by decide +kernel
theorem dL_law_262 : decode cL_law 262 = .ok (.iload_n 3, 1) := by decide +kernel
theorem dL_law_263 : decode cL_law 263 = .ok (.iconst 1, 1) := by decide +kernel
theorem dL_law_264 : decode cL_law 264 = .ok (.iadd, 1) := by decide +kernel
theorem dL_law_265 : decode cL_law 265 = .ok (.iaload, 1) := by decide +kernel
theorem dL_law_266 : decode cL_law 266 = .ok (.aload_n 0, 1) := by decide +kernel
theorem dL_law_267 : decode cL_law 267 = .ok (.iload_n 3, 1) := by decide +kernel
theorem dL_law_268 : decode cL_law 268 = .ok (.iconst 2, 1) := by decide +kernel
theorem dL_law_269 : decode cL_law 269 = .ok (.iadd, 1) := by decide +kernel
theorem dL_law_270 : decode cL_law 270 = .ok (.iaload, 1) := by decide +kernel
theorem dL_law_271 : decode cL_law 271 = .ok (.invokevirtual 25, 3) := by decide +kernel
theorem dL_law_274 : decode cL_law 274 = .ok (.aload_n 2, 1) := by decide +kernel
theorem dL_law_275 : decode cL_law 275 = .ok (.aload_n 0, 1) := by decide +kernel
theorem dL_law_276 : decode cL_law 276 = .ok (.iload_n 3, 1) := by decide +kernel
theorem dL_law_277 : decode cL_law 277 = .ok (.iconst 1, 1) := by decide +kernel
theorem dL_law_278 : decode cL_law 278 = .ok (.iadd, 1) := by decide +kernel
theorem dL_law_279 : decode cL_law 279 = .ok (.iaload, 1) := by decide +kernel
theorem dL_law_280 : decode cL_law 280 = .ok (.aload_n 0, 1) := by decide +kernel
theorem dL_law_281 : decode cL_law 281 = .ok (.iload_n 3, 1) := by decide +kernel
theorem dL_law_282 : decode cL_law 282 = .ok (.iconst 2, 1) := by decide +kernel
theorem dL_law_283 : decode cL_law 283 = .ok (.iadd, 1) := by decide +kernel
theorem dL_law_284 : decode cL_law 284 = .ok (.iaload, 1) := by decide +kernel
theorem dL_law_285 : decode cL_law 285 = .ok (.invokevirtual 29, 3) := by decide +kernel
theorem dL_law_288 : decode cL_law 288 = .ok (.if_icmp .eq 778, 3) := by decide +kernel
theorem dL_law_291 : decode cL_law 291 = .ok (.iconst 0, 1) := by decide +kernel
theorem dL_law_292 : decode cL_law 292 = .ok (.ireturn, 1) := by decide +kernel
theorem dL_law_293 : decode cL_law 293 = .ok (.aload_n 1, 1) := by decide +kernel
theorem dL_law_294 : decode cL_law 294 = .ok (.aload_n 0, 1) := by decide +kernel
theorem dL_law_295 : decode cL_law 295 = .ok (.iload_n 3, 1) := by decide +kernel
theorem dL_law_296 : decode cL_law 296 = .ok (.iconst 1, 1) := by decide +kernel
theorem dL_law_297 : decode cL_law 297 = .ok (.iadd, 1) := by decide +kernel
theorem dL_law_298 : decode cL_law 298 = .ok (.iaload, 1) := by decide +kernel
theorem dL_law_299 : decode cL_law 299 = .ok (.aload_n 0, 1) := by decide +kernel
theorem dL_law_300 : decode cL_law 300 = .ok (.iload_n 3, 1) := by decide +kernel
theorem dL_law_301 : decode cL_law 301 = .ok (.iconst 2, 1) := by decide +kernel
theorem dL_law_302 : decode cL_law 302 = .ok (.iadd, 1) := by decide +kernel
theorem dL_law_303 : decode cL_law 303 = .ok (.iaload, 1) := by decide +kernel
theorem dL_law_304 : decode cL_law 304 = .ok (.invokevirtual 30, 3) := by decide +kernel
theorem dL_law_307 : decode cL_law 307 = .ok (.aload_n 2, 1) := by decide +kernel
theorem dL_law_308 : decode cL_law 308 = .ok (.aload_n 0, 1) := by decide +kernel
theorem dL_law_309 : decode cL_law 309 = .ok (.iload_n 3, 1) := by decide +kernel
theorem dL_law_310 : decode cL_law 310 = .ok (.iconst 1, 1) := by decide +kernel
theorem dL_law_311 : decode cL_law 311 = .ok (.iadd, 1) := by decide +kernel
theorem dL_law_312 : decode cL_law 312 = .ok (.iaload, 1) := by decide +kernel
theorem dL_law_313 : decode cL_law 313 = .ok (.aload_n 0, 1) := by decide +kernel
theorem dL_law_314 : decode cL_law 314 = .ok (.iload_n 3, 1) := by decide +kernel
theorem dL_law_315 : decode cL_law 315 = .ok (.iconst 2, 1) := by decide +kernel
theorem dL_law_316 : decode cL_law 316 = .ok (.iadd, 1) := by decide +kernel
theorem dL_law_317 : decode cL_law 317 = .ok (.iaload, 1) := by decide +kernel
theorem dL_law_318 : decode cL_law 318 = .ok (.invokevirtual 33, 3) := by decide +kernel
theorem dL_law_321 : decode cL_law 321 = .ok (.if_icmp .eq 745, 3) := by decide +kernel
theorem dL_law_324 : decode cL_law 324 = .ok (.iconst 0, 1) := by decide +kernel
theorem dL_law_325 : decode cL_law 325 = .ok (.ireturn, 1) := by decide +kernel
theorem dL_law_326 : decode cL_law 326 = .ok (.aload_n 1, 1) := by decide +kernel
theorem dL_law_327 : decode cL_law 327 = .ok (.aload_n 0, 1) := by decide +kernel
theorem dL_law_328 : decode cL_law 328 = .ok (.iload_n 3, 1) := by decide +kernel
theorem dL_law_329 : decode cL_law 329 = .ok (.iconst 1, 1) := by decide +kernel
theorem dL_law_330 : decode cL_law 330 = .ok (.iadd, 1) := by decide +kernel
theorem dL_law_331 : decode cL_law 331 = .ok (.iaload, 1) := by decide +kernel
theorem dL_law_332 : decode cL_law 332 = .ok (.aload_n 0, 1) := by decide +kernel
theorem dL_law_333 : decode cL_law 333 = .ok (.iload_n 3, 1) := by decide +kernel
theorem dL_law_334 : decode cL_law 334 = .ok (.iconst 2, 1) := by decide +kernel
theorem dL_law_335 : decode cL_law 335 = .ok (.iadd, 1) := by decide +kernel
theorem dL_law_336 : decode cL_law 336 = .ok (.iaload, 1) := by decide +kernel
theorem dL_law_337 : decode cL_law 337 = .ok (.invokevirtual 34, 3) := by decide +kernel
theorem dL_law_340 : decode cL_law 340 = .ok (.aload_n 2, 1) := by decide +kernel
theorem dL_law_341 : decode cL_law 341 = .ok (.aload_n 0, 1) := by decide +kernel
theorem dL_law_342 : decode cL_law 342 = .ok (.iload_n 3, 1) := by decide +kernel
theorem dL_law_343 : decode cL_law 343 = .ok (.iconst 1, 1) := by decide +kernel
theorem dL_law_344 : decode cL_law 344 = .ok (.iadd, 1) := by decide +kernel
theorem dL_law_345 : decode cL_law 345 = .ok (.iaload, 1) := by decide +kernel
theorem dL_law_346 : decode cL_law 346 = .ok (.aload_n 0, 1) := by decide +kernel
theorem dL_law_347 : decode cL_law 347 = .ok (.iload_n 3, 1) := by decide +kernel
theorem dL_law_348 : decode cL_law 348 = .ok (.iconst 2, 1) := by decide +kernel
theorem dL_law_349 : decode cL_law 349 = .ok (.iadd, 1) := by decide +kernel
theorem dL_law_350 : decode cL_law 350 = .ok (.iaload, 1) := by decide +kernel
theorem dL_law_351 : decode cL_law 351 = .ok (.invokevirtual 37, 3) := by decide +kernel
theorem dL_law_354 : decode cL_law 354 = .ok (.if_icmp .eq 712, 3) := by decide +kernel
theorem dL_law_357 : decode cL_law 357 = .ok (.iconst 0, 1) := by decide +kernel
theorem dL_law_358 : decode cL_law 358 = .ok (.ireturn, 1) := by decide +kernel
theorem dL_law_359 : decode cL_law 359 = .ok (.aload_n 1, 1) := by decide +kernel
theorem dL_law_360 : decode cL_law 360 = .ok (.aload_n 0, 1) := by decide +kernel
theorem dL_law_361 : decode cL_law 361 = .ok (.iload_n 3, 1) := by decide +kernel
theorem dL_law_362 : decode cL_law 362 = .ok (.iconst 1, 1) := by decide +kernel
theorem dL_law_363 : decode cL_law 363 = .ok (.iadd, 1) := by decide +kernel
theorem dL_law_364 : decode cL_law 364 = .ok (.iaload, 1) := by decide +kernel
theorem dL_law_365 : decode cL_law 365 = .ok (.aload_n 0, 1) := by decide +kernel
theorem dL_law_366 : decode cL_law 366 = .ok (.iload_n 3, 1) := by decide +kernel
theorem dL_law_367 : decode cL_law 367 = .ok (.iconst 2, 1) := by decide +kernel
theorem dL_law_368 : decode cL_law 368 = .ok (.iadd, 1) := by decide +kernel
theorem dL_law_369 : decode cL_law 369 = .ok (.iaload, 1) := by decide +kernel
theorem dL_law_370 : decode cL_law 370 = .ok (.invokevirtual 38, 3) := by decide +kernel
theorem dL_law_373 : decode cL_law 373 = .ok (.aload_n 2, 1) := by decide +kernel
theorem dL_law_374 : decode cL_law 374 = .ok (.aload_n 0, 1) := by decide +kernel
theorem dL_law_375 : decode cL_law 375 = .ok (.iload_n 3, 1) := by decide +kernel
theorem dL_law_376 : decode cL_law 376 = .ok (.iconst 1, 1) := by decide +kernel
theorem dL_law_377 : decode cL_law 377 = .ok (.iadd, 1) := by decide +kernel
theorem dL_law_378 : decode cL_law 378 = .ok (.iaload, 1) := by decide +kernel
theorem dL_law_379 : decode cL_law 379 = .ok (.aload_n 0, 1) := by decide +kernel
theorem dL_law_380 : decode cL_law 380 = .ok (.iload_n 3, 1) := by decide +kernel
theorem dL_law_381 : decode cL_law 381 = .ok (.iconst 2, 1) := by decide +kernel
theorem dL_law_382 : decode cL_law 382 = .ok (.iadd, 1) := by decide +kernel
theorem dL_law_383 : decode cL_law 383 = .ok (.iaload, 1) := by decide +kernel
theorem dL_law_384 : decode cL_law 384 = .ok (.invokevirtual 41, 3) := by decide +kernel
theorem dL_law_387 : decode cL_law 387 = .ok (.if_icmp .eq 679, 3) := by decide +kernel
theorem dL_law_390 : decode cL_law 390 = .ok (.iconst 0, 1) := by decide +kernel
theorem dL_law_391 : decode cL_law 391 = .ok (.ireturn, 1) := by decide +kernel
theorem dL_law_392 : decode cL_law 392 = .ok (.aload_n 1, 1) := by decide +kernel
theorem dL_law_393 : decode cL_law 393 = .ok (.aload_n 0, 1) := by decide +kernel
theorem dL_law_394 : decode cL_law 394 = .ok (.iload_n 3, 1) := by decide +kernel
theorem dL_law_395 : decode cL_law 395 = .ok (.iconst 1, 1) := by decide +kernel
theorem dL_law_396 : decode cL_law 396 = .ok (.iadd, 1) := by decide +kernel
theorem dL_law_397 : decode cL_law 397 = .ok (.iaload, 1) := by decide +kernel
theorem dL_law_398 : decode cL_law 398 = .ok (.invokevirtual 42, 3) := by decide +kernel
theorem dL_law_401 : decode cL_law 401 = .ok (.aload_n 2, 1) := by decide +kernel
theorem dL_law_402 : decode cL_law 402 = .ok (.aload_n 0, 1) := by decide +kernel
theorem dL_law_403 : decode cL_law 403 = .ok (.iload_n 3, 1) := by decide +kernel
theorem dL_law_404 : decode cL_law 404 = .ok (.iconst 1, 1) := by decide +kernel
theorem dL_law_405 : decode cL_law 405 = .ok (.iadd, 1) := by decide +kernel
theorem dL_law_406 : decode cL_law 406 = .ok (.iaload, 1) := by decide +kernel
theorem dL_law_407 : decode cL_law 407 = .ok (.invokevirtual 46, 3) := by decide +kernel
theorem dL_law_410 : decode cL_law 410 = .ok (.if_icmp .eq 656, 3) := by decide +kernel
theorem dL_law_413 : decode cL_law 413 = .ok (.iconst 0, 1) := by decide +kernel
theorem dL_law_414 : decode cL_law 414 = .ok (.ireturn, 1) := by decide +kernel
theorem dL_law_415 : decode cL_law 415 = .ok (.aload_n 1, 1) := by decide +kernel
theorem dL_law_416 : decode cL_law 416 = .ok (.aload_n 0, 1) := by decide +kernel
theorem dL_law_417 : decode cL_law 417 = .ok (.iload_n 3, 1) := by decide +kernel
theorem dL_law_418 : decode cL_law 418 = .ok (.iconst 1, 1) := by decide +kernel
theorem dL_law_419 : decode cL_law 419 = .ok (.iadd, 1) := by decide +kernel
theorem dL_law_420 : decode cL_law 420 = .ok (.iaload, 1) := by decide +kernel
theorem dL_law_421 : decode cL_law 421 = .ok (.aload_n 0, 1) := by decide +kernel
theorem dL_law_422 : decode cL_law 422 = .ok (.iload_n 3, 1) := by decide +kernel
theorem dL_law_423 : decode cL_law 423 = .ok (.iconst 2, 1) := by decide +kernel
theorem dL_law_424 : decode cL_law 424 = .ok (.iadd, 1) := by decide +kernel
theorem dL_law_425 : decode cL_law 425 = .ok (.iaload, 1) := by decide +kernel
theorem dL_law_426 : decode cL_law 426 = .ok (.invokevirtual 47, 3) := by decide +kernel
theorem dL_law_429 : decode cL_law 429 = .ok (.aload_n 2, 1) := by decide +kernel
theorem dL_law_430 : decode cL_law 430 = .ok (.aload_n 0, 1) := by decide +kernel
theorem dL_law_431 : decode cL_law 431 = .ok (.iload_n 3, 1) := by decide +kernel
theorem dL_law_432 : decode cL_law 432 = .ok (.iconst 1, 1) := by decide +kernel
theorem dL_law_433 : decode cL_law 433 = .ok (.iadd, 1) := by decide +kernel
theorem dL_law_434 : decode cL_law 434 = .ok (.iaload, 1) := by decide +kernel
theorem dL_law_435 : decode cL_law 435 = .ok (.aload_n 0, 1) := by decide +kernel
theorem dL_law_436 : decode cL_law 436 = .ok (.iload_n 3, 1) := by decide +kernel
theorem dL_law_437 : decode cL_law 437 = .ok (.iconst 2, 1) := by decide +kernel
theorem dL_law_438 : decode cL_law 438 = .ok (.iadd, 1) := by decide +kernel
theorem dL_law_439 : decode cL_law 439 = .ok (.iaload, 1) := by decide +kernel
theorem dL_law_440 : decode cL_law 440 = .ok (.invokevirtual 50, 3) := by decide +kernel
theorem dL_law_443 : decode cL_law 443 = .ok (.if_icmp .eq 623, 3) := by decide +kernel
theorem dL_law_446 : decode cL_law 446 = .ok (.iconst 0, 1) := by decide +kernel
theorem dL_law_447 : decode cL_law 447 = .ok (.ireturn, 1) := by decide +kernel
theorem dL_law_448 : decode cL_law 448 = .ok (.aload_n 1, 1) := by decide +kernel
theorem dL_law_449 : decode cL_law 449 = .ok (.aload_n 0, 1) := by decide +kernel
theorem dL_law_450 : decode cL_law 450 = .ok (.iload_n 3, 1) := by decide +kernel
theorem dL_law_451 : decode cL_law 451 = .ok (.iconst 1, 1) := by decide +kernel
theorem dL_law_452 : decode cL_law 452 = .ok (.iadd, 1) := by decide +kernel
theorem dL_law_453 : decode cL_law 453 = .ok (.iaload, 1) := by decide +kernel
theorem dL_law_454 : decode cL_law 454 = .ok (.aload_n 0, 1) := by decide +kernel
theorem dL_law_455 : decode cL_law 455 = .ok (.iload_n 3, 1) := by decide +kernel
theorem dL_law_456 : decode cL_law 456 = .ok (.iconst 2, 1) := by decide +kernel
theorem dL_law_457 : decode cL_law 457 = .ok (.iadd, 1) := by decide +kernel
theorem dL_law_458 : decode cL_law 458 = .ok (.iaload, 1) := by decide +kernel
theorem dL_law_459 : decode cL_law 459 = .ok (.aload_n 0, 1) := by decide +kernel
theorem dL_law_460 : decode cL_law 460 = .ok (.iload_n 3, 1) := by decide +kernel
theorem dL_law_461 : decode cL_law 461 = .ok (.iconst 3, 1) := by decide +kernel
theorem dL_law_462 : decode cL_law 462 = .ok (.iadd, 1) := by decide +kernel
theorem dL_law_463 : decode cL_law 463 = .ok (.iaload, 1) := by decide +kernel
theorem dL_law_464 : decode cL_law 464 = .ok (.invokevirtual 51, 3) := by decide +kernel
theorem dL_law_467 : decode cL_law 467 = .ok (.aload_n 2, 1) := by decide +kernel
theorem dL_law_468 : decode cL_law 468 = .ok (.aload_n 0, 1) := by decide +kernel
theorem dL_law_469 : decode cL_law 469 = .ok (.iload_n 3, 1) := by decide +kernel
theorem dL_law_470 : decode cL_law 470 = .ok (.iconst 1, 1) := by decide +kernel
theorem dL_law_471 : decode cL_law 471 = .ok (.iadd, 1) := by decide +kernel
theorem dL_law_472 : decode cL_law 472 = .ok (.iaload, 1) := by decide +kernel
theorem dL_law_473 : decode cL_law 473 = .ok (.aload_n 0, 1) := by decide +kernel
theorem dL_law_474 : decode cL_law 474 = .ok (.iload_n 3, 1) := by decide +kernel
theorem dL_law_475 : decode cL_law 475 = .ok (.iconst 2, 1) := by decide +kernel
theorem dL_law_476 : decode cL_law 476 = .ok (.iadd, 1) := by decide +kernel
theorem dL_law_477 : decode cL_law 477 = .ok (.iaload, 1) := by decide +kernel
theorem dL_law_478 : decode cL_law 478 = .ok (.aload_n 0, 1) := by decide +kernel
theorem dL_law_479 : decode cL_law 479 = .ok (.iload_n 3, 1) := by decide +kernel
theorem dL_law_480 : decode cL_law 480 = .ok (.iconst 3, 1) := by decide +kernel
theorem dL_law_481 : decode cL_law 481 = .ok (.iadd, 1) := by decide +kernel
theorem dL_law_482 : decode cL_law 482 = .ok (.iaload, 1) := by decide +kernel
theorem dL_law_483 : decode cL_law 483 = .ok (.invokevirtual 55, 3) := by decide +kernel
theorem dL_law_486 : decode cL_law 486 = .ok (.if_icmp .eq 580, 3) := by decide +kernel
theorem dL_law_489 : decode cL_law 489 = .ok (.iconst 0, 1) := by decide +kernel
theorem dL_law_490 : decode cL_law 490 = .ok (.ireturn, 1) := by decide +kernel
theorem dL_law_491 : decode cL_law 491 = .ok (.aload_n 1, 1) := by decide +kernel
theorem dL_law_492 : decode cL_law 492 = .ok (.aload_n 0, 1) := by decide +kernel
theorem dL_law_493 : decode cL_law 493 = .ok (.iload_n 3, 1) := by decide +kernel
theorem dL_law_494 : decode cL_law 494 = .ok (.iconst 1, 1) := by decide +kernel
theorem dL_law_495 : decode cL_law 495 = .ok (.iadd, 1) := by decide +kernel
theorem dL_law_496 : decode cL_law 496 = .ok (.iaload, 1) := by decide +kernel
theorem dL_law_497 : decode cL_law 497 = .ok (.invokevirtual 56, 3) := by decide +kernel
theorem dL_law_500 : decode cL_law 500 = .ok (.aload_n 2, 1) := by decide +kernel
theorem dL_law_501 : decode cL_law 501 = .ok (.aload_n 0, 1) := by decide +kernel
theorem dL_law_502 : decode cL_law 502 = .ok (.iload_n 3, 1) := by decide +kernel
theorem dL_law_503 : decode cL_law 503 = .ok (.iconst 1, 1) := by decide +kernel
theorem dL_law_504 : decode cL_law 504 = .ok (.iadd, 1) := by decide +kernel
theorem dL_law_505 : decode cL_law 505 = .ok (.iaload, 1) := by decide +kernel
theorem dL_law_506 : decode cL_law 506 = .ok (.invokevirtual 59, 3) := by decide +kernel
theorem dL_law_509 : decode cL_law 509 = .ok (.if_icmp .eq 557, 3) := by decide +kernel
theorem dL_law_512 : decode cL_law 512 = .ok (.iconst 0, 1) := by decide +kernel
theorem dL_law_513 : decode cL_law 513 = .ok (.ireturn, 1) := by decide +kernel
theorem dL_law_514 : decode cL_law 514 = .ok (.aload_n 1, 1) := by decide +kernel
theorem dL_law_515 : decode cL_law 515 = .ok (.aload_n 0, 1) := by decide +kernel
theorem dL_law_516 : decode cL_law 516 = .ok (.iload_n 3, 1) := by decide +kernel
theorem dL_law_517 : decode cL_law 517 = .ok (.iconst 1, 1) := by decide +kernel
theorem dL_law_518 : decode cL_law 518 = .ok (.iadd, 1) := by decide +kernel
theorem dL_law_519 : decode cL_law 519 = .ok (.iaload, 1) := by decide +kernel
theorem dL_law_520 : decode cL_law 520 = .ok (.invokevirtual 60, 3) := by decide +kernel
theorem dL_law_523 : decode cL_law 523 = .ok (.aload_n 2, 1) := by decide +kernel
theorem dL_law_524 : decode cL_law 524 = .ok (.aload_n 0, 1) := by decide +kernel
theorem dL_law_525 : decode cL_law 525 = .ok (.iload_n 3, 1) := by decide +kernel
theorem dL_law_526 : decode cL_law 526 = .ok (.iconst 1, 1) := by decide +kernel
theorem dL_law_527 : decode cL_law 527 = .ok (.iadd, 1) := by decide +kernel
theorem dL_law_528 : decode cL_law 528 = .ok (.iaload, 1) := by decide +kernel
theorem dL_law_529 : decode cL_law 529 = .ok (.invokevirtual 63, 3) := by decide +kernel
theorem dL_law_532 : decode cL_law 532 = .ok (.if_icmp .eq 534, 3) := by decide +kernel
theorem dL_law_535 : decode cL_law 535 = .ok (.iconst 0, 1) := by decide +kernel
theorem dL_law_536 : decode cL_law 536 = .ok (.ireturn, 1) := by decide +kernel
theorem dL_law_537 : decode cL_law 537 = .ok (.aload_n 1, 1) := by decide +kernel
theorem dL_law_538 : decode cL_law 538 = .ok (.aload_n 0, 1) := by decide +kernel
theorem dL_law_539 : decode cL_law 539 = .ok (.iload_n 3, 1) := by decide +kernel
theorem dL_law_540 : decode cL_law 540 = .ok (.iconst 1, 1) := by decide +kernel
theorem dL_law_541 : decode cL_law 541 = .ok (.iadd, 1) := by decide +kernel
theorem dL_law_542 : decode cL_law 542 = .ok (.iaload, 1) := by decide +kernel
theorem dL_law_543 : decode cL_law 543 = .ok (.invokevirtual 64, 3) := by decide +kernel
theorem dL_law_546 : decode cL_law 546 = .ok (.aload_n 2, 1) := by decide +kernel
theorem dL_law_547 : decode cL_law 547 = .ok (.aload_n 0, 1) := by decide +kernel
theorem dL_law_548 : decode cL_law 548 = .ok (.iload_n 3, 1) := by decide +kernel
theorem dL_law_549 : decode cL_law 549 = .ok (.iconst 1, 1) := by decide +kernel
theorem dL_law_550 : decode cL_law 550 = .ok (.iadd, 1) := by decide +kernel
theorem dL_law_551 : decode cL_law 551 = .ok (.iaload, 1) := by decide +kernel
theorem dL_law_552 : decode cL_law 552 = .ok (.invokevirtual 67, 3) := by decide +kernel
theorem dL_law_555 : decode cL_law 555 = .ok (.if_icmp .eq 511, 3) := by decide +kernel
theorem dL_law_558 : decode cL_law 558 = .ok (.iconst 0, 1) := by decide +kernel
theorem dL_law_559 : decode cL_law 559 = .ok (.ireturn, 1) := by decide +kernel
theorem dL_law_560 : decode cL_law 560 = .ok (.aload_n 1, 1) := by decide +kernel
theorem dL_law_561 : decode cL_law 561 = .ok (.aload_n 0, 1) := by decide +kernel
theorem dL_law_562 : decode cL_law 562 = .ok (.iload_n 3, 1) := by decide +kernel
theorem dL_law_563 : decode cL_law 563 = .ok (.iconst 1, 1) := by decide +kernel
theorem dL_law_564 : decode cL_law 564 = .ok (.iadd, 1) := by decide +kernel
theorem dL_law_565 : decode cL_law 565 = .ok (.iaload, 1) := by decide +kernel
theorem dL_law_566 : decode cL_law 566 = .ok (.invokevirtual 68, 3) := by decide +kernel
theorem dL_law_569 : decode cL_law 569 = .ok (.aload_n 2, 1) := by decide +kernel
theorem dL_law_570 : decode cL_law 570 = .ok (.aload_n 0, 1) := by decide +kernel
theorem dL_law_571 : decode cL_law 571 = .ok (.iload_n 3, 1) := by decide +kernel
theorem dL_law_572 : decode cL_law 572 = .ok (.iconst 1, 1) := by decide +kernel
theorem dL_law_573 : decode cL_law 573 = .ok (.iadd, 1) := by decide +kernel
theorem dL_law_574 : decode cL_law 574 = .ok (.iaload, 1) := by decide +kernel
theorem dL_law_575 : decode cL_law 575 = .ok (.invokevirtual 71, 3) := by decide +kernel
theorem dL_law_578 : decode cL_law 578 = .ok (.if_icmp .eq 488, 3) := by decide +kernel
theorem dL_law_581 : decode cL_law 581 = .ok (.iconst 0, 1) := by decide +kernel
theorem dL_law_582 : decode cL_law 582 = .ok (.ireturn, 1) := by decide +kernel
theorem dL_law_583 : decode cL_law 583 = .ok (.aload_n 1, 1) := by decide +kernel
theorem dL_law_584 : decode cL_law 584 = .ok (.invokevirtual 72, 3) := by decide +kernel
theorem dL_law_587 : decode cL_law 587 = .ok (.aload_n 2, 1) := by decide +kernel
theorem dL_law_588 : decode cL_law 588 = .ok (.invokevirtual 75, 3) := by decide +kernel
theorem dL_law_591 : decode cL_law 591 = .ok (.if_icmp .eq 475, 3) := by decide +kernel
theorem dL_law_594 : decode cL_law 594 = .ok (.iconst 0, 1) := by decide +kernel
theorem dL_law_595 : decode cL_law 595 = .ok (.ireturn, 1) := by decide +kernel
theorem dL_law_596 : decode cL_law 596 = .ok (.aload_n 1, 1) := by decide +kernel
theorem dL_law_597 : decode cL_law 597 = .ok (.aload_n 0, 1) := by decide +kernel
theorem dL_law_598 : decode cL_law 598 = .ok (.iload_n 3, 1) := by decide +kernel
theorem dL_law_599 : decode cL_law 599 = .ok (.iconst 1, 1) := by decide +kernel
theorem dL_law_600 : decode cL_law 600 = .ok (.iadd, 1) := by decide +kernel
theorem dL_law_601 : decode cL_law 601 = .ok (.iaload, 1) := by decide +kernel
theorem dL_law_602 : decode cL_law 602 = .ok (.invokevirtual 76, 3) := by decide +kernel
theorem dL_law_605 : decode cL_law 605 = .ok (.aload_n 2, 1) := by decide +kernel
theorem dL_law_606 : decode cL_law 606 = .ok (.aload_n 0, 1) := by decide +kernel
theorem dL_law_607 : decode cL_law 607 = .ok (.iload_n 3, 1) := by decide +kernel
theorem dL_law_608 : decode cL_law 608 = .ok (.iconst 1, 1) := by decide +kernel
theorem dL_law_609 : decode cL_law 609 = .ok (.iadd, 1) := by decide +kernel
theorem dL_law_610 : decode cL_law 610 = .ok (.iaload, 1) := by decide +kernel
theorem dL_law_611 : decode cL_law 611 = .ok (.invokevirtual 79, 3) := by decide +kernel
theorem dL_law_614 : decode cL_law 614 = .ok (.if_icmp .eq 452, 3) := by decide +kernel
theorem dL_law_617 : decode cL_law 617 = .ok (.iconst 0, 1) := by decide +kernel
theorem dL_law_618 : decode cL_law 618 = .ok (.ireturn, 1) := by decide +kernel
theorem dL_law_619 : decode cL_law 619 = .ok (.aload_n 1, 1) := by decide +kernel
theorem dL_law_620 : decode cL_law 620 = .ok (.aload_n 0, 1) := by decide +kernel
theorem dL_law_621 : decode cL_law 621 = .ok (.iload_n 3, 1) := by decide +kernel
theorem dL_law_622 : decode cL_law 622 = .ok (.iconst 1, 1) := by decide +kernel
theorem dL_law_623 : decode cL_law 623 = .ok (.iadd, 1) := by decide +kernel
theorem dL_law_624 : decode cL_law 624 = .ok (.iaload, 1) := by decide +kernel
theorem dL_law_625 : decode cL_law 625 = .ok (.invokevirtual 80, 3) := by decide +kernel
theorem dL_law_628 : decode cL_law 628 = .ok (.aload_n 2, 1) := by decide +kernel
theorem dL_law_629 : decode cL_law 629 = .ok (.aload_n 0, 1) := by decide +kernel
theorem dL_law_630 : decode cL_law 630 = .ok (.iload_n 3, 1) := by decide +kernel
theorem dL_law_631 : decode cL_law 631 = .ok (.iconst 1, 1) := by decide +kernel
theorem dL_law_632 : decode cL_law 632 = .ok (.iadd, 1) := by decide +kernel
theorem dL_law_633 : decode cL_law 633 = .ok (.iaload, 1) := by decide +kernel
theorem dL_law_634 : decode cL_law 634 = .ok (.invokevirtual 83, 3) := by decide +kernel
theorem dL_law_637 : decode cL_law 637 = .ok (.if_icmp .eq 429, 3) := by decide +kernel
theorem dL_law_640 : decode cL_law 640 = .ok (.iconst 0, 1) := by decide +kernel
theorem dL_law_641 : decode cL_law 641 = .ok (.ireturn, 1) := by decide +kernel
theorem dL_law_642 : decode cL_law 642 = .ok (.aload_n 1, 1) := by decide +kernel
theorem dL_law_643 : decode cL_law 643 = .ok (.invokevirtual 84, 3) := by decide +kernel
theorem dL_law_646 : decode cL_law 646 = .ok (.aload_n 2, 1) := by decide +kernel
theorem dL_law_647 : decode cL_law 647 = .ok (.invokevirtual 87, 3) := by decide +kernel
theorem dL_law_650 : decode cL_law 650 = .ok (.if_icmp .eq 416, 3) := by decide +kernel
theorem dL_law_653 : decode cL_law 653 = .ok (.iconst 0, 1) := by decide +kernel
theorem dL_law_654 : decode cL_law 654 = .ok (.ireturn, 1) := by decide +kernel
theorem dL_law_655 : decode cL_law 655 = .ok (.aload_n 1, 1) := by decide +kernel
theorem dL_law_656 : decode cL_law 656 = .ok (.aload_n 0, 1) := by decide +kernel
theorem dL_law_657 : decode cL_law 657 = .ok (.iload_n 3, 1) := by decide +kernel
theorem dL_law_658 : decode cL_law 658 = .ok (.iconst 1, 1) := by decide +kernel
theorem dL_law_659 : decode cL_law 659 = .ok (.iadd, 1) := by decide +kernel
theorem dL_law_660 : decode cL_law 660 = .ok (.iaload, 1) := by decide +kernel
theorem dL_law_661 : decode cL_law 661 = .ok (.invokevirtual 88, 3) := by decide +kernel
theorem dL_law_664 : decode cL_law 664 = .ok (.aload_n 2, 1) := by decide +kernel
theorem dL_law_665 : decode cL_law 665 = .ok (.aload_n 0, 1) := by decide +kernel
theorem dL_law_666 : decode cL_law 666 = .ok (.iload_n 3, 1) := by decide +kernel
theorem dL_law_667 : decode cL_law 667 = .ok (.iconst 1, 1) := by decide +kernel
theorem dL_law_668 : decode cL_law 668 = .ok (.iadd, 1) := by decide +kernel
theorem dL_law_669 : decode cL_law 669 = .ok (.iaload, 1) := by decide +kernel
theorem dL_law_670 : decode cL_law 670 = .ok (.invokevirtual 91, 3) := by decide +kernel
theorem dL_law_673 : decode cL_law 673 = .ok (.if_icmp .eq 393, 3) := by decide +kernel
theorem dL_law_676 : decode cL_law 676 = .ok (.iconst 0, 1) := by decide +kernel
theorem dL_law_677 : decode cL_law 677 = .ok (.ireturn, 1) := by decide +kernel
theorem dL_law_678 : decode cL_law 678 = .ok (.aload_n 1, 1) := by decide +kernel
theorem dL_law_679 : decode cL_law 679 = .ok (.invokevirtual 92, 3) := by decide +kernel
theorem dL_law_682 : decode cL_law 682 = .ok (.aload_n 2, 1) := by decide +kernel
theorem dL_law_683 : decode cL_law 683 = .ok (.invokevirtual 95, 3) := by decide +kernel
theorem dL_law_686 : decode cL_law 686 = .ok (.if_icmp .eq 380, 3) := by decide +kernel
theorem dL_law_689 : decode cL_law 689 = .ok (.iconst 0, 1) := by decide +kernel
theorem dL_law_690 : decode cL_law 690 = .ok (.ireturn, 1) := by decide +kernel
theorem dL_law_691 : decode cL_law 691 = .ok (.aload_n 1, 1) := by decide +kernel
theorem dL_law_692 : decode cL_law 692 = .ok (.aload_n 0, 1) := by decide +kernel
theorem dL_law_693 : decode cL_law 693 = .ok (.iload_n 3, 1) := by decide +kernel
theorem dL_law_694 : decode cL_law 694 = .ok (.iconst 1, 1) := by decide +kernel
theorem dL_law_695 : decode cL_law 695 = .ok (.iadd, 1) := by decide +kernel
theorem dL_law_696 : decode cL_law 696 = .ok (.iaload, 1) := by decide +kernel
theorem dL_law_697 : decode cL_law 697 = .ok (.aload_n 0, 1) := by decide +kernel
theorem dL_law_698 : decode cL_law 698 = .ok (.iload_n 3, 1) := by decide +kernel
theorem dL_law_699 : decode cL_law 699 = .ok (.iconst 2, 1) := by decide +kernel
theorem dL_law_700 : decode cL_law 700 = .ok (.iadd, 1) := by decide +kernel
theorem dL_law_701 : decode cL_law 701 = .ok (.iaload, 1) := by decide +kernel
theorem dL_law_702 : decode cL_law 702 = .ok (.aload_n 0, 1) := by decide +kernel
theorem dL_law_703 : decode cL_law 703 = .ok (.iload_n 3, 1) := by decide +kernel
theorem dL_law_704 : decode cL_law 704 = .ok (.iconst 3, 1) := by decide +kernel
theorem dL_law_705 : decode cL_law 705 = .ok (.iadd, 1) := by decide +kernel
theorem dL_law_706 : decode cL_law 706 = .ok (.iaload, 1) := by decide +kernel
theorem dL_law_707 : decode cL_law 707 = .ok (.invokevirtual 96, 3) := by decide +kernel
theorem dL_law_710 : decode cL_law 710 = .ok (.aload_n 2, 1) := by decide +kernel
theorem dL_law_711 : decode cL_law 711 = .ok (.aload_n 0, 1) := by decide +kernel
theorem dL_law_712 : decode cL_law 712 = .ok (.iload_n 3, 1) := by decide +kernel
theorem dL_law_713 : decode cL_law 713 = .ok (.iconst 1, 1) := by decide +kernel
theorem dL_law_714 : decode cL_law 714 = .ok (.iadd, 1) := by decide +kernel
theorem dL_law_715 : decode cL_law 715 = .ok (.iaload, 1) := by decide +kernel
theorem dL_law_716 : decode cL_law 716 = .ok (.aload_n 0, 1) := by decide +kernel
theorem dL_law_717 : decode cL_law 717 = .ok (.iload_n 3, 1) := by decide +kernel
theorem dL_law_718 : decode cL_law 718 = .ok (.iconst 2, 1) := by decide +kernel
theorem dL_law_719 : decode cL_law 719 = .ok (.iadd, 1) := by decide +kernel
theorem dL_law_720 : decode cL_law 720 = .ok (.iaload, 1) := by decide +kernel
theorem dL_law_721 : decode cL_law 721 = .ok (.aload_n 0, 1) := by decide +kernel
theorem dL_law_722 : decode cL_law 722 = .ok (.iload_n 3, 1) := by decide +kernel
theorem dL_law_723 : decode cL_law 723 = .ok (.iconst 3, 1) := by decide +kernel
theorem dL_law_724 : decode cL_law 724 = .ok (.iadd, 1) := by decide +kernel
theorem dL_law_725 : decode cL_law 725 = .ok (.iaload, 1) := by decide +kernel
theorem dL_law_726 : decode cL_law 726 = .ok (.invokevirtual 99, 3) := by decide +kernel
theorem dL_law_729 : decode cL_law 729 = .ok (.if_icmp .eq 337, 3) := by decide +kernel
theorem dL_law_732 : decode cL_law 732 = .ok (.iconst 0, 1) := by decide +kernel
theorem dL_law_733 : decode cL_law 733 = .ok (.ireturn, 1) := by decide +kernel
theorem dL_law_734 : decode cL_law 734 = .ok (.aload_n 1, 1) := by decide +kernel
theorem dL_law_735 : decode cL_law 735 = .ok (.aload_n 0, 1) := by decide +kernel
theorem dL_law_736 : decode cL_law 736 = .ok (.iload_n 3, 1) := by decide +kernel
theorem dL_law_737 : decode cL_law 737 = .ok (.iconst 1, 1) := by decide +kernel
theorem dL_law_738 : decode cL_law 738 = .ok (.iadd, 1) := by decide +kernel
theorem dL_law_739 : decode cL_law 739 = .ok (.iaload, 1) := by decide +kernel
theorem dL_law_740 : decode cL_law 740 = .ok (.invokevirtual 100, 3) := by decide +kernel
theorem dL_law_743 : decode cL_law 743 = .ok (.aload_n 2, 1) := by decide +kernel
theorem dL_law_744 : decode cL_law 744 = .ok (.aload_n 0, 1) := by decide +kernel
theorem dL_law_745 : decode cL_law 745 = .ok (.iload_n 3, 1) := by decide +kernel
theorem dL_law_746 : decode cL_law 746 = .ok (.iconst 1, 1) := by decide +kernel
theorem dL_law_747 : decode cL_law 747 = .ok (.iadd, 1) := by decide +kernel
theorem dL_law_748 : decode cL_law 748 = .ok (.iaload, 1) := by decide +kernel
theorem dL_law_749 : decode cL_law 749 = .ok (.invokevirtual 103, 3) := by decide +kernel
theorem dL_law_752 : decode cL_law 752 = .ok (.if_icmp .eq 314, 3) := by decide +kernel
theorem dL_law_755 : decode cL_law 755 = .ok (.iconst 0, 1) := by decide +kernel
theorem dL_law_756 : decode cL_law 756 = .ok (.ireturn, 1) := by decide +kernel
theorem dL_law_757 : decode cL_law 757 = .ok (.aload_n 1, 1) := by decide +kernel
theorem dL_law_758 : decode cL_law 758 = .ok (.aload_n 0, 1) := by decide +kernel
theorem dL_law_759 : decode cL_law 759 = .ok (.iload_n 3, 1) := by decide +kernel
theorem dL_law_760 : decode cL_law 760 = .ok (.iconst 1, 1) := by decide +kernel
theorem dL_law_761 : decode cL_law 761 = .ok (.iadd, 1) := by decide +kernel
theorem dL_law_762 : decode cL_law 762 = .ok (.iaload, 1) := by decide +kernel
theorem dL_law_763 : decode cL_law 763 = .ok (.aload_n 0, 1) := by decide +kernel
theorem dL_law_764 : decode cL_law 764 = .ok (.iload_n 3, 1) := by decide +kernel
theorem dL_law_765 : decode cL_law 765 = .ok (.iconst 2, 1) := by decide +kernel
theorem dL_law_766 : decode cL_law 766 = .ok (.iadd, 1) := by decide +kernel
theorem dL_law_767 : decode cL_law 767 = .ok (.iaload, 1) := by decide +kernel
theorem dL_law_768 : decode cL_law 768 = .ok (.invokevirtual 104, 3) := by decide +kernel
theorem dL_law_771 : decode cL_law 771 = .ok (.aload_n 2, 1) := by decide +kernel
theorem dL_law_772 : decode cL_law 772 = .ok (.aload_n 0, 1) := by decide +kernel
theorem dL_law_773 : decode cL_law 773 = .ok (.iload_n 3, 1) := by decide +kernel
theorem dL_law_774 : decode cL_law 774 = .ok (.iconst 1, 1) := by decide +kernel
theorem dL_law_775 : decode cL_law 775 = .ok (.iadd, 1) := by decide +kernel
theorem dL_law_776 : decode cL_law 776 = .ok (.iaload, 1) := by decide +kernel
theorem dL_law_777 : decode cL_law 777 = .ok (.aload_n 0, 1) := by decide +kernel
theorem dL_law_778 : decode cL_law 778 = .ok (.iload_n 3, 1) := by decide +kernel
theorem dL_law_779 : decode cL_law 779 = .ok (.iconst 2, 1) := by decide +kernel
theorem dL_law_780 : decode cL_law 780 = .ok (.iadd, 1) := by decide +kernel
theorem dL_law_781 : decode cL_law 781 = .ok (.iaload, 1) := by decide +kernel
theorem dL_law_782 : decode cL_law 782 = .ok (.invokevirtual 107, 3) := by decide +kernel
theorem dL_law_785 : decode cL_law 785 = .ok (.if_icmp .eq 281, 3) := by decide +kernel
theorem dL_law_788 : decode cL_law 788 = .ok (.iconst 0, 1) := by decide +kernel
theorem dL_law_789 : decode cL_law 789 = .ok (.ireturn, 1) := by decide +kernel
theorem dL_law_790 : decode cL_law 790 = .ok (.aload_n 1, 1) := by decide +kernel
theorem dL_law_791 : decode cL_law 791 = .ok (.aload_n 0, 1) := by decide +kernel
theorem dL_law_792 : decode cL_law 792 = .ok (.iload_n 3, 1) := by decide +kernel
theorem dL_law_793 : decode cL_law 793 = .ok (.iconst 1, 1) := by decide +kernel
theorem dL_law_794 : decode cL_law 794 = .ok (.iadd, 1) := by decide +kernel
theorem dL_law_795 : decode cL_law 795 = .ok (.iaload, 1) := by decide +kernel
theorem dL_law_796 : decode cL_law 796 = .ok (.invokevirtual 108, 3) := by decide +kernel
theorem dL_law_799 : decode cL_law 799 = .ok (.aload_n 2, 1) := by decide +kernel
theorem dL_law_800 : decode cL_law 800 = .ok (.aload_n 0, 1) := by decide +kernel
theorem dL_law_801 : decode cL_law 801 = .ok (.iload_n 3, 1) := by decide +kernel
theorem dL_law_802 : decode cL_law 802 = .ok (.iconst 1, 1) := by decide +kernel
theorem dL_law_803 : decode cL_law 803 = .ok (.iadd, 1) := by decide +kernel
theorem dL_law_804 : decode cL_law 804 = .ok (.iaload, 1) := by decide +kernel
theorem dL_law_805 : decode cL_law 805 = .ok (.invokevirtual 111, 3) := by decide +kernel
theorem dL_law_808 : decode cL_law 808 = .ok (.if_icmp .eq 258, 3) := by decide +kernel
theorem dL_law_811 : decode cL_law 811 = .ok (.iconst 0, 1) := by decide +kernel
theorem dL_law_812 : decode cL_law 812 = .ok (.ireturn, 1) := by decide +kernel
theorem dL_law_813 : decode cL_law 813 = .ok (.aload_n 1, 1) := by decide +kernel
theorem dL_law_814 : decode cL_law 814 = .ok (.aload_n 0, 1) := by decide +kernel
theorem dL_law_815 : decode cL_law 815 = .ok (.iload_n 3, 1) := by decide +kernel
theorem dL_law_816 : decode cL_law 816 = .ok (.iconst 1, 1) := by decide +kernel
theorem dL_law_817 : decode cL_law 817 = .ok (.iadd, 1) := by decide +kernel
theorem dL_law_818 : decode cL_law 818 = .ok (.iaload, 1) := by decide +kernel
theorem dL_law_819 : decode cL_law 819 = .ok (.aload_n 0, 1) := by decide +kernel
theorem dL_law_820 : decode cL_law 820 = .ok (.iload_n 3, 1) := by decide +kernel
theorem dL_law_821 : decode cL_law 821 = .ok (.iconst 2, 1) := by decide +kernel
theorem dL_law_822 : decode cL_law 822 = .ok (.iadd, 1) := by decide +kernel
theorem dL_law_823 : decode cL_law 823 = .ok (.iaload, 1) := by decide +kernel
theorem dL_law_824 : decode cL_law 824 = .ok (.invokevirtual 112, 3) := by decide +kernel
theorem dL_law_827 : decode cL_law 827 = .ok (.aload_n 2, 1) := by decide +kernel
theorem dL_law_828 : decode cL_law 828 = .ok (.aload_n 0, 1) := by decide +kernel
theorem dL_law_829 : decode cL_law 829 = .ok (.iload_n 3, 1) := by decide +kernel
theorem dL_law_830 : decode cL_law 830 = .ok (.iconst 1, 1) := by decide +kernel
theorem dL_law_831 : decode cL_law 831 = .ok (.iadd, 1) := by decide +kernel
theorem dL_law_832 : decode cL_law 832 = .ok (.iaload, 1) := by decide +kernel
theorem dL_law_833 : decode cL_law 833 = .ok (.aload_n 0, 1) := by decide +kernel
theorem dL_law_834 : decode cL_law 834 = .ok (.iload_n 3, 1) := by decide +kernel
theorem dL_law_835 : decode cL_law 835 = .ok (.iconst 2, 1) := by decide +kernel
theorem dL_law_836 : decode cL_law 836 = .ok (.iadd, 1) := by decide +kernel
theorem dL_law_837 : decode cL_law 837 = .ok (.iaload, 1) := by decide +kernel
theorem dL_law_838 : decode cL_law 838 = .ok (.invokevirtual 115, 3) := by decide +kernel
theorem dL_law_841 : decode cL_law 841 = .ok (.if_icmp .eq 225, 3) := by decide +kernel
theorem dL_law_844 : decode cL_law 844 = .ok (.iconst 0, 1) := by decide +kernel
theorem dL_law_845 : decode cL_law 845 = .ok (.ireturn, 1) := by decide +kernel
theorem dL_law_846 : decode cL_law 846 = .ok (.aload_n 1, 1) := by decide +kernel
theorem dL_law_847 : decode cL_law 847 = .ok (.invokevirtual 116, 3) := by decide +kernel
theorem dL_law_850 : decode cL_law 850 = .ok (.aload_n 2, 1) := by decide +kernel
theorem dL_law_851 : decode cL_law 851 = .ok (.invokevirtual 119, 3) := by decide +kernel
theorem dL_law_854 : decode cL_law 854 = .ok (.if_icmp .eq 212, 3) := by decide +kernel
theorem dL_law_857 : decode cL_law 857 = .ok (.iconst 0, 1) := by decide +kernel
theorem dL_law_858 : decode cL_law 858 = .ok (.ireturn, 1) := by decide +kernel
theorem dL_law_859 : decode cL_law 859 = .ok (.aload_n 1, 1) := by decide +kernel
theorem dL_law_860 : decode cL_law 860 = .ok (.aload_n 0, 1) := by decide +kernel
theorem dL_law_861 : decode cL_law 861 = .ok (.iload_n 3, 1) := by decide +kernel
theorem dL_law_862 : decode cL_law 862 = .ok (.iconst 1, 1) := by decide +kernel
theorem dL_law_863 : decode cL_law 863 = .ok (.iadd, 1) := by decide +kernel
theorem dL_law_864 : decode cL_law 864 = .ok (.iaload, 1) := by decide +kernel
theorem dL_law_865 : decode cL_law 865 = .ok (.aload_n 0, 1) := by decide +kernel
theorem dL_law_866 : decode cL_law 866 = .ok (.iload_n 3, 1) := by decide +kernel
theorem dL_law_867 : decode cL_law 867 = .ok (.iconst 2, 1) := by decide +kernel
theorem dL_law_868 : decode cL_law 868 = .ok (.iadd, 1) := by decide +kernel
theorem dL_law_869 : decode cL_law 869 = .ok (.iaload, 1) := by decide +kernel
theorem dL_law_870 : decode cL_law 870 = .ok (.invokevirtual 120, 3) := by decide +kernel
theorem dL_law_873 : decode cL_law 873 = .ok (.aload_n 2, 1) := by decide +kernel
theorem dL_law_874 : decode cL_law 874 = .ok (.aload_n 0, 1) := by decide +kernel
theorem dL_law_875 : decode cL_law 875 = .ok (.iload_n 3, 1) := by decide +kernel
theorem dL_law_876 : decode cL_law 876 = .ok (.iconst 1, 1) := by decide +kernel
theorem dL_law_877 : decode cL_law 877 = .ok (.iadd, 1) := by decide +kernel
theorem dL_law_878 : decode cL_law 878 = .ok (.iaload, 1) := by decide +kernel
theorem dL_law_879 : decode cL_law 879 = .ok (.aload_n 0, 1) := by decide +kernel
theorem dL_law_880 : decode cL_law 880 = .ok (.iload_n 3, 1) := by decide +kernel
theorem dL_law_881 : decode cL_law 881 = .ok (.iconst 2, 1) := by decide +kernel
theorem dL_law_882 : decode cL_law 882 = .ok (.iadd, 1) := by decide +kernel
theorem dL_law_883 : decode cL_law 883 = .ok (.iaload, 1) := by decide +kernel
theorem dL_law_884 : decode cL_law 884 = .ok (.invokevirtual 123, 3) := by decide +kernel
theorem dL_law_887 : decode cL_law 887 = .ok (.if_icmp .eq 179, 3) := by decide +kernel
theorem dL_law_890 : decode cL_law 890 = .ok (.iconst 0, 1) := by decide +kernel
theorem dL_law_891 : decode cL_law 891 = .ok (.ireturn, 1) := by decide +kernel
theorem dL_law_892 : decode cL_law 892 = .ok (.aload_n 1, 1) := by decide +kernel
theorem dL_law_893 : decode cL_law 893 = .ok (.aload_n 0, 1) := by decide +kernel
theorem dL_law_894 : decode cL_law 894 = .ok (.iload_n 3, 1) := by decide +kernel
theorem dL_law_895 : decode cL_law 895 = .ok (.iconst 1, 1) := by decide +kernel
theorem dL_law_896 : decode cL_law 896 = .ok (.iadd, 1) := by decide +kernel
theorem dL_law_897 : decode cL_law 897 = .ok (.iaload, 1) := by decide +kernel
theorem dL_law_898 : decode cL_law 898 = .ok (.aload_n 0, 1) := by decide +kernel
theorem dL_law_899 : decode cL_law 899 = .ok (.iload_n 3, 1) := by decide +kernel
theorem dL_law_900 : decode cL_law 900 = .ok (.iconst 2, 1) := by decide +kernel
theorem dL_law_901 : decode cL_law 901 = .ok (.iadd, 1) := by decide +kernel
theorem dL_law_902 : decode cL_law 902 = .ok (.iaload, 1) := by decide +kernel
theorem dL_law_903 : decode cL_law 903 = .ok (.invokevirtual 124, 3) := by decide +kernel
theorem dL_law_906 : decode cL_law 906 = .ok (.aload_n 2, 1) := by decide +kernel
theorem dL_law_907 : decode cL_law 907 = .ok (.aload_n 0, 1) := by decide +kernel
theorem dL_law_908 : decode cL_law 908 = .ok (.iload_n 3, 1) := by decide +kernel
theorem dL_law_909 : decode cL_law 909 = .ok (.iconst 1, 1) := by decide +kernel
theorem dL_law_910 : decode cL_law 910 = .ok (.iadd, 1) := by decide +kernel
theorem dL_law_911 : decode cL_law 911 = .ok (.iaload, 1) := by decide +kernel
theorem dL_law_912 : decode cL_law 912 = .ok (.aload_n 0, 1) := by decide +kernel
theorem dL_law_913 : decode cL_law 913 = .ok (.iload_n 3, 1) := by decide +kernel
theorem dL_law_914 : decode cL_law 914 = .ok (.iconst 2, 1) := by decide +kernel
theorem dL_law_915 : decode cL_law 915 = .ok (.iadd, 1) := by decide +kernel
theorem dL_law_916 : decode cL_law 916 = .ok (.iaload, 1) := by decide +kernel
theorem dL_law_917 : decode cL_law 917 = .ok (.invokevirtual 127, 3) := by decide +kernel
theorem dL_law_920 : decode cL_law 920 = .ok (.if_icmp .eq 146, 3) := by decide +kernel
theorem dL_law_923 : decode cL_law 923 = .ok (.iconst 0, 1) := by decide +kernel
theorem dL_law_924 : decode cL_law 924 = .ok (.ireturn, 1) := by decide +kernel
theorem dL_law_925 : decode cL_law 925 = .ok (.aload_n 1, 1) := by decide +kernel
theorem dL_law_926 : decode cL_law 926 = .ok (.invokevirtual 128, 3) := by decide +kernel
theorem dL_law_929 : decode cL_law 929 = .ok (.aload_n 2, 1) := by decide +kernel
theorem dL_law_930 : decode cL_law 930 = .ok (.invokevirtual 131, 3) := by decide +kernel
theorem dL_law_933 : decode cL_law 933 = .ok (.if_icmp .eq 133, 3) := by decide +kernel
theorem dL_law_936 : decode cL_law 936 = .ok (.iconst 0, 1) := by decide +kernel
theorem dL_law_937 : decode cL_law 937 = .ok (.ireturn, 1) := by decide +kernel
theorem dL_law_938 : decode cL_law 938 = .ok (.aload_n 1, 1) := by decide +kernel
theorem dL_law_939 : decode cL_law 939 = .ok (.aload_n 0, 1) := by decide +kernel
theorem dL_law_940 : decode cL_law 940 = .ok (.iload_n 3, 1) := by decide +kernel
theorem dL_law_941 : decode cL_law 941 = .ok (.iconst 1, 1) := by decide +kernel
theorem dL_law_942 : decode cL_law 942 = .ok (.iadd, 1) := by decide +kernel
theorem dL_law_943 : decode cL_law 943 = .ok (.iaload, 1) := by decide +kernel
theorem dL_law_944 : decode cL_law 944 = .ok (.aload_n 0, 1) := by decide +kernel
theorem dL_law_945 : decode cL_law 945 = .ok (.iload_n 3, 1) := by decide +kernel
theorem dL_law_946 : decode cL_law 946 = .ok (.iconst 2, 1) := by decide +kernel
theorem dL_law_947 : decode cL_law 947 = .ok (.iadd, 1) := by decide +kernel
theorem dL_law_948 : decode cL_law 948 = .ok (.iaload, 1) := by decide +kernel
theorem dL_law_949 : decode cL_law 949 = .ok (.invokevirtual 132, 3) := by decide +kernel
theorem dL_law_952 : decode cL_law 952 = .ok (.aload_n 2, 1) := by decide +kernel
theorem dL_law_953 : decode cL_law 953 = .ok (.aload_n 0, 1) := by decide +kernel
theorem dL_law_954 : decode cL_law 954 = .ok (.iload_n 3, 1) := by decide +kernel
theorem dL_law_955 : decode cL_law 955 = .ok (.iconst 1, 1) := by decide +kernel
theorem dL_law_956 : decode cL_law 956 = .ok (.iadd, 1) := by decide +kernel
theorem dL_law_957 : decode cL_law 957 = .ok (.iaload, 1) := by decide +kernel
theorem dL_law_958 : decode cL_law 958 = .ok (.aload_n 0, 1) := by decide +kernel
theorem dL_law_959 : decode cL_law 959 = .ok (.iload_n 3, 1) := by decide +kernel
theorem dL_law_960 : decode cL_law 960 = .ok (.iconst 2, 1) := by decide +kernel
theorem dL_law_961 : decode cL_law 961 = .ok (.iadd, 1) := by decide +kernel
theorem dL_law_962 : decode cL_law 962 = .ok (.iaload, 1) := by decide +kernel
theorem dL_law_963 : decode cL_law 963 = .ok (.invokevirtual 135, 3) := by decide +kernel
theorem dL_law_966 : decode cL_law 966 = .ok (.if_icmp .eq 100, 3) := by decide +kernel
theorem dL_law_969 : decode cL_law 969 = .ok (.iconst 0, 1) := by decide +kernel
theorem dL_law_970 : decode cL_law 970 = .ok (.ireturn, 1) := by decide +kernel
theorem dL_law_971 : decode cL_law 971 = .ok (.aload_n 1, 1) := by decide +kernel
theorem dL_law_972 : decode cL_law 972 = .ok (.aload_n 0, 1) := by decide +kernel
theorem dL_law_973 : decode cL_law 973 = .ok (.iload_n 3, 1) := by decide +kernel
theorem dL_law_974 : decode cL_law 974 = .ok (.iconst 1, 1) := by decide +kernel
theorem dL_law_975 : decode cL_law 975 = .ok (.iadd, 1) := by decide +kernel
theorem dL_law_976 : decode cL_law 976 = .ok (.iaload, 1) := by decide +kernel
theorem dL_law_977 : decode cL_law 977 = .ok (.invokevirtual 136, 3) := by decide +kernel
theorem dL_law_980 : decode cL_law 980 = .ok (.aload_n 2, 1) := by decide +kernel
theorem dL_law_981 : decode cL_law 981 = .ok (.aload_n 0, 1) := by decide +kernel
theorem dL_law_982 : decode cL_law 982 = .ok (.iload_n 3, 1) := by decide +kernel
theorem dL_law_983 : decode cL_law 983 = .ok (.iconst 1, 1) := by decide +kernel
theorem dL_law_984 : decode cL_law 984 = .ok (.iadd, 1) := by decide +kernel
theorem dL_law_985 : decode cL_law 985 = .ok (.iaload, 1) := by decide +kernel
theorem dL_law_986 : decode cL_law 986 = .ok (.invokevirtual 139, 3) := by decide +kernel
theorem dL_law_989 : decode cL_law 989 = .ok (.if_icmp .eq 77, 3) := by decide +kernel
theorem dL_law_992 : decode cL_law 992 = .ok (.iconst 0, 1) := by decide +kernel
theorem dL_law_993 : decode cL_law 993 = .ok (.ireturn, 1) := by decide +kernel
theorem dL_law_994 : decode cL_law 994 = .ok (.aload_n 1, 1) := by decide +kernel
theorem dL_law_995 : decode cL_law 995 = .ok (.aload_n 0, 1) := by decide +kernel
theorem dL_law_996 : decode cL_law 996 = .ok (.iload_n 3, 1) := by decide +kernel
theorem dL_law_997 : decode cL_law 997 = .ok (.iconst 1, 1) := by decide +kernel
theorem dL_law_998 : decode cL_law 998 = .ok (.iadd, 1) := by decide +kernel
theorem dL_law_999 : decode cL_law 999 = .ok (.iaload, 1) := by decide +kernel
theorem dL_law_1000 : decode cL_law 1000 = .ok (.invokevirtual 140, 3) := by decide +kernel
theorem dL_law_1003 : decode cL_law 1003 = .ok (.aload_n 2, 1) := by decide +kernel
theorem dL_law_1004 : decode cL_law 1004 = .ok (.aload_n 0, 1) := by decide +kernel
theorem dL_law_1005 : decode cL_law 1005 = .ok (.iload_n 3, 1) := by decide +kernel
theorem dL_law_1006 : decode cL_law 1006 = .ok (.iconst 1, 1) := by decide +kernel
theorem dL_law_1007 : decode cL_law 1007 = .ok (.iadd, 1) := by decide +kernel
theorem dL_law_1008 : decode cL_law 1008 = .ok (.iaload, 1) := by decide +kernel
theorem dL_law_1009 : decode cL_law 1009 = .ok (.invokevirtual 143, 3) := by decide +kernel
theorem dL_law_1012 : decode cL_law 1012 = .ok (.if_icmp .eq 54, 3) := by decide +kernel
theorem dL_law_1015 : decode cL_law 1015 = .ok (.iconst 0, 1) := by decide +kernel
theorem dL_law_1016 : decode cL_law 1016 = .ok (.ireturn, 1) := by decide +kernel
theorem dL_law_1017 : decode cL_law 1017 = .ok (.aload_n 1, 1) := by decide +kernel
theorem dL_law_1018 : decode cL_law 1018 = .ok (.invokevirtual 144, 3) := by decide +kernel
theorem dL_law_1021 : decode cL_law 1021 = .ok (.aload_n 2, 1) := by decide +kernel
theorem dL_law_1022 : decode cL_law 1022 = .ok (.invokevirtual 147, 3) := by decide +kernel
theorem dL_law_1025 : decode cL_law 1025 = .ok (.if_icmp .eq 41, 3) := by decide +kernel
theorem dL_law_1028 : decode cL_law 1028 = .ok (.iconst 0, 1) := by decide +kernel
theorem dL_law_1029 : decode cL_law 1029 = .ok (.ireturn, 1) := by decide +kernel
theorem dL_law_1030 : decode cL_law 1030 = .ok (.aload_n 1, 1) := by decide +kernel
theorem dL_law_1031 : decode cL_law 1031 = .ok (.invokevirtual 148, 3) := by decide +kernel
theorem dL_law_1034 : decode cL_law 1034 = .ok (.aload_n 2, 1) := by decide +kernel
theorem dL_law_1035 : decode cL_law 1035 = .ok (.invokevirtual 151, 3) := by decide +kernel
theorem dL_law_1038 : decode cL_law 1038 = .ok (.if_icmp .eq 28, 3) := by decide +kernel
theorem dL_law_1041 : decode cL_law 1041 = .ok (.iconst 0, 1) := by decide +kernel
theorem dL_law_1042 : decode cL_law 1042 = .ok (.ireturn, 1) := by decide +kernel
theorem dL_law_1043 : decode cL_law 1043 = .ok (.aload_n 1, 1) := by decide +kernel
theorem dL_law_1044 : decode cL_law 1044 = .ok (.aload_n 0, 1) := by decide +kernel
theorem dL_law_1045 : decode cL_law 1045 = .ok (.iload_n 3, 1) := by decide +kernel
theorem dL_law_1046 : decode cL_law 1046 = .ok (.iconst 1, 1) := by decide +kernel
theorem dL_law_1047 : decode cL_law 1047 = .ok (.iadd, 1) := by decide +kernel
theorem dL_law_1048 : decode cL_law 1048 = .ok (.iaload, 1) := by decide +kernel
theorem dL_law_1049 : decode cL_law 1049 = .ok (.invokevirtual 152, 3) := by decide +kernel
theorem dL_law_1052 : decode cL_law 1052 = .ok (.aload_n 2, 1) := by decide +kernel
theorem dL_law_1053 : decode cL_law 1053 = .ok (.aload_n 0, 1) := by decide +kernel
theorem dL_law_1054 : decode cL_law 1054 = .ok (.iload_n 3, 1) := by decide +kernel
theorem dL_law_1055 : decode cL_law 1055 = .ok (.iconst 1, 1) := by decide +kernel
theorem dL_law_1056 : decode cL_law 1056 = .ok (.iadd, 1) := by decide +kernel
theorem dL_law_1057 : decode cL_law 1057 = .ok (.iaload, 1) := by decide +kernel
theorem dL_law_1058 : decode cL_law 1058 = .ok (.invokevirtual 155, 3) := by decide +kernel
theorem dL_law_1061 : decode cL_law 1061 = .ok (.if_icmp .eq 5, 3) := by decide +kernel
theorem dL_law_1064 : decode cL_law 1064 = .ok (.iconst 0, 1) := by decide +kernel
theorem dL_law_1065 : decode cL_law 1065 = .ok (.ireturn, 1) := by decide +kernel
theorem dL_law_1066 : decode cL_law 1066 = .ok (.iinc 3 4, 3) := by decide +kernel
theorem dL_law_1069 : decode cL_law 1069 = .ok (.goto (-1051), 3) := by decide +kernel
theorem dL_law_1072 : decode cL_law 1072 = .ok (.iconst 1, 1) := by decide +kernel
theorem dL_law_1073 : decode cL_law 1073 = .ok (.ireturn, 1) := by decide +kernel
