theorem dX9_init_0 : decode cX9_init 0 = .ok (.aload_n 0, 1) := by decide +kernel
theorem dX9_init_1 : decode cX9_init 1 = .ok (.invokespecial 1, 3) := by decide +kernel
theorem dX9_init_4 : decode cX9_init 4 = .ok (.aload_n 0, 1) := by decide +kernel
theorem dX9_init_5 : decode cX9_init 5 = .ok (.sipush 3088, 3) := by decide +kernel
theorem dX9_init_8 : decode cX9_init 8 = .ok (.newarray .int, 2) := by decide +kernel
theorem dX9_init_10 : decode cX9_init 10 = .ok (.putfield 7, 3) := by decide +kernel
theorem dX9_init_13 : decode cX9_init 13 = .ok (.aload_n 0, 1) := by decide +kernel
theorem dX9_init_14 : decode cX9_init 14 = .ok (.sipush 3088, 3) := by decide +kernel
theorem dX9_init_17 : decode cX9_init 17 = .ok (.newarray .int, 2) := by decide +kernel
theorem dX9_init_19 : decode cX9_init 19 = .ok (.putfield 13, 3) := by decide +kernel
theorem dX9_init_22 : decode cX9_init 22 = .ok (.aload_n 0, 1) := by decide +kernel
theorem dX9_init_23 : decode cX9_init 23 = .ok (.sipush 3088, 3) := by decide +kernel
theorem dX9_init_26 : decode cX9_init 26 = .ok (.newarray .int, 2) := by decide +kernel
theorem dX9_init_28 : decode cX9_init 28 = .ok (.putfield 16, 3) := by decide +kernel
theorem dX9_init_31 : decode cX9_init 31 = .ok (.aload_n 0, 1) := by decide +kernel
theorem dX9_init_32 : decode cX9_init 32 = .ok (.iconst 4, 1) := by decide +kernel
theorem dX9_init_33 : decode cX9_init 33 = .ok (.newarray .int, 2) := by decide +kernel
theorem dX9_init_35 : decode cX9_init 35 = .ok (.putfield 19, 3) := by decide +kernel
theorem dX9_init_38 : decode cX9_init 38 = .ok (.aload_n 0, 1) := by decide +kernel
theorem dX9_init_39 : decode cX9_init 39 = .ok (.iconst 4, 1) := by decide +kernel
theorem dX9_init_40 : decode cX9_init 40 = .ok (.newarray .int, 2) := by decide +kernel
theorem dX9_init_42 : decode cX9_init 42 = .ok (.putfield 22, 3) := by decide +kernel
theorem dX9_init_45 : decode cX9_init 45 = .ok (.aload_n 0, 1) := by decide +kernel
theorem dX9_init_46 : decode cX9_init 46 = .ok (.bipush 96, 2) := by decide +kernel
theorem dX9_init_48 : decode cX9_init 48 = .ok (.newarray .int, 2) := by decide +kernel
theorem dX9_init_50 : decode cX9_init 50 = .ok (.putfield 25, 3) := by decide +kernel
theorem dX9_init_53 : decode cX9_init 53 = .ok (.aload_n 0, 1) := by decide +kernel
theorem dX9_init_54 : decode cX9_init 54 = .ok (.iconst 5, 1) := by decide +kernel
theorem dX9_init_55 : decode cX9_init 55 = .ok (.newarray .int, 2) := by decide +kernel
theorem dX9_init_57 : decode cX9_init 57 = .ok (.putfield 28, 3) := by decide +kernel
theorem dX9_init_60 : decode cX9_init 60 = .ok (.aload_n 0, 1) := by decide +kernel
theorem dX9_init_61 : decode cX9_init 61 = .ok (.iconst 5, 1) := by decide +kernel
theorem dX9_init_62 : decode cX9_init 62 = .ok (.newarray .int, 2) := by decide +kernel
theorem dX9_init_64 : decode cX9_init 64 = .ok (.putfield 31, 3) := by decide +kernel
theorem dX9_init_67 : decode cX9_init 67 = .ok (.aload_n 0, 1) := by decide +kernel
theorem dX9_init_68 : decode cX9_init 68 = .ok (.iconst 5, 1) := by decide +kernel
theorem dX9_init_69 : decode cX9_init 69 = .ok (.newarray .int, 2) := by decide +kernel
theorem dX9_init_71 : decode cX9_init 71 = .ok (.putfield 34, 3) := by decide +kernel
theorem dX9_init_74 : decode cX9_init 74 = .ok (.aload_n 0, 1) := by decide +kernel
theorem dX9_init_75 : decode cX9_init 75 = .ok (.iconst 5, 1) := by decide +kernel
theorem dX9_init_76 : decode cX9_init 76 = .ok (.newarray .int, 2) := by decide +kernel
theorem dX9_init_78 : decode cX9_init 78 = .ok (.putfield 37, 3) := by decide +kernel
theorem dX9_init_81 : decode cX9_init 81 = .ok (.aload_n 0, 1) := by decide +kernel
theorem dX9_init_82 : decode cX9_init 82 = .ok (.bipush 120, 2) := by decide +kernel
theorem dX9_init_84 : decode cX9_init 84 = .ok (.newarray .int, 2) := by decide +kernel
theorem dX9_init_86 : decode cX9_init 86 = .ok (.putfield 40, 3) := by decide +kernel
theorem dX9_init_89 : decode cX9_init 89 = .ok (.aload_n 0, 1) := by decide +kernel
theorem dX9_init_90 : decode cX9_init 90 = .ok (.bipush 88, 2) := by decide +kernel
theorem dX9_init_92 : decode cX9_init 92 = .ok (.newarray .int, 2) := by decide +kernel
theorem dX9_init_94 : decode cX9_init 94 = .ok (.putfield 43, 3) := by decide +kernel
theorem dX9_init_97 : decode cX9_init 97 = .ok (.aload_n 0, 1) := by decide +kernel
theorem dX9_init_98 : decode cX9_init 98 = .ok (.bipush 96, 2) := by decide +kernel
theorem dX9_init_100 : decode cX9_init 100 = .ok (.newarray .int, 2) := by decide +kernel
theorem dX9_init_102 : decode cX9_init 102 = .ok (.putfield 46, 3) := by decide +kernel
theorem dX9_init_105 : decode cX9_init 105 = .ok (.aload_n 0, 1) := by decide +kernel
theorem dX9_init_106 : decode cX9_init 106 = .ok (.sipush 128, 3) := by decide +kernel
theorem dX9_init_109 : decode cX9_init 109 = .ok (.newarray .int, 2) := by decide +kernel
theorem dX9_init_111 : decode cX9_init 111 = .ok (.putfield 49, 3) := by decide +kernel
theorem dX9_init_114 : decode cX9_init 114 = .ok (.aload_n 0, 1) := by decide +kernel
theorem dX9_init_115 : decode cX9_init 115 = .ok (.bipush 100, 2) := by decide +kernel
theorem dX9_init_117 : decode cX9_init 117 = .ok (.newarray .int, 2) := by decide +kernel
theorem dX9_init_119 : decode cX9_init 119 = .ok (.putfield 52, 3) := by decide +kernel
theorem dX9_init_122 : decode cX9_init 122 = .ok (.aload_n 0, 1) := by decide +kernel
theorem dX9_init_123 : decode cX9_init 123 = .ok (.bipush 24, 2) := by decide +kernel
theorem dX9_init_125 : decode cX9_init 125 = .ok (.newarray .int, 2) := by decide +kernel
theorem dX9_init_127 : decode cX9_init 127 = .ok (.putfield 55, 3) := by decide +kernel
theorem dX9_init_130 : decode cX9_init 130 = .ok (.aload_n 0, 1) := by decide +kernel
theorem dX9_init_131 : decode cX9_init 131 = .ok (.bipush 60, 2) := by decide +kernel
theorem dX9_init_133 : decode cX9_init 133 = .ok (.newarray .int, 2) := by decide +kernel
theorem dX9_init_135 : decode cX9_init 135 = .ok (.putfield 58, 3) := by decide +kernel
theorem dX9_init_138 : decode cX9_init 138 = .ok (.aload_n 0, 1) := by decide +kernel
theorem dX9_init_139 : decode cX9_init 139 = .ok (.bipush 60, 2) := by decide +kernel
theorem dX9_init_141 : decode cX9_init 141 = .ok (.newarray .int, 2) := by decide +kernel
theorem dX9_init_143 : decode cX9_init 143 = .ok (.putfield 61, 3) := by decide +kernel
theorem dX9_init_146 : decode cX9_init 146 = .ok (.aload_n 0, 1) := by decide +kernel
theorem dX9_init_147 : decode cX9_init 147 = .ok (.getfield 7, 3) := by decide +kernel
theorem dX9_init_150 : decode cX9_init 150 = .ok (.bipush 10, 2) := by decide +kernel
theorem dX9_init_152 : decode cX9_init 152 = .ok (.iconst 1, 1) := by decide +kernel
theorem dX9_init_153 : decode cX9_init 153 = .ok (.iastore, 1) := by decide +kernel
theorem dX9_init_154 : decode cX9_init 154 = .ok (.aload_n 0, 1) := by decide +kernel
theorem dX9_init_155 : decode cX9_init 155 = .ok (.getfield 7, 3) := by decide +kernel
theorem dX9_init_158 : decode cX9_init 158 = .ok (.iconst 3, 1) := by decide +kernel
theorem dX9_init_159 : decode cX9_init 159 = .ok (.bipush 100, 2) := by decide +kernel
theorem dX9_init_161 : decode cX9_init 161 = .ok (.iastore, 1) := by decide +kernel
theorem dX9_init_162 : decode cX9_init 162 = .ok (.aload_n 0, 1) := by decide +kernel
theorem dX9_init_163 : decode cX9_init 163 = .ok (.getfield 7, 3) := by decide +kernel
theorem dX9_init_166 : decode cX9_init 166 = .ok (.iconst 4, 1) := by decide +kernel
theorem dX9_init_167 : decode cX9_init 167 = .ok (.iconst 3, 1) := by decide +kernel
theorem dX9_init_168 : decode cX9_init 168 = .ok (.iastore, 1) := by decide +kernel
theorem dX9_init_169 : decode cX9_init 169 = .ok (.aload_n 0, 1) := by decide +kernel
theorem dX9_init_170 : decode cX9_init 170 = .ok (.getfield 7, 3) := by decide +kernel
theorem dX9_init_173 : decode cX9_init 173 = .ok (.iconst 5, 1) := by decide +kernel
theorem dX9_init_174 : decode cX9_init 174 = .ok (.iconst 5, 1) := by decide +kernel
theorem dX9_init_175 : decode cX9_init 175 = .ok (.iastore, 1) := by decide +kernel
theorem dX9_init_176 : decode cX9_init 176 = .ok (.iconst 0, 1) := by decide +kernel
theorem dX9_init_177 : decode cX9_init 177 = .ok (.istore_n 1, 1) := by decide +kernel
theorem dX9_init_178 : decode cX9_init 178 = .ok (.iload_n 1, 1) := by decide +kernel
theorem dX9_init_179 : decode cX9_init 179 = .ok (.iconst 4, 1) := by decide +kernel
theorem dX9_init_180 : decode cX9_init 180 = .ok (.if_icmp .ge 16, 3) := by decide +kernel
theorem dX9_init_183 : decode cX9_init 183 = .ok (.aload_n 0, 1) := by decide +kernel
theorem dX9_init_184 : decode cX9_init 184 = .ok (.getfield 19, 3) := by decide +kernel
theorem dX9_init_187 : decode cX9_init 187 = .ok (.iload_n 1, 1) := by decide +kernel
theorem dX9_init_188 : decode cX9_init 188 = .ok (.iconst (-1), 1) := by decide +kernel
theorem dX9_init_189 : decode cX9_init 189 = .ok (.iastore, 1) := by decide +kernel
theorem dX9_init_190 : decode cX9_init 190 = .ok (.iinc 1 1, 3) := by decide +kernel
theorem dX9_init_193 : decode cX9_init 193 = .ok (.goto (-15), 3) := by decide +kernel
theorem dX9_init_196 : decode cX9_init 196 = .ok (.return_, 1) := by decide +kernel
theorem dX9_isIn_0 : decode cX9_isIn 0 = .ok (.lload_n 0, 1) := by decide +kernel
theorem dX9_isIn_1 : decode cX9_isIn 1 = .ok (.lload_n 2, 1) := by decide +kernel
theorem dX9_isIn_2 : decode cX9_isIn 2 = .ok (.lcmp, 1) := by decide +kernel
theorem dX9_isIn_3 : decode cX9_isIn 3 = .ok (.ifCond .lt 14, 3) := by decide +kernel
theorem dX9_isIn_6 : decode cX9_isIn 6 = .ok (.lload_n 0, 1) := by decide +kernel
theorem dX9_isIn_7 : decode cX9_isIn 7 = .ok (.lload 4, 2) := by decide +kernel
theorem dX9_isIn_9 : decode cX9_isIn 9 = .ok (.lcmp, 1) := by decide +kernel
theorem dX9_isIn_10 : decode cX9_isIn 10 = .ok (.ifCond .gt 7, 3) := by decide +kernel
theorem dX9_isIn_13 : decode cX9_isIn 13 = .ok (.iconst 1, 1) := by decide +kernel
theorem dX9_isIn_14 : decode cX9_isIn 14 = .ok (.goto 4, 3) := by decide +kernel
theorem dX9_isIn_17 : decode cX9_isIn 17 = .ok (.iconst 0, 1) := by decide +kernel
theorem dX9_isIn_18 : decode cX9_isIn 18 = .ok (.ireturn, 1) := by decide +kernel
theorem dX9_orNone_0 : decode cX9_orNone 0 = .ok (.iload_n 0, 1) := by decide +kernel
theorem dX9_orNone_1 : decode cX9_orNone 1 = .ok (.ifCond .ge 8, 3) := by decide +kernel
theorem dX9_orNone_4 : decode cX9_orNone 4 = .ok (.ldc 64, 2) := by decide +kernel
theorem dX9_orNone_6 : decode cX9_orNone 6 = .ok (.goto 4, 3) := by decide +kernel
theorem dX9_orNone_9 : decode cX9_orNone 9 = .ok (.iload_n 0, 1) := by decide +kernel
theorem dX9_orNone_10 : decode cX9_orNone 10 = .ok (.ireturn, 1) := by decide +kernel
theorem dX9_within_0 : decode cX9_within 0 = .ok (.iload_n 0, 1) := by decide +kernel
theorem dX9_within_1 : decode cX9_within 1 = .ok (.ifCond .ge 7, 3) := by decide +kernel
theorem dX9_within_4 : decode cX9_within 4 = .ok (.iconst 0, 1) := by decide +kernel
theorem dX9_within_5 : decode cX9_within 5 = .ok (.goto 13, 3) := by decide +kernel
theorem dX9_within_8 : decode cX9_within 8 = .ok (.iload_n 0, 1) := by decide +kernel
theorem dX9_within_9 : decode cX9_within 9 = .ok (.iload_n 1, 1) := by decide +kernel
theorem dX9_within_10 : decode cX9_within 10 = .ok (.if_icmp .le 7, 3) := by decide +kernel
theorem dX9_within_13 : decode cX9_within 13 = .ok (.iload_n 1, 1) := by decide +kernel
theorem dX9_within_14 : decode cX9_within 14 = .ok (.goto 4, 3) := by decide +kernel
theorem dX9_within_17 : decode cX9_within 17 = .ok (.iload_n 0, 1) := by decide +kernel
theorem dX9_within_18 : decode cX9_within 18 = .ok (.ireturn, 1) := by decide +kernel
theorem dX9_off_0 : decode cX9_off 0 = .ok (.iload_n 0, 1) := by decide +kernel
theorem dX9_off_1 : decode cX9_off 1 = .ok (.iload_n 1, 1) := by decide +kernel
theorem dX9_off_2 : decode cX9_off 2 = .ok (.if_icmp .ge 9, 3) := by decide +kernel
theorem dX9_off_5 : decode cX9_off 5 = .ok (.iload_n 1, 1) := by decide +kernel
theorem dX9_off_6 : decode cX9_off 6 = .ok (.iload_n 0, 1) := by decide +kernel
theorem dX9_off_7 : decode cX9_off 7 = .ok (.isub, 1) := by decide +kernel
theorem dX9_off_8 : decode cX9_off 8 = .ok (.goto 6, 3) := by decide +kernel
theorem dX9_off_11 : decode cX9_off 11 = .ok (.iload_n 0, 1) := by decide +kernel
theorem dX9_off_12 : decode cX9_off 12 = .ok (.iload_n 1, 1) := by decide +kernel
theorem dX9_off_13 : decode cX9_off 13 = .ok (.isub, 1) := by decide +kernel
theorem dX9_off_14 : decode cX9_off 14 = .ok (.ireturn, 1) := by decide +kernel
theorem dX9_becomes_0 : decode cX9_becomes 0 = .ok (.aload_n 0, 1) := by decide +kernel
theorem dX9_becomes_1 : decode cX9_becomes 1 = .ok (.getfield 7, 3) := by decide +kernel
theorem dX9_becomes_4 : decode cX9_becomes 4 = .ok (.iload_n 1, 1) := by decide +kernel
theorem dX9_becomes_5 : decode cX9_becomes 5 = .ok (.iaload, 1) := by decide +kernel
theorem dX9_becomes_6 : decode cX9_becomes 6 = .ok (.istore_n 3, 1) := by decide +kernel
theorem dX9_becomes_7 : decode cX9_becomes 7 = .ok (.aload_n 0, 1) := by decide +kernel
theorem dX9_becomes_8 : decode cX9_becomes 8 = .ok (.getfield 7, 3) := by decide +kernel
theorem dX9_becomes_11 : decode cX9_becomes 11 = .ok (.iload_n 1, 1) := by decide +kernel
theorem dX9_becomes_12 : decode cX9_becomes 12 = .ok (.iload_n 2, 1) := by decide +kernel
theorem dX9_becomes_13 : decode cX9_becomes 13 = .ok (.iastore, 1) := by decide +kernel
theorem dX9_becomes_14 : decode cX9_becomes 14 = .ok (.iload_n 3, 1) := by decide +kernel
theorem dX9_becomes_15 : decode cX9_becomes 15 = .ok (.ireturn, 1) := by decide +kernel
theorem dX9_textAt_0 : decode cX9_textAt 0 = .ok (.bipush 88, 2) := by decide +kernel
theorem dX9_textAt_2 : decode cX9_textAt 2 = .ok (.sipush 200, 3) := by decide +kernel
theorem dX9_textAt_5 : decode cX9_textAt 5 = .ok (.iload_n 1, 1) := by decide +kernel
theorem dX9_textAt_6 : decode cX9_textAt 6 = .ok (.imul, 1) := by decide +kernel
theorem dX9_textAt_7 : decode cX9_textAt 7 = .ok (.iadd, 1) := by decide +kernel
theorem dX9_textAt_8 : decode cX9_textAt 8 = .ok (.ireturn, 1) := by decide +kernel
theorem dX9_wagonsOwn_0 : decode cX9_wagonsOwn 0 = .ok (.aload_n 0, 1) := by decide +kernel
theorem dX9_wagonsOwn_1 : decode cX9_wagonsOwn 1 = .ok (.getfield 7, 3) := by decide +kernel
theorem dX9_wagonsOwn_4 : decode cX9_wagonsOwn 4 = .ok (.bipush 12, 2) := by decide +kernel
theorem dX9_wagonsOwn_6 : decode cX9_wagonsOwn 6 = .ok (.iconst 3, 1) := by decide +kernel
theorem dX9_wagonsOwn_7 : decode cX9_wagonsOwn 7 = .ok (.iload_n 1, 1) := by decide +kernel
theorem dX9_wagonsOwn_8 : decode cX9_wagonsOwn 8 = .ok (.imul, 1) := by decide +kernel
theorem dX9_wagonsOwn_9 : decode cX9_wagonsOwn 9 = .ok (.iadd, 1) := by decide +kernel
theorem dX9_wagonsOwn_10 : decode cX9_wagonsOwn 10 = .ok (.iload_n 2, 1) := by decide +kernel
theorem dX9_wagonsOwn_11 : decode cX9_wagonsOwn 11 = .ok (.iadd, 1) := by decide +kernel
theorem dX9_wagonsOwn_12 : decode cX9_wagonsOwn 12 = .ok (.iaload, 1) := by decide +kernel
theorem dX9_wagonsOwn_13 : decode cX9_wagonsOwn 13 = .ok (.ireturn, 1) := by decide +kernel
theorem dX9_of_0 : decode cX9_of 0 = .ok (.aload_n 0, 1) := by decide +kernel
theorem dX9_of_1 : decode cX9_of 1 = .ok (.getfield 7, 3) := by decide +kernel
theorem dX9_of_4 : decode cX9_of 4 = .ok (.bipush 48, 2) := by decide +kernel
theorem dX9_of_6 : decode cX9_of 6 = .ok (.iconst 5, 1) := by decide +kernel
theorem dX9_of_7 : decode cX9_of 7 = .ok (.iload_n 1, 1) := by decide +kernel
theorem dX9_of_8 : decode cX9_of 8 = .ok (.imul, 1) := by decide +kernel
theorem dX9_of_9 : decode cX9_of 9 = .ok (.iadd, 1) := by decide +kernel
theorem dX9_of_10 : decode cX9_of 10 = .ok (.iload_n 2, 1) := by decide +kernel
theorem dX9_of_11 : decode cX9_of 11 = .ok (.iadd, 1) := by decide +kernel
theorem dX9_of_12 : decode cX9_of 12 = .ok (.iaload, 1) := by decide +kernel
theorem dX9_of_13 : decode cX9_of 13 = .ok (.ireturn, 1) := by decide +kernel
theorem dX9_isWagon_0 : decode cX9_isWagon 0 = .ok (.iload_n 1, 1) := by decide +kernel
theorem dX9_isWagon_1 : decode cX9_isWagon 1 = .ok (.i2l, 1) := by decide +kernel
theorem dX9_isWagon_2 : decode cX9_isWagon 2 = .ok (.lconst 0, 1) := by decide +kernel
theorem dX9_isWagon_3 : decode cX9_isWagon 3 = .ok (.aload_n 0, 1) := by decide +kernel
theorem dX9_isWagon_4 : decode cX9_isWagon 4 = .ok (.getfield 7, 3) := by decide +kernel
theorem dX9_isWagon_7 : decode cX9_isWagon 7 = .ok (.iconst 0, 1) := by decide +kernel
theorem dX9_isWagon_8 : decode cX9_isWagon 8 = .ok (.iaload, 1) := by decide +kernel
theorem dX9_isWagon_9 : decode cX9_isWagon 9 = .ok (.iconst 1, 1) := by decide +kernel
theorem dX9_isWagon_10 : decode cX9_isWagon 10 = .ok (.isub, 1) := by decide +kernel
theorem dX9_isWagon_11 : decode cX9_isWagon 11 = .ok (.i2l, 1) := by decide +kernel
theorem dX9_isWagon_12 : decode cX9_isWagon 12 = .ok (.invokestatic 65, 3) := by decide +kernel
theorem dX9_isWagon_15 : decode cX9_isWagon 15 = .ok (.ireturn, 1) := by decide +kernel
theorem dX9_isWatcher_0 : decode cX9_isWatcher 0 = .ok (.iload_n 1, 1) := by decide +kernel
theorem dX9_isWatcher_1 : decode cX9_isWatcher 1 = .ok (.i2l, 1) := by decide +kernel
theorem dX9_isWatcher_2 : decode cX9_isWatcher 2 = .ok (.lconst 0, 1) := by decide +kernel
theorem dX9_isWatcher_3 : decode cX9_isWatcher 3 = .ok (.aload_n 0, 1) := by decide +kernel
theorem dX9_isWatcher_4 : decode cX9_isWatcher 4 = .ok (.getfield 7, 3) := by decide +kernel
theorem dX9_isWatcher_7 : decode cX9_isWatcher 7 = .ok (.iconst 1, 1) := by decide +kernel
theorem dX9_isWatcher_8 : decode cX9_isWatcher 8 = .ok (.iaload, 1) := by decide +kernel
theorem dX9_isWatcher_9 : decode cX9_isWatcher 9 = .ok (.iconst 1, 1) := by decide +kernel
theorem dX9_isWatcher_10 : decode cX9_isWatcher 10 = .ok (.isub, 1) := by decide +kernel
theorem dX9_isWatcher_11 : decode cX9_isWatcher 11 = .ok (.i2l, 1) := by decide +kernel
theorem dX9_isWatcher_12 : decode cX9_isWatcher 12 = .ok (.invokestatic 65, 3) := by decide +kernel
theorem dX9_isWatcher_15 : decode cX9_isWatcher 15 = .ok (.ireturn, 1) := by decide +kernel
theorem dX9_isText_0 : decode cX9_isText 0 = .ok (.iload_n 1, 1) := by decide +kernel
theorem dX9_isText_1 : decode cX9_isText 1 = .ok (.i2l, 1) := by decide +kernel
theorem dX9_isText_2 : decode cX9_isText 2 = .ok (.lconst 0, 1) := by decide +kernel
theorem dX9_isText_3 : decode cX9_isText 3 = .ok (.aload_n 0, 1) := by decide +kernel
theorem dX9_isText_4 : decode cX9_isText 4 = .ok (.getfield 7, 3) := by decide +kernel
theorem dX9_isText_7 : decode cX9_isText 7 = .ok (.iconst 2, 1) := by decide +kernel
theorem dX9_isText_8 : decode cX9_isText 8 = .ok (.iaload, 1) := by decide +kernel
theorem dX9_isText_9 : decode cX9_isText 9 = .ok (.iconst 1, 1) := by decide +kernel
theorem dX9_isText_10 : decode cX9_isText 10 = .ok (.isub, 1) := by decide +kernel
theorem dX9_isText_11 : decode cX9_isText 11 = .ok (.i2l, 1) := by decide +kernel
theorem dX9_isText_12 : decode cX9_isText 12 = .ok (.invokestatic 65, 3) := by decide +kernel
theorem dX9_isText_15 : decode cX9_isText 15 = .ok (.ireturn, 1) := by decide +kernel
theorem dX9_drawn_0 : decode cX9_drawn 0 = .ok (.aload_n 0, 1) := by decide +kernel
theorem dX9_drawn_1 : decode cX9_drawn 1 = .ok (.getfield 7, 3) := by decide +kernel
theorem dX9_drawn_4 : decode cX9_drawn 4 = .ok (.bipush 10, 2) := by decide +kernel
theorem dX9_drawn_6 : decode cX9_drawn 6 = .ok (.aload_n 0, 1) := by decide +kernel
theorem dX9_drawn_7 : decode cX9_drawn 7 = .ok (.getfield 7, 3) := by decide +kernel
theorem dX9_drawn_10 : decode cX9_drawn 10 = .ok (.bipush 10, 2) := by decide +kernel
theorem dX9_drawn_12 : decode cX9_drawn 12 = .ok (.iaload, 1) := by decide +kernel
theorem dX9_drawn_13 : decode cX9_drawn 13 = .ok (.ldc 69, 2) := by decide +kernel
theorem dX9_drawn_15 : decode cX9_drawn 15 = .ok (.imul, 1) := by decide +kernel
theorem dX9_drawn_16 : decode cX9_drawn 16 = .ok (.sipush 12345, 3) := by decide +kernel
theorem dX9_drawn_19 : decode cX9_drawn 19 = .ok (.iadd, 1) := by decide +kernel
theorem dX9_drawn_20 : decode cX9_drawn 20 = .ok (.iastore, 1) := by decide +kernel
theorem dX9_drawn_21 : decode cX9_drawn 21 = .ok (.aload_n 0, 1) := by decide +kernel
theorem dX9_drawn_22 : decode cX9_drawn 22 = .ok (.getfield 7, 3) := by decide +kernel
theorem dX9_drawn_25 : decode cX9_drawn 25 = .ok (.bipush 10, 2) := by decide +kernel
theorem dX9_drawn_27 : decode cX9_drawn 27 = .ok (.iaload, 1) := by decide +kernel
theorem dX9_drawn_28 : decode cX9_drawn 28 = .ok (.bipush 8, 2) := by decide +kernel
theorem dX9_drawn_30 : decode cX9_drawn 30 = .ok (.iushr, 1) := by decide +kernel
theorem dX9_drawn_31 : decode cX9_drawn 31 = .ok (.ireturn, 1) := by decide +kernel
theorem dX9_wagon_0 : decode cX9_wagon 0 = .ok (.iload_n 1, 1) := by decide +kernel
theorem dX9_wagon_1 : decode cX9_wagon 1 = .ok (.i2l, 1) := by decide +kernel
theorem dX9_wagon_2 : decode cX9_wagon 2 = .ok (.lconst 0, 1) := by decide +kernel
theorem dX9_wagon_3 : decode cX9_wagon 3 = .ok (.ldc2_w 70, 3) := by decide +kernel
theorem dX9_wagon_6 : decode cX9_wagon 6 = .ok (.invokestatic 65, 3) := by decide +kernel
theorem dX9_wagon_9 : decode cX9_wagon 9 = .ok (.ifCond .ne 6, 3) := by decide +kernel
theorem dX9_wagon_12 : decode cX9_wagon 12 = .ok (.ldc 72, 2) := by decide +kernel
theorem dX9_wagon_14 : decode cX9_wagon 14 = .ok (.ireturn, 1) := by decide +kernel
theorem dX9_wagon_15 : decode cX9_wagon 15 = .ok (.aload_n 0, 1) := by decide +kernel
theorem dX9_wagon_16 : decode cX9_wagon 16 = .ok (.getfield 7, 3) := by decide +kernel
theorem dX9_wagon_19 : decode cX9_wagon 19 = .ok (.iconst 0, 1) := by decide +kernel
theorem dX9_wagon_20 : decode cX9_wagon 20 = .ok (.iaload, 1) := by decide +kernel
theorem dX9_wagon_21 : decode cX9_wagon 21 = .ok (.bipush 12, 2) := by decide +kernel
theorem dX9_wagon_23 : decode cX9_wagon 23 = .ok (.if_icmp .ne 6, 3) := by decide +kernel
theorem dX9_wagon_26 : decode cX9_wagon 26 = .ok (.ldc 73, 2) := by decide +kernel
theorem dX9_wagon_28 : decode cX9_wagon 28 = .ok (.ireturn, 1) := by decide +kernel
theorem dX9_wagon_29 : decode cX9_wagon 29 = .ok (.bipush 12, 2) := by decide +kernel
theorem dX9_wagon_31 : decode cX9_wagon 31 = .ok (.iconst 3, 1) := by decide +kernel
theorem dX9_wagon_32 : decode cX9_wagon 32 = .ok (.aload_n 0, 1) := by decide +kernel
theorem dX9_wagon_33 : decode cX9_wagon 33 = .ok (.getfield 7, 3) := by decide +kernel
theorem dX9_wagon_36 : decode cX9_wagon 36 = .ok (.iconst 0, 1) := by decide +kernel
theorem dX9_wagon_37 : decode cX9_wagon 37 = .ok (.iaload, 1) := by decide +kernel
theorem dX9_wagon_38 : decode cX9_wagon 38 = .ok (.imul, 1) := by decide +kernel
theorem dX9_wagon_39 : decode cX9_wagon 39 = .ok (.iadd, 1) := by decide +kernel
theorem dX9_wagon_40 : decode cX9_wagon 40 = .ok (.istore_n 2, 1) := by decide +kernel
theorem dX9_wagon_41 : decode cX9_wagon 41 = .ok (.aload_n 0, 1) := by decide +kernel
theorem dX9_wagon_42 : decode cX9_wagon 42 = .ok (.getfield 7, 3) := by decide +kernel
theorem dX9_wagon_45 : decode cX9_wagon 45 = .ok (.iload_n 2, 1) := by decide +kernel
theorem dX9_wagon_46 : decode cX9_wagon 46 = .ok (.iload_n 1, 1) := by decide +kernel
theorem dX9_wagon_47 : decode cX9_wagon 47 = .ok (.iastore, 1) := by decide +kernel
theorem dX9_wagon_48 : decode cX9_wagon 48 = .ok (.aload_n 0, 1) := by decide +kernel
theorem dX9_wagon_49 : decode cX9_wagon 49 = .ok (.getfield 7, 3) := by decide +kernel
theorem dX9_wagon_52 : decode cX9_wagon 52 = .ok (.iload_n 2, 1) := by decide +kernel
theorem dX9_wagon_53 : decode cX9_wagon 53 = .ok (.iconst 1, 1) := by decide +kernel
theorem dX9_wagon_54 : decode cX9_wagon 54 = .ok (.iadd, 1) := by decide +kernel
theorem dX9_wagon_55 : decode cX9_wagon 55 = .ok (.iconst 0, 1) := by decide +kernel
theorem dX9_wagon_56 : decode cX9_wagon 56 = .ok (.iastore, 1) := by decide +kernel
theorem dX9_wagon_57 : decode cX9_wagon 57 = .ok (.aload_n 0, 1) := by decide +kernel
theorem dX9_wagon_58 : decode cX9_wagon 58 = .ok (.getfield 7, 3) := by decide +kernel
theorem dX9_wagon_61 : decode cX9_wagon 61 = .ok (.iload_n 2, 1) := by decide +kernel
theorem dX9_wagon_62 : decode cX9_wagon 62 = .ok (.iconst 2, 1) := by decide +kernel
theorem dX9_wagon_63 : decode cX9_wagon 63 = .ok (.iadd, 1) := by decide +kernel
theorem dX9_wagon_64 : decode cX9_wagon 64 = .ok (.iconst 0, 1) := by decide +kernel
theorem dX9_wagon_65 : decode cX9_wagon 65 = .ok (.iastore, 1) := by decide +kernel
theorem dX9_wagon_66 : decode cX9_wagon 66 = .ok (.aload_n 0, 1) := by decide +kernel
theorem dX9_wagon_67 : decode cX9_wagon 67 = .ok (.getfield 7, 3) := by decide +kernel
theorem dX9_wagon_70 : decode cX9_wagon 70 = .ok (.iconst 0, 1) := by decide +kernel
theorem dX9_wagon_71 : decode cX9_wagon 71 = .ok (.dup2, 1) := by decide +kernel
theorem dX9_wagon_72 : decode cX9_wagon 72 = .ok (.iaload, 1) := by decide +kernel
theorem dX9_wagon_73 : decode cX9_wagon 73 = .ok (.iconst 1, 1) := by decide +kernel
theorem dX9_wagon_74 : decode cX9_wagon 74 = .ok (.iadd, 1) := by decide +kernel
theorem dX9_wagon_75 : decode cX9_wagon 75 = .ok (.iastore, 1) := by decide +kernel
theorem dX9_wagon_76 : decode cX9_wagon 76 = .ok (.aload_n 0, 1) := by decide +kernel
theorem dX9_wagon_77 : decode cX9_wagon 77 = .ok (.getfield 7, 3) := by decide +kernel
theorem dX9_wagon_80 : decode cX9_wagon 80 = .ok (.iconst 0, 1) := by decide +kernel
theorem dX9_wagon_81 : decode cX9_wagon 81 = .ok (.iaload, 1) := by decide +kernel
theorem dX9_wagon_82 : decode cX9_wagon 82 = .ok (.iconst 1, 1) := by decide +kernel
theorem dX9_wagon_83 : decode cX9_wagon 83 = .ok (.isub, 1) := by decide +kernel
theorem dX9_wagon_84 : decode cX9_wagon 84 = .ok (.ireturn, 1) := by decide +kernel
theorem dX9_nextFires_0 : decode cX9_nextFires 0 = .ok (.aload_n 0, 1) := by decide +kernel
theorem dX9_nextFires_1 : decode cX9_nextFires 1 = .ok (.getfield 7, 3) := by decide +kernel
theorem dX9_nextFires_4 : decode cX9_nextFires 4 = .ok (.iconst 0, 1) := by decide +kernel
theorem dX9_nextFires_5 : decode cX9_nextFires 5 = .ok (.iaload, 1) := by decide +kernel
theorem dX9_nextFires_6 : decode cX9_nextFires 6 = .ok (.istore_n 2, 1) := by decide +kernel
theorem dX9_nextFires_7 : decode cX9_nextFires 7 = .ok (.iload_n 2, 1) := by decide +kernel
theorem dX9_nextFires_8 : decode cX9_nextFires 8 = .ok (.iconst 3, 1) := by decide +kernel
theorem dX9_nextFires_9 : decode cX9_nextFires 9 = .ok (.if_icmp .ge 21, 3) := by decide +kernel
theorem dX9_nextFires_12 : decode cX9_nextFires 12 = .ok (.iload_n 2, 1) := by decide +kernel
theorem dX9_nextFires_13 : decode cX9_nextFires 13 = .ok (.iconst 2, 1) := by decide +kernel
theorem dX9_nextFires_14 : decode cX9_nextFires 14 = .ok (.if_icmp .ge 7, 3) := by decide +kernel
theorem dX9_nextFires_17 : decode cX9_nextFires 17 = .ok (.iconst 0, 1) := by decide +kernel
theorem dX9_nextFires_18 : decode cX9_nextFires 18 = .ok (.goto 11, 3) := by decide +kernel
theorem dX9_nextFires_21 : decode cX9_nextFires 21 = .ok (.aload_n 0, 1) := by decide +kernel
theorem dX9_nextFires_22 : decode cX9_nextFires 22 = .ok (.iconst 1, 1) := by decide +kernel
theorem dX9_nextFires_23 : decode cX9_nextFires 23 = .ok (.iload_n 1, 1) := by decide +kernel
theorem dX9_nextFires_24 : decode cX9_nextFires 24 = .ok (.isub, 1) := by decide +kernel
theorem dX9_nextFires_25 : decode cX9_nextFires 25 = .ok (.iconst 1, 1) := by decide +kernel
theorem dX9_nextFires_26 : decode cX9_nextFires 26 = .ok (.invokevirtual 74, 3) := by decide +kernel
theorem dX9_nextFires_29 : decode cX9_nextFires 29 = .ok (.ireturn, 1) := by decide +kernel
theorem dX9_nextFires_30 : decode cX9_nextFires 30 = .ok (.aload_n 0, 1) := by decide +kernel
theorem dX9_nextFires_31 : decode cX9_nextFires 31 = .ok (.iload_n 1, 1) := by decide +kernel
theorem dX9_nextFires_32 : decode cX9_nextFires 32 = .ok (.iconst 1, 1) := by decide +kernel
theorem dX9_nextFires_33 : decode cX9_nextFires 33 = .ok (.iadd, 1) := by decide +kernel
theorem dX9_nextFires_34 : decode cX9_nextFires 34 = .ok (.iload_n 2, 1) := by decide +kernel
theorem dX9_nextFires_35 : decode cX9_nextFires 35 = .ok (.irem, 1) := by decide +kernel
theorem dX9_nextFires_36 : decode cX9_nextFires 36 = .ok (.iconst 1, 1) := by decide +kernel
theorem dX9_nextFires_37 : decode cX9_nextFires 37 = .ok (.invokevirtual 74, 3) := by decide +kernel
theorem dX9_nextFires_40 : decode cX9_nextFires 40 = .ok (.aload_n 0, 1) := by decide +kernel
theorem dX9_nextFires_41 : decode cX9_nextFires 41 = .ok (.iload_n 1, 1) := by decide +kernel
theorem dX9_nextFires_42 : decode cX9_nextFires 42 = .ok (.iload_n 2, 1) := by decide +kernel
theorem dX9_nextFires_43 : decode cX9_nextFires 43 = .ok (.iadd, 1) := by decide +kernel
theorem dX9_nextFires_44 : decode cX9_nextFires 44 = .ok (.iconst 1, 1) := by decide +kernel
theorem dX9_nextFires_45 : decode cX9_nextFires 45 = .ok (.isub, 1) := by decide +kernel
theorem dX9_nextFires_46 : decode cX9_nextFires 46 = .ok (.iload_n 2, 1) := by decide +kernel
theorem dX9_nextFires_47 : decode cX9_nextFires 47 = .ok (.irem, 1) := by decide +kernel
theorem dX9_nextFires_48 : decode cX9_nextFires 48 = .ok (.iconst 1, 1) := by decide +kernel
theorem dX9_nextFires_49 : decode cX9_nextFires 49 = .ok (.invokevirtual 74, 3) := by decide +kernel
theorem dX9_nextFires_52 : decode cX9_nextFires 52 = .ok (.iadd, 1) := by decide +kernel
theorem dX9_nextFires_53 : decode cX9_nextFires 53 = .ok (.ireturn, 1) := by decide +kernel
theorem dX9_light_0 : decode cX9_light 0 = .ok (.aload_n 0, 1) := by decide +kernel
theorem dX9_light_1 : decode cX9_light 1 = .ok (.iload_n 1, 1) := by decide +kernel
theorem dX9_light_2 : decode cX9_light 2 = .ok (.iconst 1, 1) := by decide +kernel
theorem dX9_light_3 : decode cX9_light 3 = .ok (.invokevirtual 74, 3) := by decide +kernel
theorem dX9_light_6 : decode cX9_light 6 = .ok (.istore_n 2, 1) := by decide +kernel
theorem dX9_light_7 : decode cX9_light 7 = .ok (.aload_n 0, 1) := by decide +kernel
theorem dX9_light_8 : decode cX9_light 8 = .ok (.iload_n 1, 1) := by decide +kernel
theorem dX9_light_9 : decode cX9_light 9 = .ok (.invokevirtual 78, 3) := by decide +kernel
theorem dX9_light_12 : decode cX9_light 12 = .ok (.istore_n 3, 1) := by decide +kernel
theorem dX9_light_13 : decode cX9_light 13 = .ok (.aload_n 0, 1) := by decide +kernel
theorem dX9_light_14 : decode cX9_light 14 = .ok (.iconst 0, 1) := by decide +kernel
theorem dX9_light_15 : decode cX9_light 15 = .ok (.invokevirtual 82, 3) := by decide +kernel
theorem dX9_light_18 : decode cX9_light 18 = .ok (.istore 4, 2) := by decide +kernel
theorem dX9_light_20 : decode cX9_light 20 = .ok (.iload 4, 2) := by decide +kernel
theorem dX9_light_22 : decode cX9_light 22 = .ok (.ifCond .ge 9, 3) := by decide +kernel
theorem dX9_light_25 : decode cX9_light 25 = .ok (.iconst 2, 1) := by decide +kernel
theorem dX9_light_26 : decode cX9_light 26 = .ok (.iload_n 2, 1) := by decide +kernel
theorem dX9_light_27 : decode cX9_light 27 = .ok (.imul, 1) := by decide +kernel
theorem dX9_light_28 : decode cX9_light 28 = .ok (.iload_n 3, 1) := by decide +kernel
theorem dX9_light_29 : decode cX9_light 29 = .ok (.iadd, 1) := by decide +kernel
theorem dX9_light_30 : decode cX9_light 30 = .ok (.ireturn, 1) := by decide +kernel
theorem dX9_light_31 : decode cX9_light 31 = .ok (.aload_n 0, 1) := by decide +kernel
theorem dX9_light_32 : decode cX9_light 32 = .ok (.getfield 49, 3) := by decide +kernel
theorem dX9_light_35 : decode cX9_light 35 = .ok (.bipush 102, 2) := by decide +kernel
theorem dX9_light_37 : decode cX9_light 37 = .ok (.iload_n 2, 1) := by decide +kernel
theorem dX9_light_38 : decode cX9_light 38 = .ok (.iastore, 1) := by decide +kernel
theorem dX9_light_39 : decode cX9_light 39 = .ok (.aload_n 0, 1) := by decide +kernel
theorem dX9_light_40 : decode cX9_light 40 = .ok (.getfield 49, 3) := by decide +kernel
theorem dX9_light_43 : decode cX9_light 43 = .ok (.bipush 110, 2) := by decide +kernel
theorem dX9_light_45 : decode cX9_light 45 = .ok (.iload_n 3, 1) := by decide +kernel
theorem dX9_light_46 : decode cX9_light 46 = .ok (.iastore, 1) := by decide +kernel
theorem dX9_light_47 : decode cX9_light 47 = .ok (.aload_n 0, 1) := by decide +kernel
theorem dX9_light_48 : decode cX9_light 48 = .ok (.getfield 49, 3) := by decide +kernel
theorem dX9_light_51 : decode cX9_light 51 = .ok (.bipush 119, 2) := by decide +kernel
theorem dX9_light_53 : decode cX9_light 53 = .ok (.aload_n 0, 1) := by decide +kernel
theorem dX9_light_54 : decode cX9_light 54 = .ok (.getfield 7, 3) := by decide +kernel
theorem dX9_light_57 : decode cX9_light 57 = .ok (.iconst 3, 1) := by decide +kernel
theorem dX9_light_58 : decode cX9_light 58 = .ok (.iaload, 1) := by decide +kernel
theorem dX9_light_59 : decode cX9_light 59 = .ok (.iastore, 1) := by decide +kernel
theorem dX9_light_60 : decode cX9_light 60 = .ok (.aload_n 0, 1) := by decide +kernel
theorem dX9_light_61 : decode cX9_light 61 = .ok (.iload 4, 2) := by decide +kernel
theorem dX9_light_63 : decode cX9_light 63 = .ok (.invokevirtual 85, 3) := by decide +kernel
theorem dX9_light_66 : decode cX9_light 66 = .ok (.bipush 99, 2) := by decide +kernel
theorem dX9_light_68 : decode cX9_light 68 = .ok (.invokestatic 88, 3) := by decide +kernel
theorem dX9_light_71 : decode cX9_light 71 = .ok (.ireturn, 1) := by decide +kernel
theorem dX9_sees_0 : decode cX9_sees 0 = .ok (.aload_n 0, 1) := by decide +kernel
theorem dX9_sees_1 : decode cX9_sees 1 = .ok (.iload_n 1, 1) := by decide +kernel
theorem dX9_sees_2 : decode cX9_sees 2 = .ok (.iconst 1, 1) := by decide +kernel
theorem dX9_sees_3 : decode cX9_sees 3 = .ok (.invokevirtual 91, 3) := by decide +kernel
theorem dX9_sees_6 : decode cX9_sees 6 = .ok (.istore_n 2, 1) := by decide +kernel
theorem dX9_sees_7 : decode cX9_sees 7 = .ok (.aload_n 0, 1) := by decide +kernel
theorem dX9_sees_8 : decode cX9_sees 8 = .ok (.iload_n 1, 1) := by decide +kernel
theorem dX9_sees_9 : decode cX9_sees 9 = .ok (.iconst 4, 1) := by decide +kernel
theorem dX9_sees_10 : decode cX9_sees 10 = .ok (.invokevirtual 91, 3) := by decide +kernel
theorem dX9_sees_13 : decode cX9_sees 13 = .ok (.ifCond .eq 11, 3) := by decide +kernel
theorem dX9_sees_16 : decode cX9_sees 16 = .ok (.aload_n 0, 1) := by decide +kernel
theorem dX9_sees_17 : decode cX9_sees 17 = .ok (.iload_n 2, 1) := by decide +kernel
theorem dX9_sees_18 : decode cX9_sees 18 = .ok (.invokevirtual 94, 3) := by decide +kernel
theorem dX9_sees_21 : decode cX9_sees 21 = .ok (.ifCond .ne 5, 3) := by decide +kernel
theorem dX9_sees_24 : decode cX9_sees 24 = .ok (.iconst 0, 1) := by decide +kernel
theorem dX9_sees_25 : decode cX9_sees 25 = .ok (.ireturn, 1) := by decide +kernel
theorem dX9_sees_26 : decode cX9_sees 26 = .ok (.aload_n 0, 1) := by decide +kernel
theorem dX9_sees_27 : decode cX9_sees 27 = .ok (.iload_n 1, 1) := by decide +kernel
theorem dX9_sees_28 : decode cX9_sees 28 = .ok (.iconst 2, 1) := by decide +kernel
theorem dX9_sees_29 : decode cX9_sees 29 = .ok (.invokevirtual 91, 3) := by decide +kernel
theorem dX9_sees_32 : decode cX9_sees 32 = .ok (.aload_n 0, 1) := by decide +kernel
theorem dX9_sees_33 : decode cX9_sees 33 = .ok (.iload_n 1, 1) := by decide +kernel
theorem dX9_sees_34 : decode cX9_sees 34 = .ok (.iconst 3, 1) := by decide +kernel
theorem dX9_sees_35 : decode cX9_sees 35 = .ok (.invokevirtual 91, 3) := by decide +kernel
theorem dX9_sees_38 : decode cX9_sees 38 = .ok (.bipush 10, 2) := by decide +kernel
theorem dX9_sees_40 : decode cX9_sees 40 = .ok (.idiv, 1) := by decide +kernel
theorem dX9_sees_41 : decode cX9_sees 41 = .ok (.isub, 1) := by decide +kernel
theorem dX9_sees_42 : decode cX9_sees 42 = .ok (.istore_n 3, 1) := by decide +kernel
theorem dX9_sees_43 : decode cX9_sees 43 = .ok (.iload_n 3, 1) := by decide +kernel
theorem dX9_sees_44 : decode cX9_sees 44 = .ok (.ifCond .ge 7, 3) := by decide +kernel
theorem dX9_sees_47 : decode cX9_sees 47 = .ok (.iconst 0, 1) := by decide +kernel
theorem dX9_sees_48 : decode cX9_sees 48 = .ok (.goto 4, 3) := by decide +kernel
theorem dX9_sees_51 : decode cX9_sees 51 = .ok (.iload_n 3, 1) := by decide +kernel
theorem dX9_sees_52 : decode cX9_sees 52 = .ok (.aload_n 0, 1) := by decide +kernel
theorem dX9_sees_53 : decode cX9_sees 53 = .ok (.iload_n 2, 1) := by decide +kernel
theorem dX9_sees_54 : decode cX9_sees 54 = .ok (.invokevirtual 98, 3) := by decide +kernel
theorem dX9_sees_57 : decode cX9_sees 57 = .ok (.iconst 4, 1) := by decide +kernel
theorem dX9_sees_58 : decode cX9_sees 58 = .ok (.idiv, 1) := by decide +kernel
theorem dX9_sees_59 : decode cX9_sees 59 = .ok (.iadd, 1) := by decide +kernel
theorem dX9_sees_60 : decode cX9_sees 60 = .ok (.istore 4, 2) := by decide +kernel
theorem dX9_sees_62 : decode cX9_sees 62 = .ok (.aload_n 0, 1) := by decide +kernel
theorem dX9_sees_63 : decode cX9_sees 63 = .ok (.iload_n 1, 1) := by decide +kernel
theorem dX9_sees_64 : decode cX9_sees 64 = .ok (.iconst 0, 1) := by decide +kernel
theorem dX9_sees_65 : decode cX9_sees 65 = .ok (.invokevirtual 91, 3) := by decide +kernel
theorem dX9_sees_68 : decode cX9_sees 68 = .ok (.tableswitch 94 1 5 #[36, 41, 48, 55, 77], 36) := by decide +kernel
theorem dX9_sees_104 : decode cX9_sees 104 = .ok (.iload 4, 2) := by decide +kernel
theorem dX9_sees_106 : decode cX9_sees 106 = .ok (.iconst 2, 1) := by decide +kernel
theorem dX9_sees_107 : decode cX9_sees 107 = .ok (.idiv, 1) := by decide +kernel
theorem dX9_sees_108 : decode cX9_sees 108 = .ok (.ireturn, 1) := by decide +kernel
theorem dX9_sees_109 : decode cX9_sees 109 = .ok (.aload_n 0, 1) := by decide +kernel
theorem dX9_sees_110 : decode cX9_sees 110 = .ok (.iload_n 1, 1) := by decide +kernel
theorem dX9_sees_111 : decode cX9_sees 111 = .ok (.iconst 2, 1) := by decide +kernel
theorem dX9_sees_112 : decode cX9_sees 112 = .ok (.invokevirtual 91, 3) := by decide +kernel
theorem dX9_sees_115 : decode cX9_sees 115 = .ok (.ireturn, 1) := by decide +kernel
theorem dX9_sees_116 : decode cX9_sees 116 = .ok (.iload 4, 2) := by decide +kernel
theorem dX9_sees_118 : decode cX9_sees 118 = .ok (.iconst 2, 1) := by decide +kernel
theorem dX9_sees_119 : decode cX9_sees 119 = .ok (.idiv, 1) := by decide +kernel
theorem dX9_sees_120 : decode cX9_sees 120 = .ok (.iconst 1, 1) := by decide +kernel
theorem dX9_sees_121 : decode cX9_sees 121 = .ok (.iadd, 1) := by decide +kernel
theorem dX9_sees_122 : decode cX9_sees 122 = .ok (.ireturn, 1) := by decide +kernel
theorem dX9_sees_123 : decode cX9_sees 123 = .ok (.aload_n 0, 1) := by decide +kernel
theorem dX9_sees_124 : decode cX9_sees 124 = .ok (.iload_n 1, 1) := by decide +kernel
theorem dX9_sees_125 : decode cX9_sees 125 = .ok (.iconst 2, 1) := by decide +kernel
theorem dX9_sees_126 : decode cX9_sees 126 = .ok (.invokevirtual 91, 3) := by decide +kernel
theorem dX9_sees_129 : decode cX9_sees 129 = .ok (.aload_n 0, 1) := by decide +kernel
theorem dX9_sees_130 : decode cX9_sees 130 = .ok (.iload_n 2, 1) := by decide +kernel
theorem dX9_sees_131 : decode cX9_sees 131 = .ok (.iconst 0, 1) := by decide +kernel
theorem dX9_sees_132 : decode cX9_sees 132 = .ok (.invokevirtual 74, 3) := by decide +kernel
theorem dX9_sees_135 : decode cX9_sees 135 = .ok (.ifCond .le 7, 3) := by decide +kernel
theorem dX9_sees_138 : decode cX9_sees 138 = .ok (.iconst 3, 1) := by decide +kernel
theorem dX9_sees_139 : decode cX9_sees 139 = .ok (.goto 4, 3) := by decide +kernel
theorem dX9_sees_142 : decode cX9_sees 142 = .ok (.iconst 0, 1) := by decide +kernel
theorem dX9_sees_143 : decode cX9_sees 143 = .ok (.iadd, 1) := by decide +kernel
theorem dX9_sees_144 : decode cX9_sees 144 = .ok (.ireturn, 1) := by decide +kernel
theorem dX9_sees_145 : decode cX9_sees 145 = .ok (.aload_n 0, 1) := by decide +kernel
theorem dX9_sees_146 : decode cX9_sees 146 = .ok (.iload_n 1, 1) := by decide +kernel
theorem dX9_sees_147 : decode cX9_sees 147 = .ok (.iconst 3, 1) := by decide +kernel
theorem dX9_sees_148 : decode cX9_sees 148 = .ok (.invokevirtual 91, 3) := by decide +kernel
theorem dX9_sees_151 : decode cX9_sees 151 = .ok (.iconst 5, 1) := by decide +kernel
theorem dX9_sees_152 : decode cX9_sees 152 = .ok (.if_icmp .le 7, 3) := by decide +kernel
theorem dX9_sees_155 : decode cX9_sees 155 = .ok (.iconst 0, 1) := by decide +kernel
theorem dX9_sees_156 : decode cX9_sees 156 = .ok (.goto 5, 3) := by decide +kernel
theorem dX9_sees_159 : decode cX9_sees 159 = .ok (.iload 4, 2) := by decide +kernel
theorem dX9_sees_161 : decode cX9_sees 161 = .ok (.ireturn, 1) := by decide +kernel
theorem dX9_sees_162 : decode cX9_sees 162 = .ok (.iload 4, 2) := by decide +kernel
theorem dX9_sees_164 : decode cX9_sees 164 = .ok (.ireturn, 1) := by decide +kernel
theorem dX9_worth_0 : decode cX9_worth 0 = .ok (.aload_n 0, 1) := by decide +kernel
theorem dX9_worth_1 : decode cX9_worth 1 = .ok (.iload_n 1, 1) := by decide +kernel
theorem dX9_worth_2 : decode cX9_worth 2 = .ok (.iconst 2, 1) := by decide +kernel
theorem dX9_worth_3 : decode cX9_worth 3 = .ok (.invokevirtual 91, 3) := by decide +kernel
theorem dX9_worth_6 : decode cX9_worth 6 = .ok (.istore_n 2, 1) := by decide +kernel
theorem dX9_worth_7 : decode cX9_worth 7 = .ok (.aload_n 0, 1) := by decide +kernel
theorem dX9_worth_8 : decode cX9_worth 8 = .ok (.iload_n 1, 1) := by decide +kernel
theorem dX9_worth_9 : decode cX9_worth 9 = .ok (.iconst 0, 1) := by decide +kernel
theorem dX9_worth_10 : decode cX9_worth 10 = .ok (.invokevirtual 91, 3) := by decide +kernel
theorem dX9_worth_13 : decode cX9_worth 13 = .ok (.tableswitch 57 1 5 #[35, 39, 44, 50, 55], 35) := by decide +kernel
theorem dX9_worth_48 : decode cX9_worth 48 = .ok (.iload_n 2, 1) := by decide +kernel
theorem dX9_worth_49 : decode cX9_worth 49 = .ok (.iconst 4, 1) := by decide +kernel
theorem dX9_worth_50 : decode cX9_worth 50 = .ok (.iadd, 1) := by decide +kernel
theorem dX9_worth_51 : decode cX9_worth 51 = .ok (.ireturn, 1) := by decide +kernel
theorem dX9_worth_52 : decode cX9_worth 52 = .ok (.bipush 20, 2) := by decide +kernel
theorem dX9_worth_54 : decode cX9_worth 54 = .ok (.iload_n 2, 1) := by decide +kernel
theorem dX9_worth_55 : decode cX9_worth 55 = .ok (.isub, 1) := by decide +kernel
theorem dX9_worth_56 : decode cX9_worth 56 = .ok (.ireturn, 1) := by decide +kernel
theorem dX9_worth_57 : decode cX9_worth 57 = .ok (.iconst 2, 1) := by decide +kernel
theorem dX9_worth_58 : decode cX9_worth 58 = .ok (.iload_n 2, 1) := by decide +kernel
theorem dX9_worth_59 : decode cX9_worth 59 = .ok (.iconst 4, 1) := by decide +kernel
theorem dX9_worth_60 : decode cX9_worth 60 = .ok (.iadd, 1) := by decide +kernel
theorem dX9_worth_61 : decode cX9_worth 61 = .ok (.imul, 1) := by decide +kernel
theorem dX9_worth_62 : decode cX9_worth 62 = .ok (.ireturn, 1) := by decide +kernel
theorem dX9_worth_63 : decode cX9_worth 63 = .ok (.bipush 29, 2) := by decide +kernel
theorem dX9_worth_65 : decode cX9_worth 65 = .ok (.iload_n 2, 1) := by decide +kernel
theorem dX9_worth_66 : decode cX9_worth 66 = .ok (.isub, 1) := by decide +kernel
theorem dX9_worth_67 : decode cX9_worth 67 = .ok (.ireturn, 1) := by decide +kernel
theorem dX9_worth_68 : decode cX9_worth 68 = .ok (.iconst 2, 1) := by decide +kernel
theorem dX9_worth_69 : decode cX9_worth 69 = .ok (.ireturn, 1) := by decide +kernel
theorem dX9_worth_70 : decode cX9_worth 70 = .ok (.iload_n 2, 1) := by decide +kernel
theorem dX9_worth_71 : decode cX9_worth 71 = .ok (.ireturn, 1) := by decide +kernel
theorem dX9_guard_0 : decode cX9_guard 0 = .ok (.aload_n 0, 1) := by decide +kernel
theorem dX9_guard_1 : decode cX9_guard 1 = .ok (.iload_n 1, 1) := by decide +kernel
theorem dX9_guard_2 : decode cX9_guard 2 = .ok (.invokevirtual 98, 3) := by decide +kernel
theorem dX9_guard_5 : decode cX9_guard 5 = .ok (.istore_n 2, 1) := by decide +kernel
theorem dX9_guard_6 : decode cX9_guard 6 = .ok (.iconst 0, 1) := by decide +kernel
theorem dX9_guard_7 : decode cX9_guard 7 = .ok (.istore_n 3, 1) := by decide +kernel
theorem dX9_guard_8 : decode cX9_guard 8 = .ok (.iload_n 3, 1) := by decide +kernel
theorem dX9_guard_9 : decode cX9_guard 9 = .ok (.aload_n 0, 1) := by decide +kernel
theorem dX9_guard_10 : decode cX9_guard 10 = .ok (.getfield 7, 3) := by decide +kernel
theorem dX9_guard_13 : decode cX9_guard 13 = .ok (.iconst 1, 1) := by decide +kernel
theorem dX9_guard_14 : decode cX9_guard 14 = .ok (.iaload, 1) := by decide +kernel
theorem dX9_guard_15 : decode cX9_guard 15 = .ok (.if_icmp .ge 31, 3) := by decide +kernel
theorem dX9_guard_18 : decode cX9_guard 18 = .ok (.iload_n 2, 1) := by decide +kernel
theorem dX9_guard_19 : decode cX9_guard 19 = .ok (.aload_n 0, 1) := by decide +kernel
theorem dX9_guard_20 : decode cX9_guard 20 = .ok (.iload_n 3, 1) := by decide +kernel
theorem dX9_guard_21 : decode cX9_guard 21 = .ok (.iconst 1, 1) := by decide +kernel
theorem dX9_guard_22 : decode cX9_guard 22 = .ok (.invokevirtual 91, 3) := by decide +kernel
theorem dX9_guard_25 : decode cX9_guard 25 = .ok (.iload_n 1, 1) := by decide +kernel
theorem dX9_guard_26 : decode cX9_guard 26 = .ok (.if_icmp .ne 11, 3) := by decide +kernel
theorem dX9_guard_29 : decode cX9_guard 29 = .ok (.aload_n 0, 1) := by decide +kernel
theorem dX9_guard_30 : decode cX9_guard 30 = .ok (.iload_n 3, 1) := by decide +kernel
theorem dX9_guard_31 : decode cX9_guard 31 = .ok (.invokevirtual 101, 3) := by decide +kernel
theorem dX9_guard_34 : decode cX9_guard 34 = .ok (.goto 4, 3) := by decide +kernel
theorem dX9_guard_37 : decode cX9_guard 37 = .ok (.iconst 0, 1) := by decide +kernel
theorem dX9_guard_38 : decode cX9_guard 38 = .ok (.iadd, 1) := by decide +kernel
theorem dX9_guard_39 : decode cX9_guard 39 = .ok (.istore_n 2, 1) := by decide +kernel
theorem dX9_guard_40 : decode cX9_guard 40 = .ok (.iinc 3 1, 3) := by decide +kernel
theorem dX9_guard_43 : decode cX9_guard 43 = .ok (.goto (-35), 3) := by decide +kernel
theorem dX9_guard_46 : decode cX9_guard 46 = .ok (.iload_n 2, 1) := by decide +kernel
theorem dX9_guard_47 : decode cX9_guard 47 = .ok (.ireturn, 1) := by decide +kernel
theorem dX9_fears_0 : decode cX9_fears 0 = .ok (.aload_n 0, 1) := by decide +kernel
theorem dX9_fears_1 : decode cX9_fears 1 = .ok (.iload_n 1, 1) := by decide +kernel
theorem dX9_fears_2 : decode cX9_fears 2 = .ok (.invokevirtual 104, 3) := by decide +kernel
theorem dX9_fears_5 : decode cX9_fears 5 = .ok (.istore_n 2, 1) := by decide +kernel
theorem dX9_fears_6 : decode cX9_fears 6 = .ok (.aload_n 0, 1) := by decide +kernel
theorem dX9_fears_7 : decode cX9_fears 7 = .ok (.iconst 1, 1) := by decide +kernel
theorem dX9_fears_8 : decode cX9_fears 8 = .ok (.invokevirtual 82, 3) := by decide +kernel
theorem dX9_fears_11 : decode cX9_fears 11 = .ok (.istore_n 3, 1) := by decide +kernel
theorem dX9_fears_12 : decode cX9_fears 12 = .ok (.iload_n 3, 1) := by decide +kernel
theorem dX9_fears_13 : decode cX9_fears 13 = .ok (.ifCond .ge 12, 3) := by decide +kernel
theorem dX9_fears_16 : decode cX9_fears 16 = .ok (.iload_n 2, 1) := by decide +kernel
theorem dX9_fears_17 : decode cX9_fears 17 = .ok (.aload_n 0, 1) := by decide +kernel
theorem dX9_fears_18 : decode cX9_fears 18 = .ok (.iload_n 1, 1) := by decide +kernel
theorem dX9_fears_19 : decode cX9_fears 19 = .ok (.iconst 2, 1) := by decide +kernel
theorem dX9_fears_20 : decode cX9_fears 20 = .ok (.invokevirtual 74, 3) := by decide +kernel
theorem dX9_fears_23 : decode cX9_fears 23 = .ok (.iadd, 1) := by decide +kernel
theorem dX9_fears_24 : decode cX9_fears 24 = .ok (.ireturn, 1) := by decide +kernel
theorem dX9_fears_25 : decode cX9_fears 25 = .ok (.aload_n 0, 1) := by decide +kernel
theorem dX9_fears_26 : decode cX9_fears 26 = .ok (.getfield 49, 3) := by decide +kernel
theorem dX9_fears_29 : decode cX9_fears 29 = .ok (.bipush 103, 2) := by decide +kernel
theorem dX9_fears_31 : decode cX9_fears 31 = .ok (.iload_n 2, 1) := by decide +kernel
theorem dX9_fears_32 : decode cX9_fears 32 = .ok (.iastore, 1) := by decide +kernel
theorem dX9_fears_33 : decode cX9_fears 33 = .ok (.aload_n 0, 1) := by decide +kernel
theorem dX9_fears_34 : decode cX9_fears 34 = .ok (.getfield 49, 3) := by decide +kernel
theorem dX9_fears_37 : decode cX9_fears 37 = .ok (.bipush 116, 2) := by decide +kernel
theorem dX9_fears_39 : decode cX9_fears 39 = .ok (.aload_n 0, 1) := by decide +kernel
theorem dX9_fears_40 : decode cX9_fears 40 = .ok (.iload_n 1, 1) := by decide +kernel
theorem dX9_fears_41 : decode cX9_fears 41 = .ok (.iconst 2, 1) := by decide +kernel
theorem dX9_fears_42 : decode cX9_fears 42 = .ok (.invokevirtual 74, 3) := by decide +kernel
theorem dX9_fears_45 : decode cX9_fears 45 = .ok (.iastore, 1) := by decide +kernel
theorem dX9_fears_46 : decode cX9_fears 46 = .ok (.aload_n 0, 1) := by decide +kernel
theorem dX9_fears_47 : decode cX9_fears 47 = .ok (.getfield 49, 3) := by decide +kernel
theorem dX9_fears_50 : decode cX9_fears 50 = .ok (.bipush 104, 2) := by decide +kernel
theorem dX9_fears_52 : decode cX9_fears 52 = .ok (.aload_n 0, 1) := by decide +kernel
theorem dX9_fears_53 : decode cX9_fears 53 = .ok (.getfield 7, 3) := by decide +kernel
theorem dX9_fears_56 : decode cX9_fears 56 = .ok (.iconst 5, 1) := by decide +kernel
theorem dX9_fears_57 : decode cX9_fears 57 = .ok (.iaload, 1) := by decide +kernel
theorem dX9_fears_58 : decode cX9_fears 58 = .ok (.iastore, 1) := by decide +kernel
theorem dX9_fears_59 : decode cX9_fears 59 = .ok (.aload_n 0, 1) := by decide +kernel
theorem dX9_fears_60 : decode cX9_fears 60 = .ok (.iload_n 3, 1) := by decide +kernel
theorem dX9_fears_61 : decode cX9_fears 61 = .ok (.invokevirtual 85, 3) := by decide +kernel
theorem dX9_fears_64 : decode cX9_fears 64 = .ok (.sipush 999, 3) := by decide +kernel
theorem dX9_fears_67 : decode cX9_fears 67 = .ok (.invokestatic 88, 3) := by decide +kernel
theorem dX9_fears_70 : decode cX9_fears 70 = .ok (.ireturn, 1) := by decide +kernel
theorem dX9_at_0 : decode cX9_at 0 = .ok (.aload_n 0, 1) := by decide +kernel
theorem dX9_at_1 : decode cX9_at 1 = .ok (.iload_n 1, 1) := by decide +kernel
theorem dX9_at_2 : decode cX9_at 2 = .ok (.invokevirtual 94, 3) := by decide +kernel
theorem dX9_at_5 : decode cX9_at 5 = .ok (.ifCond .ne 6, 3) := by decide +kernel
theorem dX9_at_8 : decode cX9_at 8 = .ok (.ldc 72, 2) := by decide +kernel
theorem dX9_at_10 : decode cX9_at 10 = .ok (.ireturn, 1) := by decide +kernel
theorem dX9_at_11 : decode cX9_at 11 = .ok (.iload_n 2, 1) := by decide +kernel
theorem dX9_at_12 : decode cX9_at 12 = .ok (.tableswitch 65 0 5 #[40, 40, 40, 47, 53, 59], 40) := by decide +kernel
theorem dX9_at_52 : decode cX9_at 52 = .ok (.aload_n 0, 1) := by decide +kernel
theorem dX9_at_53 : decode cX9_at 53 = .ok (.iload_n 1, 1) := by decide +kernel
theorem dX9_at_54 : decode cX9_at 54 = .ok (.iload_n 2, 1) := by decide +kernel
theorem dX9_at_55 : decode cX9_at 55 = .ok (.invokevirtual 74, 3) := by decide +kernel
theorem dX9_at_58 : decode cX9_at 58 = .ok (.ireturn, 1) := by decide +kernel
theorem dX9_at_59 : decode cX9_at 59 = .ok (.aload_n 0, 1) := by decide +kernel
theorem dX9_at_60 : decode cX9_at 60 = .ok (.iload_n 1, 1) := by decide +kernel
theorem dX9_at_61 : decode cX9_at 61 = .ok (.invokevirtual 98, 3) := by decide +kernel
theorem dX9_at_64 : decode cX9_at 64 = .ok (.ireturn, 1) := by decide +kernel
theorem dX9_at_65 : decode cX9_at 65 = .ok (.aload_n 0, 1) := by decide +kernel
theorem dX9_at_66 : decode cX9_at 66 = .ok (.iload_n 1, 1) := by decide +kernel
theorem dX9_at_67 : decode cX9_at 67 = .ok (.invokevirtual 104, 3) := by decide +kernel
theorem dX9_at_70 : decode cX9_at 70 = .ok (.ireturn, 1) := by decide +kernel
theorem dX9_at_71 : decode cX9_at 71 = .ok (.aload_n 0, 1) := by decide +kernel
theorem dX9_at_72 : decode cX9_at 72 = .ok (.iload_n 1, 1) := by decide +kernel
theorem dX9_at_73 : decode cX9_at 73 = .ok (.invokevirtual 107, 3) := by decide +kernel
theorem dX9_at_76 : decode cX9_at 76 = .ok (.ireturn, 1) := by decide +kernel
theorem dX9_at_77 : decode cX9_at 77 = .ok (.ldc 72, 2) := by decide +kernel
theorem dX9_at_79 : decode cX9_at 79 = .ok (.ireturn, 1) := by decide +kernel
theorem dX9_lays_0 : decode cX9_lays 0 = .ok (.aload_n 0, 1) := by decide +kernel
theorem dX9_lays_1 : decode cX9_lays 1 = .ok (.iload_n 1, 1) := by decide +kernel
theorem dX9_lays_2 : decode cX9_lays 2 = .ok (.invokevirtual 94, 3) := by decide +kernel
theorem dX9_lays_5 : decode cX9_lays 5 = .ok (.ifCond .eq 38, 3) := by decide +kernel
theorem dX9_lays_8 : decode cX9_lays 8 = .ok (.iload_n 2, 1) := by decide +kernel
theorem dX9_lays_9 : decode cX9_lays 9 = .ok (.i2l, 1) := by decide +kernel
theorem dX9_lays_10 : decode cX9_lays 10 = .ok (.lconst 0, 1) := by decide +kernel
theorem dX9_lays_11 : decode cX9_lays 11 = .ok (.ldc2_w 110, 3) := by decide +kernel
theorem dX9_lays_14 : decode cX9_lays 14 = .ok (.invokestatic 65, 3) := by decide +kernel
theorem dX9_lays_17 : decode cX9_lays 17 = .ok (.ifCond .eq 26, 3) := by decide +kernel
theorem dX9_lays_20 : decode cX9_lays 20 = .ok (.iload_n 3, 1) := by decide +kernel
theorem dX9_lays_21 : decode cX9_lays 21 = .ok (.i2l, 1) := by decide +kernel
theorem dX9_lays_22 : decode cX9_lays 22 = .ok (.lconst 0, 1) := by decide +kernel
theorem dX9_lays_23 : decode cX9_lays 23 = .ok (.iload_n 2, 1) := by decide +kernel
theorem dX9_lays_24 : decode cX9_lays 24 = .ok (.iconst 1, 1) := by decide +kernel
theorem dX9_lays_25 : decode cX9_lays 25 = .ok (.if_icmp .ne 9, 3) := by decide +kernel
theorem dX9_lays_28 : decode cX9_lays 28 = .ok (.ldc2_w 112, 3) := by decide +kernel
theorem dX9_lays_31 : decode cX9_lays 31 = .ok (.goto 6, 3) := by decide +kernel
theorem dX9_lays_34 : decode cX9_lays 34 = .ok (.ldc2_w 70, 3) := by decide +kernel
theorem dX9_lays_37 : decode cX9_lays 37 = .ok (.invokestatic 65, 3) := by decide +kernel
theorem dX9_lays_40 : decode cX9_lays 40 = .ok (.ifCond .ne 6, 3) := by decide +kernel
theorem dX9_lays_43 : decode cX9_lays 43 = .ok (.ldc 72, 2) := by decide +kernel
theorem dX9_lays_45 : decode cX9_lays 45 = .ok (.ireturn, 1) := by decide +kernel
theorem dX9_lays_46 : decode cX9_lays 46 = .ok (.aload_n 0, 1) := by decide +kernel
theorem dX9_lays_47 : decode cX9_lays 47 = .ok (.bipush 12, 2) := by decide +kernel
theorem dX9_lays_49 : decode cX9_lays 49 = .ok (.iconst 3, 1) := by decide +kernel
theorem dX9_lays_50 : decode cX9_lays 50 = .ok (.iload_n 1, 1) := by decide +kernel
theorem dX9_lays_51 : decode cX9_lays 51 = .ok (.imul, 1) := by decide +kernel
theorem dX9_lays_52 : decode cX9_lays 52 = .ok (.iadd, 1) := by decide +kernel
theorem dX9_lays_53 : decode cX9_lays 53 = .ok (.iload_n 2, 1) := by decide +kernel
theorem dX9_lays_54 : decode cX9_lays 54 = .ok (.iadd, 1) := by decide +kernel
theorem dX9_lays_55 : decode cX9_lays 55 = .ok (.iload_n 3, 1) := by decide +kernel
theorem dX9_lays_56 : decode cX9_lays 56 = .ok (.invokevirtual 114, 3) := by decide +kernel
theorem dX9_lays_59 : decode cX9_lays 59 = .ok (.ireturn, 1) := by decide +kernel
theorem dX9_far_0 : decode cX9_far 0 = .ok (.aload_n 0, 1) := by decide +kernel
theorem dX9_far_1 : decode cX9_far 1 = .ok (.iload_n 1, 1) := by decide +kernel
theorem dX9_far_2 : decode cX9_far 2 = .ok (.invokevirtual 94, 3) := by decide +kernel
theorem dX9_far_5 : decode cX9_far 5 = .ok (.ifCond .eq 11, 3) := by decide +kernel
theorem dX9_far_8 : decode cX9_far 8 = .ok (.aload_n 0, 1) := by decide +kernel
theorem dX9_far_9 : decode cX9_far 9 = .ok (.iload_n 2, 1) := by decide +kernel
theorem dX9_far_10 : decode cX9_far 10 = .ok (.invokevirtual 94, 3) := by decide +kernel
theorem dX9_far_13 : decode cX9_far 13 = .ok (.ifCond .ne 6, 3) := by decide +kernel
theorem dX9_far_16 : decode cX9_far 16 = .ok (.ldc 72, 2) := by decide +kernel
theorem dX9_far_18 : decode cX9_far 18 = .ok (.ireturn, 1) := by decide +kernel
theorem dX9_far_19 : decode cX9_far 19 = .ok (.iload_n 1, 1) := by decide +kernel
theorem dX9_far_20 : decode cX9_far 20 = .ok (.iload_n 2, 1) := by decide +kernel
theorem dX9_far_21 : decode cX9_far 21 = .ok (.invokestatic 117, 3) := by decide +kernel
theorem dX9_far_24 : decode cX9_far 24 = .ok (.istore_n 3, 1) := by decide +kernel
theorem dX9_far_25 : decode cX9_far 25 = .ok (.iload_n 3, 1) := by decide +kernel
theorem dX9_far_26 : decode cX9_far 26 = .ok (.aload_n 0, 1) := by decide +kernel
theorem dX9_far_27 : decode cX9_far 27 = .ok (.getfield 7, 3) := by decide +kernel
theorem dX9_far_30 : decode cX9_far 30 = .ok (.iconst 0, 1) := by decide +kernel
theorem dX9_far_31 : decode cX9_far 31 = .ok (.iaload, 1) := by decide +kernel
theorem dX9_far_32 : decode cX9_far 32 = .ok (.iload_n 3, 1) := by decide +kernel
theorem dX9_far_33 : decode cX9_far 33 = .ok (.isub, 1) := by decide +kernel
theorem dX9_far_34 : decode cX9_far 34 = .ok (.if_icmp .ge 7, 3) := by decide +kernel
theorem dX9_far_37 : decode cX9_far 37 = .ok (.iload_n 3, 1) := by decide +kernel
theorem dX9_far_38 : decode cX9_far 38 = .ok (.goto 11, 3) := by decide +kernel
theorem dX9_far_41 : decode cX9_far 41 = .ok (.aload_n 0, 1) := by decide +kernel
theorem dX9_far_42 : decode cX9_far 42 = .ok (.getfield 7, 3) := by decide +kernel
theorem dX9_far_45 : decode cX9_far 45 = .ok (.iconst 0, 1) := by decide +kernel
theorem dX9_far_46 : decode cX9_far 46 = .ok (.iaload, 1) := by decide +kernel
theorem dX9_far_47 : decode cX9_far 47 = .ok (.iload_n 3, 1) := by decide +kernel
theorem dX9_far_48 : decode cX9_far 48 = .ok (.isub, 1) := by decide +kernel
theorem dX9_far_49 : decode cX9_far 49 = .ok (.ireturn, 1) := by decide +kernel
theorem dX9_plain_0 : decode cX9_plain 0 = .ok (.iload_n 1, 1) := by decide +kernel
theorem dX9_plain_1 : decode cX9_plain 1 = .ok (.i2l, 1) := by decide +kernel
theorem dX9_plain_2 : decode cX9_plain 2 = .ok (.lconst 0, 1) := by decide +kernel
theorem dX9_plain_3 : decode cX9_plain 3 = .ok (.ldc2_w 110, 3) := by decide +kernel
theorem dX9_plain_6 : decode cX9_plain 6 = .ok (.invokestatic 65, 3) := by decide +kernel
theorem dX9_plain_9 : decode cX9_plain 9 = .ok (.ifCond .eq 36, 3) := by decide +kernel
theorem dX9_plain_12 : decode cX9_plain 12 = .ok (.iload_n 2, 1) := by decide +kernel
theorem dX9_plain_13 : decode cX9_plain 13 = .ok (.i2l, 1) := by decide +kernel
theorem dX9_plain_14 : decode cX9_plain 14 = .ok (.lconst 0, 1) := by decide +kernel
theorem dX9_plain_15 : decode cX9_plain 15 = .ok (.iload_n 1, 1) := by decide +kernel
theorem dX9_plain_16 : decode cX9_plain 16 = .ok (.ifCond .ne 9, 3) := by decide +kernel
theorem dX9_plain_19 : decode cX9_plain 19 = .ok (.ldc2_w 120, 3) := by decide +kernel
theorem dX9_plain_22 : decode cX9_plain 22 = .ok (.goto 6, 3) := by decide +kernel
theorem dX9_plain_25 : decode cX9_plain 25 = .ok (.ldc2_w 70, 3) := by decide +kernel
theorem dX9_plain_28 : decode cX9_plain 28 = .ok (.invokestatic 65, 3) := by decide +kernel
theorem dX9_plain_31 : decode cX9_plain 31 = .ok (.ifCond .eq 14, 3) := by decide +kernel
theorem dX9_plain_34 : decode cX9_plain 34 = .ok (.aload_n 0, 1) := by decide +kernel
theorem dX9_plain_35 : decode cX9_plain 35 = .ok (.iconst 3, 1) := by decide +kernel
theorem dX9_plain_36 : decode cX9_plain 36 = .ok (.iload_n 1, 1) := by decide +kernel
theorem dX9_plain_37 : decode cX9_plain 37 = .ok (.iadd, 1) := by decide +kernel
theorem dX9_plain_38 : decode cX9_plain 38 = .ok (.iload_n 2, 1) := by decide +kernel
theorem dX9_plain_39 : decode cX9_plain 39 = .ok (.invokevirtual 114, 3) := by decide +kernel
theorem dX9_plain_42 : decode cX9_plain 42 = .ok (.goto 5, 3) := by decide +kernel
theorem dX9_plain_45 : decode cX9_plain 45 = .ok (.ldc 72, 2) := by decide +kernel
theorem dX9_plain_47 : decode cX9_plain 47 = .ok (.ireturn, 1) := by decide +kernel
theorem dX9_comes_0 : decode cX9_comes 0 = .ok (.bipush 48, 2) := by decide +kernel
theorem dX9_comes_2 : decode cX9_comes 2 = .ok (.iconst 5, 1) := by decide +kernel
theorem dX9_comes_3 : decode cX9_comes 3 = .ok (.aload_n 0, 1) := by decide +kernel
theorem dX9_comes_4 : decode cX9_comes 4 = .ok (.getfield 7, 3) := by decide +kernel
theorem dX9_comes_7 : decode cX9_comes 7 = .ok (.iconst 1, 1) := by decide +kernel
theorem dX9_comes_8 : decode cX9_comes 8 = .ok (.iaload, 1) := by decide +kernel
theorem dX9_comes_9 : decode cX9_comes 9 = .ok (.imul, 1) := by decide +kernel
theorem dX9_comes_10 : decode cX9_comes 10 = .ok (.iadd, 1) := by decide +kernel
theorem dX9_comes_11 : decode cX9_comes 11 = .ok (.istore 4, 2) := by decide +kernel
theorem dX9_comes_13 : decode cX9_comes 13 = .ok (.aload_n 0, 1) := by decide +kernel
theorem dX9_comes_14 : decode cX9_comes 14 = .ok (.getfield 7, 3) := by decide +kernel
theorem dX9_comes_17 : decode cX9_comes 17 = .ok (.iload 4, 2) := by decide +kernel
theorem dX9_comes_19 : decode cX9_comes 19 = .ok (.iload_n 1, 1) := by decide +kernel
theorem dX9_comes_20 : decode cX9_comes 20 = .ok (.iastore, 1) := by decide +kernel
theorem dX9_comes_21 : decode cX9_comes 21 = .ok (.aload_n 0, 1) := by decide +kernel
theorem dX9_comes_22 : decode cX9_comes 22 = .ok (.getfield 7, 3) := by decide +kernel
theorem dX9_comes_25 : decode cX9_comes 25 = .ok (.iload 4, 2) := by decide +kernel
theorem dX9_comes_27 : decode cX9_comes 27 = .ok (.iconst 1, 1) := by decide +kernel
theorem dX9_comes_28 : decode cX9_comes 28 = .ok (.iadd, 1) := by decide +kernel
theorem dX9_comes_29 : decode cX9_comes 29 = .ok (.iload_n 2, 1) := by decide +kernel
theorem dX9_comes_30 : decode cX9_comes 30 = .ok (.iastore, 1) := by decide +kernel
theorem dX9_comes_31 : decode cX9_comes 31 = .ok (.aload_n 0, 1) := by decide +kernel
theorem dX9_comes_32 : decode cX9_comes 32 = .ok (.getfield 7, 3) := by decide +kernel
theorem dX9_comes_35 : decode cX9_comes 35 = .ok (.iload 4, 2) := by decide +kernel
theorem dX9_comes_37 : decode cX9_comes 37 = .ok (.iconst 2, 1) := by decide +kernel
theorem dX9_comes_38 : decode cX9_comes 38 = .ok (.iadd, 1) := by decide +kernel
theorem dX9_comes_39 : decode cX9_comes 39 = .ok (.iload_n 3, 1) := by decide +kernel
theorem dX9_comes_40 : decode cX9_comes 40 = .ok (.iastore, 1) := by decide +kernel
theorem dX9_comes_41 : decode cX9_comes 41 = .ok (.aload_n 0, 1) := by decide +kernel
theorem dX9_comes_42 : decode cX9_comes 42 = .ok (.getfield 7, 3) := by decide +kernel
theorem dX9_comes_45 : decode cX9_comes 45 = .ok (.iload 4, 2) := by decide +kernel
theorem dX9_comes_47 : decode cX9_comes 47 = .ok (.iconst 3, 1) := by decide +kernel
theorem dX9_comes_48 : decode cX9_comes 48 = .ok (.iadd, 1) := by decide +kernel
theorem dX9_comes_49 : decode cX9_comes 49 = .ok (.iconst 0, 1) := by decide +kernel
theorem dX9_comes_50 : decode cX9_comes 50 = .ok (.iastore, 1) := by decide +kernel
theorem dX9_comes_51 : decode cX9_comes 51 = .ok (.aload_n 0, 1) := by decide +kernel
theorem dX9_comes_52 : decode cX9_comes 52 = .ok (.getfield 7, 3) := by decide +kernel
theorem dX9_comes_55 : decode cX9_comes 55 = .ok (.iload 4, 2) := by decide +kernel
theorem dX9_comes_57 : decode cX9_comes 57 = .ok (.iconst 4, 1) := by decide +kernel
theorem dX9_comes_58 : decode cX9_comes 58 = .ok (.iadd, 1) := by decide +kernel
theorem dX9_comes_59 : decode cX9_comes 59 = .ok (.iconst 0, 1) := by decide +kernel
theorem dX9_comes_60 : decode cX9_comes 60 = .ok (.iastore, 1) := by decide +kernel
theorem dX9_comes_61 : decode cX9_comes 61 = .ok (.aload_n 0, 1) := by decide +kernel
theorem dX9_comes_62 : decode cX9_comes 62 = .ok (.getfield 7, 3) := by decide +kernel
theorem dX9_comes_65 : decode cX9_comes 65 = .ok (.iconst 1, 1) := by decide +kernel
theorem dX9_comes_66 : decode cX9_comes 66 = .ok (.dup2, 1) := by decide +kernel
theorem dX9_comes_67 : decode cX9_comes 67 = .ok (.iaload, 1) := by decide +kernel
theorem dX9_comes_68 : decode cX9_comes 68 = .ok (.iconst 1, 1) := by decide +kernel
theorem dX9_comes_69 : decode cX9_comes 69 = .ok (.iadd, 1) := by decide +kernel
theorem dX9_comes_70 : decode cX9_comes 70 = .ok (.iastore, 1) := by decide +kernel
theorem dX9_comes_71 : decode cX9_comes 71 = .ok (.return_, 1) := by decide +kernel
theorem dX9_watcher_0 : decode cX9_watcher 0 = .ok (.iload_n 1, 1) := by decide +kernel
theorem dX9_watcher_1 : decode cX9_watcher 1 = .ok (.i2l, 1) := by decide +kernel
theorem dX9_watcher_2 : decode cX9_watcher 2 = .ok (.lconst 0, 1) := by decide +kernel
theorem dX9_watcher_3 : decode cX9_watcher 3 = .ok (.ldc2_w 122, 3) := by decide +kernel
theorem dX9_watcher_6 : decode cX9_watcher 6 = .ok (.invokestatic 65, 3) := by decide +kernel
theorem dX9_watcher_9 : decode cX9_watcher 9 = .ok (.ifCond .eq 27, 3) := by decide +kernel
theorem dX9_watcher_12 : decode cX9_watcher 12 = .ok (.iload_n 2, 1) := by decide +kernel
theorem dX9_watcher_13 : decode cX9_watcher 13 = .ok (.i2l, 1) := by decide +kernel
theorem dX9_watcher_14 : decode cX9_watcher 14 = .ok (.lconst 0, 1) := by decide +kernel
theorem dX9_watcher_15 : decode cX9_watcher 15 = .ok (.ldc2_w 124, 3) := by decide +kernel
theorem dX9_watcher_18 : decode cX9_watcher 18 = .ok (.invokestatic 65, 3) := by decide +kernel
theorem dX9_watcher_21 : decode cX9_watcher 21 = .ok (.ifCond .eq 15, 3) := by decide +kernel
theorem dX9_watcher_24 : decode cX9_watcher 24 = .ok (.iload_n 3, 1) := by decide +kernel
theorem dX9_watcher_25 : decode cX9_watcher 25 = .ok (.i2l, 1) := by decide +kernel
theorem dX9_watcher_26 : decode cX9_watcher 26 = .ok (.lconst 1, 1) := by decide +kernel
theorem dX9_watcher_27 : decode cX9_watcher 27 = .ok (.ldc2_w 112, 3) := by decide +kernel
theorem dX9_watcher_30 : decode cX9_watcher 30 = .ok (.invokestatic 65, 3) := by decide +kernel
theorem dX9_watcher_33 : decode cX9_watcher 33 = .ok (.ifCond .ne 6, 3) := by decide +kernel
theorem dX9_watcher_36 : decode cX9_watcher 36 = .ok (.ldc 72, 2) := by decide +kernel
theorem dX9_watcher_38 : decode cX9_watcher 38 = .ok (.ireturn, 1) := by decide +kernel
theorem dX9_watcher_39 : decode cX9_watcher 39 = .ok (.aload_n 0, 1) := by decide +kernel
theorem dX9_watcher_40 : decode cX9_watcher 40 = .ok (.getfield 7, 3) := by decide +kernel
theorem dX9_watcher_43 : decode cX9_watcher 43 = .ok (.iconst 1, 1) := by decide +kernel
theorem dX9_watcher_44 : decode cX9_watcher 44 = .ok (.iaload, 1) := by decide +kernel
theorem dX9_watcher_45 : decode cX9_watcher 45 = .ok (.bipush 8, 2) := by decide +kernel
theorem dX9_watcher_47 : decode cX9_watcher 47 = .ok (.if_icmp .ne 6, 3) := by decide +kernel
theorem dX9_watcher_50 : decode cX9_watcher 50 = .ok (.ldc 73, 2) := by decide +kernel
theorem dX9_watcher_52 : decode cX9_watcher 52 = .ok (.ireturn, 1) := by decide +kernel
theorem dX9_watcher_53 : decode cX9_watcher 53 = .ok (.aload_n 0, 1) := by decide +kernel
theorem dX9_watcher_54 : decode cX9_watcher 54 = .ok (.iload_n 1, 1) := by decide +kernel
theorem dX9_watcher_55 : decode cX9_watcher 55 = .ok (.iload_n 2, 1) := by decide +kernel
theorem dX9_watcher_56 : decode cX9_watcher 56 = .ok (.iload_n 3, 1) := by decide +kernel
theorem dX9_watcher_57 : decode cX9_watcher 57 = .ok (.invokevirtual 126, 3) := by decide +kernel
theorem dX9_watcher_60 : decode cX9_watcher 60 = .ok (.aload_n 0, 1) := by decide +kernel
theorem dX9_watcher_61 : decode cX9_watcher 61 = .ok (.getfield 7, 3) := by decide +kernel
theorem dX9_watcher_64 : decode cX9_watcher 64 = .ok (.iconst 1, 1) := by decide +kernel
theorem dX9_watcher_65 : decode cX9_watcher 65 = .ok (.iaload, 1) := by decide +kernel
theorem dX9_watcher_66 : decode cX9_watcher 66 = .ok (.iconst 1, 1) := by decide +kernel
theorem dX9_watcher_67 : decode cX9_watcher 67 = .ok (.isub, 1) := by decide +kernel
theorem dX9_watcher_68 : decode cX9_watcher 68 = .ok (.ireturn, 1) := by decide +kernel
theorem dX9_told_0 : decode cX9_told 0 = .ok (.aload_n 0, 1) := by decide +kernel
theorem dX9_told_1 : decode cX9_told 1 = .ok (.iload_n 1, 1) := by decide +kernel
theorem dX9_told_2 : decode cX9_told 2 = .ok (.invokevirtual 130, 3) := by decide +kernel
theorem dX9_told_5 : decode cX9_told 5 = .ok (.ifCond .eq 15, 3) := by decide +kernel
theorem dX9_told_8 : decode cX9_told 8 = .ok (.iload_n 2, 1) := by decide +kernel
theorem dX9_told_9 : decode cX9_told 9 = .ok (.i2l, 1) := by decide +kernel
theorem dX9_told_10 : decode cX9_told 10 = .ok (.lconst 0, 1) := by decide +kernel
theorem dX9_told_11 : decode cX9_told 11 = .ok (.ldc2_w 133, 3) := by decide +kernel
theorem dX9_told_14 : decode cX9_told 14 = .ok (.invokestatic 65, 3) := by decide +kernel
theorem dX9_told_17 : decode cX9_told 17 = .ok (.ifCond .ne 6, 3) := by decide +kernel
theorem dX9_told_20 : decode cX9_told 20 = .ok (.ldc 72, 2) := by decide +kernel
theorem dX9_told_22 : decode cX9_told 22 = .ok (.ireturn, 1) := by decide +kernel
theorem dX9_told_23 : decode cX9_told 23 = .ok (.iload_n 2, 1) := by decide +kernel
theorem dX9_told_24 : decode cX9_told 24 = .ok (.iconst 5, 1) := by decide +kernel
theorem dX9_told_25 : decode cX9_told 25 = .ok (.if_icmp .ge 12, 3) := by decide +kernel
theorem dX9_told_28 : decode cX9_told 28 = .ok (.aload_n 0, 1) := by decide +kernel
theorem dX9_told_29 : decode cX9_told 29 = .ok (.iload_n 1, 1) := by decide +kernel
theorem dX9_told_30 : decode cX9_told 30 = .ok (.iload_n 2, 1) := by decide +kernel
theorem dX9_told_31 : decode cX9_told 31 = .ok (.invokevirtual 91, 3) := by decide +kernel
theorem dX9_told_34 : decode cX9_told 34 = .ok (.goto 21, 3) := by decide +kernel
theorem dX9_told_37 : decode cX9_told 37 = .ok (.iload_n 2, 1) := by decide +kernel
theorem dX9_told_38 : decode cX9_told 38 = .ok (.iconst 5, 1) := by decide +kernel
theorem dX9_told_39 : decode cX9_told 39 = .ok (.if_icmp .ne 11, 3) := by decide +kernel
theorem dX9_told_42 : decode cX9_told 42 = .ok (.aload_n 0, 1) := by decide +kernel
theorem dX9_told_43 : decode cX9_told 43 = .ok (.iload_n 1, 1) := by decide +kernel
theorem dX9_told_44 : decode cX9_told 44 = .ok (.invokevirtual 101, 3) := by decide +kernel
theorem dX9_told_47 : decode cX9_told 47 = .ok (.goto 8, 3) := by decide +kernel
theorem dX9_told_50 : decode cX9_told 50 = .ok (.aload_n 0, 1) := by decide +kernel
theorem dX9_told_51 : decode cX9_told 51 = .ok (.iload_n 1, 1) := by decide +kernel
theorem dX9_told_52 : decode cX9_told 52 = .ok (.invokevirtual 135, 3) := by decide +kernel
theorem dX9_told_55 : decode cX9_told 55 = .ok (.ireturn, 1) := by decide +kernel
theorem dX9_isOf_0 : decode cX9_isOf 0 = .ok (.iload_n 0, 1) := by decide +kernel
theorem dX9_isOf_1 : decode cX9_isOf 1 = .ok (.iload_n 1, 1) := by decide +kernel
theorem dX9_isOf_2 : decode cX9_isOf 2 = .ok (.if_icmp .eq 27, 3) := by decide +kernel
theorem dX9_isOf_5 : decode cX9_isOf 5 = .ok (.iload_n 1, 1) := by decide +kernel
theorem dX9_isOf_6 : decode cX9_isOf 6 = .ok (.ifCond .eq 23, 3) := by decide +kernel
theorem dX9_isOf_9 : decode cX9_isOf 9 = .ok (.iload_n 1, 1) := by decide +kernel
theorem dX9_isOf_10 : decode cX9_isOf 10 = .ok (.iconst 1, 1) := by decide +kernel
theorem dX9_isOf_11 : decode cX9_isOf 11 = .ok (.if_icmp .ne 8, 3) := by decide +kernel
theorem dX9_isOf_14 : decode cX9_isOf 14 = .ok (.iload_n 0, 1) := by decide +kernel
theorem dX9_isOf_15 : decode cX9_isOf 15 = .ok (.iconst 3, 1) := by decide +kernel
theorem dX9_isOf_16 : decode cX9_isOf 16 = .ok (.if_icmp .eq 13, 3) := by decide +kernel
theorem dX9_isOf_19 : decode cX9_isOf 19 = .ok (.iload_n 1, 1) := by decide +kernel
theorem dX9_isOf_20 : decode cX9_isOf 20 = .ok (.iconst 2, 1) := by decide +kernel
theorem dX9_isOf_21 : decode cX9_isOf 21 = .ok (.if_icmp .ne 12, 3) := by decide +kernel
theorem dX9_isOf_24 : decode cX9_isOf 24 = .ok (.iload_n 0, 1) := by decide +kernel
theorem dX9_isOf_25 : decode cX9_isOf 25 = .ok (.iconst 4, 1) := by decide +kernel
theorem dX9_isOf_26 : decode cX9_isOf 26 = .ok (.if_icmp .ne 7, 3) := by decide +kernel
theorem dX9_isOf_29 : decode cX9_isOf 29 = .ok (.iconst 1, 1) := by decide +kernel
theorem dX9_isOf_30 : decode cX9_isOf 30 = .ok (.goto 4, 3) := by decide +kernel
theorem dX9_isOf_33 : decode cX9_isOf 33 = .ok (.iconst 0, 1) := by decide +kernel
theorem dX9_isOf_34 : decode cX9_isOf 34 = .ok (.ireturn, 1) := by decide +kernel
theorem dX9_as_0 : decode cX9_as 0 = .ok (.aload_n 0, 1) := by decide +kernel
theorem dX9_as_1 : decode cX9_as 1 = .ok (.iload_n 1, 1) := by decide +kernel
theorem dX9_as_2 : decode cX9_as 2 = .ok (.invokevirtual 130, 3) := by decide +kernel
theorem dX9_as_5 : decode cX9_as 5 = .ok (.ifCond .eq 15, 3) := by decide +kernel
theorem dX9_as_8 : decode cX9_as 8 = .ok (.iload_n 2, 1) := by decide +kernel
theorem dX9_as_9 : decode cX9_as 9 = .ok (.i2l, 1) := by decide +kernel
theorem dX9_as_10 : decode cX9_as 10 = .ok (.lconst 0, 1) := by decide +kernel
theorem dX9_as_11 : decode cX9_as 11 = .ok (.ldc2_w 122, 3) := by decide +kernel
theorem dX9_as_14 : decode cX9_as 14 = .ok (.invokestatic 65, 3) := by decide +kernel
theorem dX9_as_17 : decode cX9_as 17 = .ok (.ifCond .ne 6, 3) := by decide +kernel
theorem dX9_as_20 : decode cX9_as 20 = .ok (.ldc 72, 2) := by decide +kernel
theorem dX9_as_22 : decode cX9_as 22 = .ok (.ireturn, 1) := by decide +kernel
theorem dX9_as_23 : decode cX9_as 23 = .ok (.aload_n 0, 1) := by decide +kernel
theorem dX9_as_24 : decode cX9_as 24 = .ok (.iload_n 1, 1) := by decide +kernel
theorem dX9_as_25 : decode cX9_as 25 = .ok (.iconst 0, 1) := by decide +kernel
theorem dX9_as_26 : decode cX9_as 26 = .ok (.invokevirtual 91, 3) := by decide +kernel
theorem dX9_as_29 : decode cX9_as 29 = .ok (.iload_n 2, 1) := by decide +kernel
theorem dX9_as_30 : decode cX9_as 30 = .ok (.invokestatic 138, 3) := by decide +kernel
theorem dX9_as_33 : decode cX9_as 33 = .ok (.ifCond .eq 12, 3) := by decide +kernel
theorem dX9_as_36 : decode cX9_as 36 = .ok (.aload_n 0, 1) := by decide +kernel
theorem dX9_as_37 : decode cX9_as 37 = .ok (.iload_n 1, 1) := by decide +kernel
theorem dX9_as_38 : decode cX9_as 38 = .ok (.iconst 2, 1) := by decide +kernel
theorem dX9_as_39 : decode cX9_as 39 = .ok (.invokevirtual 91, 3) := by decide +kernel
theorem dX9_as_42 : decode cX9_as 42 = .ok (.goto 5, 3) := by decide +kernel
theorem dX9_as_45 : decode cX9_as 45 = .ok (.ldc 142, 2) := by decide +kernel
theorem dX9_as_47 : decode cX9_as 47 = .ok (.ireturn, 1) := by decide +kernel
theorem dX9_turns_0 : decode cX9_turns 0 = .ok (.aload_n 0, 1) := by decide +kernel
theorem dX9_turns_1 : decode cX9_turns 1 = .ok (.iload_n 1, 1) := by decide +kernel
theorem dX9_turns_2 : decode cX9_turns 2 = .ok (.invokevirtual 130, 3) := by decide +kernel
theorem dX9_turns_5 : decode cX9_turns 5 = .ok (.ifCond .eq 29, 3) := by decide +kernel
theorem dX9_turns_8 : decode cX9_turns 8 = .ok (.iload_n 2, 1) := by decide +kernel
theorem dX9_turns_9 : decode cX9_turns 9 = .ok (.i2l, 1) := by decide +kernel
theorem dX9_turns_10 : decode cX9_turns 10 = .ok (.lconst 0, 1) := by decide +kernel
theorem dX9_turns_11 : decode cX9_turns 11 = .ok (.ldc2_w 122, 3) := by decide +kernel
theorem dX9_turns_14 : decode cX9_turns 14 = .ok (.invokestatic 65, 3) := by decide +kernel
theorem dX9_turns_17 : decode cX9_turns 17 = .ok (.ifCond .eq 17, 3) := by decide +kernel
theorem dX9_turns_20 : decode cX9_turns 20 = .ok (.aload_n 0, 1) := by decide +kernel
theorem dX9_turns_21 : decode cX9_turns 21 = .ok (.bipush 48, 2) := by decide +kernel
theorem dX9_turns_23 : decode cX9_turns 23 = .ok (.iconst 5, 1) := by decide +kernel
theorem dX9_turns_24 : decode cX9_turns 24 = .ok (.iload_n 1, 1) := by decide +kernel
theorem dX9_turns_25 : decode cX9_turns 25 = .ok (.imul, 1) := by decide +kernel
theorem dX9_turns_26 : decode cX9_turns 26 = .ok (.iadd, 1) := by decide +kernel
theorem dX9_turns_27 : decode cX9_turns 27 = .ok (.iload_n 2, 1) := by decide +kernel
theorem dX9_turns_28 : decode cX9_turns 28 = .ok (.invokevirtual 114, 3) := by decide +kernel
theorem dX9_turns_31 : decode cX9_turns 31 = .ok (.goto 5, 3) := by decide +kernel
theorem dX9_turns_34 : decode cX9_turns 34 = .ok (.ldc 72, 2) := by decide +kernel
theorem dX9_turns_36 : decode cX9_turns 36 = .ok (.ireturn, 1) := by decide +kernel
theorem dX9_mayBe_0 : decode cX9_mayBe 0 = .ok (.iload_n 0, 1) := by decide +kernel
theorem dX9_mayBe_1 : decode cX9_mayBe 1 = .ok (.tableswitch 69 1 4 #[31, 41, 51, 61], 31) := by decide +kernel
theorem dX9_mayBe_32 : decode cX9_mayBe 32 = .ok (.iload_n 1, 1) := by decide +kernel
theorem dX9_mayBe_33 : decode cX9_mayBe 33 = .ok (.i2l, 1) := by decide +kernel
theorem dX9_mayBe_34 : decode cX9_mayBe 34 = .ok (.lconst 0, 1) := by decide +kernel
theorem dX9_mayBe_35 : decode cX9_mayBe 35 = .ok (.ldc2_w 124, 3) := by decide +kernel
theorem dX9_mayBe_38 : decode cX9_mayBe 38 = .ok (.invokestatic 65, 3) := by decide +kernel
theorem dX9_mayBe_41 : decode cX9_mayBe 41 = .ok (.ireturn, 1) := by decide +kernel
theorem dX9_mayBe_42 : decode cX9_mayBe 42 = .ok (.iload_n 1, 1) := by decide +kernel
theorem dX9_mayBe_43 : decode cX9_mayBe 43 = .ok (.i2l, 1) := by decide +kernel
theorem dX9_mayBe_44 : decode cX9_mayBe 44 = .ok (.lconst 1, 1) := by decide +kernel
theorem dX9_mayBe_45 : decode cX9_mayBe 45 = .ok (.ldc2_w 112, 3) := by decide +kernel
theorem dX9_mayBe_48 : decode cX9_mayBe 48 = .ok (.invokestatic 65, 3) := by decide +kernel
theorem dX9_mayBe_51 : decode cX9_mayBe 51 = .ok (.ireturn, 1) := by decide +kernel
theorem dX9_mayBe_52 : decode cX9_mayBe 52 = .ok (.iload_n 1, 1) := by decide +kernel
theorem dX9_mayBe_53 : decode cX9_mayBe 53 = .ok (.i2l, 1) := by decide +kernel
theorem dX9_mayBe_54 : decode cX9_mayBe 54 = .ok (.lconst 0, 1) := by decide +kernel
theorem dX9_mayBe_55 : decode cX9_mayBe 55 = .ok (.ldc2_w 143, 3) := by decide +kernel
theorem dX9_mayBe_58 : decode cX9_mayBe 58 = .ok (.invokestatic 65, 3) := by decide +kernel
theorem dX9_mayBe_61 : decode cX9_mayBe 61 = .ok (.ireturn, 1) := by decide +kernel
theorem dX9_mayBe_62 : decode cX9_mayBe 62 = .ok (.iload_n 1, 1) := by decide +kernel
theorem dX9_mayBe_63 : decode cX9_mayBe 63 = .ok (.i2l, 1) := by decide +kernel
theorem dX9_mayBe_64 : decode cX9_mayBe 64 = .ok (.lconst 0, 1) := by decide +kernel
theorem dX9_mayBe_65 : decode cX9_mayBe 65 = .ok (.lconst 1, 1) := by decide +kernel
theorem dX9_mayBe_66 : decode cX9_mayBe 66 = .ok (.invokestatic 65, 3) := by decide +kernel
theorem dX9_mayBe_69 : decode cX9_mayBe 69 = .ok (.ireturn, 1) := by decide +kernel
theorem dX9_mayBe_70 : decode cX9_mayBe 70 = .ok (.iconst 0, 1) := by decide +kernel
theorem dX9_mayBe_71 : decode cX9_mayBe 71 = .ok (.ireturn, 1) := by decide +kernel
theorem dX9_set_0 : decode cX9_set 0 = .ok (.aload_n 0, 1) := by decide +kernel
theorem dX9_set_1 : decode cX9_set 1 = .ok (.iload_n 1, 1) := by decide +kernel
theorem dX9_set_2 : decode cX9_set 2 = .ok (.invokevirtual 130, 3) := by decide +kernel
theorem dX9_set_5 : decode cX9_set 5 = .ok (.ifCond .eq 27, 3) := by decide +kernel
theorem dX9_set_8 : decode cX9_set 8 = .ok (.iload_n 2, 1) := by decide +kernel
theorem dX9_set_9 : decode cX9_set 9 = .ok (.iload_n 3, 1) := by decide +kernel
theorem dX9_set_10 : decode cX9_set 10 = .ok (.invokestatic 145, 3) := by decide +kernel
theorem dX9_set_13 : decode cX9_set 13 = .ok (.ifCond .eq 19, 3) := by decide +kernel
theorem dX9_set_16 : decode cX9_set 16 = .ok (.aload_n 0, 1) := by decide +kernel
theorem dX9_set_17 : decode cX9_set 17 = .ok (.bipush 48, 2) := by decide +kernel
theorem dX9_set_19 : decode cX9_set 19 = .ok (.iconst 5, 1) := by decide +kernel
theorem dX9_set_20 : decode cX9_set 20 = .ok (.iload_n 1, 1) := by decide +kernel
theorem dX9_set_21 : decode cX9_set 21 = .ok (.imul, 1) := by decide +kernel
theorem dX9_set_22 : decode cX9_set 22 = .ok (.iadd, 1) := by decide +kernel
theorem dX9_set_23 : decode cX9_set 23 = .ok (.iload_n 2, 1) := by decide +kernel
theorem dX9_set_24 : decode cX9_set 24 = .ok (.iadd, 1) := by decide +kernel
theorem dX9_set_25 : decode cX9_set 25 = .ok (.iload_n 3, 1) := by decide +kernel
theorem dX9_set_26 : decode cX9_set 26 = .ok (.invokevirtual 114, 3) := by decide +kernel
theorem dX9_set_29 : decode cX9_set 29 = .ok (.goto 5, 3) := by decide +kernel
theorem dX9_set_32 : decode cX9_set 32 = .ok (.ldc 72, 2) := by decide +kernel
theorem dX9_set_34 : decode cX9_set 34 = .ok (.ireturn, 1) := by decide +kernel
theorem dX9_deal_0 : decode cX9_deal 0 = .ok (.iload_n 1, 1) := by decide +kernel
theorem dX9_deal_1 : decode cX9_deal 1 = .ok (.i2l, 1) := by decide +kernel
theorem dX9_deal_2 : decode cX9_deal 2 = .ok (.lconst 1, 1) := by decide +kernel
theorem dX9_deal_3 : decode cX9_deal 3 = .ok (.ldc2_w 148, 3) := by decide +kernel
theorem dX9_deal_6 : decode cX9_deal 6 = .ok (.invokestatic 65, 3) := by decide +kernel
theorem dX9_deal_9 : decode cX9_deal 9 = .ok (.ifCond .ne 6, 3) := by decide +kernel
theorem dX9_deal_12 : decode cX9_deal 12 = .ok (.ldc 72, 2) := by decide +kernel
theorem dX9_deal_14 : decode cX9_deal 14 = .ok (.ireturn, 1) := by decide +kernel
theorem dX9_deal_15 : decode cX9_deal 15 = .ok (.iconst 0, 1) := by decide +kernel
theorem dX9_deal_16 : decode cX9_deal 16 = .ok (.istore_n 2, 1) := by decide +kernel
theorem dX9_deal_17 : decode cX9_deal 17 = .ok (.iload_n 2, 1) := by decide +kernel
theorem dX9_deal_18 : decode cX9_deal 18 = .ok (.iload_n 1, 1) := by decide +kernel
theorem dX9_deal_19 : decode cX9_deal 19 = .ok (.if_icmp .ge 53, 3) := by decide +kernel
theorem dX9_deal_22 : decode cX9_deal 22 = .ok (.aload_n 0, 1) := by decide +kernel
theorem dX9_deal_23 : decode cX9_deal 23 = .ok (.getfield 7, 3) := by decide +kernel
theorem dX9_deal_26 : decode cX9_deal 26 = .ok (.iconst 1, 1) := by decide +kernel
theorem dX9_deal_27 : decode cX9_deal 27 = .ok (.iaload, 1) := by decide +kernel
theorem dX9_deal_28 : decode cX9_deal 28 = .ok (.bipush 8, 2) := by decide +kernel
theorem dX9_deal_30 : decode cX9_deal 30 = .ok (.if_icmp .ge 42, 3) := by decide +kernel
theorem dX9_deal_33 : decode cX9_deal 33 = .ok (.aload_n 0, 1) := by decide +kernel
theorem dX9_deal_34 : decode cX9_deal 34 = .ok (.invokevirtual 150, 3) := by decide +kernel
theorem dX9_deal_37 : decode cX9_deal 37 = .ok (.bipush 6, 2) := by decide +kernel
theorem dX9_deal_39 : decode cX9_deal 39 = .ok (.irem, 1) := by decide +kernel
theorem dX9_deal_40 : decode cX9_deal 40 = .ok (.istore_n 3, 1) := by decide +kernel
theorem dX9_deal_41 : decode cX9_deal 41 = .ok (.aload_n 0, 1) := by decide +kernel
theorem dX9_deal_42 : decode cX9_deal 42 = .ok (.invokevirtual 150, 3) := by decide +kernel
theorem dX9_deal_45 : decode cX9_deal 45 = .ok (.bipush 12, 2) := by decide +kernel
theorem dX9_deal_47 : decode cX9_deal 47 = .ok (.irem, 1) := by decide +kernel
theorem dX9_deal_48 : decode cX9_deal 48 = .ok (.istore 4, 2) := by decide +kernel
theorem dX9_deal_50 : decode cX9_deal 50 = .ok (.aload_n 0, 1) := by decide +kernel
theorem dX9_deal_51 : decode cX9_deal 51 = .ok (.iload_n 3, 1) := by decide +kernel
theorem dX9_deal_52 : decode cX9_deal 52 = .ok (.iload 4, 2) := by decide +kernel
theorem dX9_deal_54 : decode cX9_deal 54 = .ok (.iconst 1, 1) := by decide +kernel
theorem dX9_deal_55 : decode cX9_deal 55 = .ok (.aload_n 0, 1) := by decide +kernel
theorem dX9_deal_56 : decode cX9_deal 56 = .ok (.invokevirtual 150, 3) := by decide +kernel
theorem dX9_deal_59 : decode cX9_deal 59 = .ok (.bipush 9, 2) := by decide +kernel
theorem dX9_deal_61 : decode cX9_deal 61 = .ok (.irem, 1) := by decide +kernel
theorem dX9_deal_62 : decode cX9_deal 62 = .ok (.iadd, 1) := by decide +kernel
theorem dX9_deal_63 : decode cX9_deal 63 = .ok (.invokevirtual 126, 3) := by decide +kernel
theorem dX9_deal_66 : decode cX9_deal 66 = .ok (.iinc 2 1, 3) := by decide +kernel
theorem dX9_deal_69 : decode cX9_deal 69 = .ok (.goto (-52), 3) := by decide +kernel
theorem dX9_deal_72 : decode cX9_deal 72 = .ok (.iload_n 2, 1) := by decide +kernel
theorem dX9_deal_73 : decode cX9_deal 73 = .ok (.ireturn, 1) := by decide +kernel
theorem dX9_seed_0 : decode cX9_seed 0 = .ok (.aload_n 0, 1) := by decide +kernel
theorem dX9_seed_1 : decode cX9_seed 1 = .ok (.bipush 10, 2) := by decide +kernel
theorem dX9_seed_3 : decode cX9_seed 3 = .ok (.iload_n 1, 1) := by decide +kernel
theorem dX9_seed_4 : decode cX9_seed 4 = .ok (.invokevirtual 114, 3) := by decide +kernel
theorem dX9_seed_7 : decode cX9_seed 7 = .ok (.ireturn, 1) := by decide +kernel
theorem dX9_comeTo_0 : decode cX9_comeTo 0 = .ok (.iconst (-1), 1) := by decide +kernel
theorem dX9_comeTo_1 : decode cX9_comeTo 1 = .ok (.istore_n 1, 1) := by decide +kernel
theorem dX9_comeTo_2 : decode cX9_comeTo 2 = .ok (.iconst 0, 1) := by decide +kernel
theorem dX9_comeTo_3 : decode cX9_comeTo 3 = .ok (.istore_n 2, 1) := by decide +kernel
theorem dX9_comeTo_4 : decode cX9_comeTo 4 = .ok (.iconst 0, 1) := by decide +kernel
theorem dX9_comeTo_5 : decode cX9_comeTo 5 = .ok (.istore_n 3, 1) := by decide +kernel
theorem dX9_comeTo_6 : decode cX9_comeTo 6 = .ok (.iload_n 3, 1) := by decide +kernel
theorem dX9_comeTo_7 : decode cX9_comeTo 7 = .ok (.aload_n 0, 1) := by decide +kernel
theorem dX9_comeTo_8 : decode cX9_comeTo 8 = .ok (.getfield 7, 3) := by decide +kernel
theorem dX9_comeTo_11 : decode cX9_comeTo 11 = .ok (.iconst 0, 1) := by decide +kernel
theorem dX9_comeTo_12 : decode cX9_comeTo 12 = .ok (.iaload, 1) := by decide +kernel
theorem dX9_comeTo_13 : decode cX9_comeTo 13 = .ok (.if_icmp .ge 40, 3) := by decide +kernel
theorem dX9_comeTo_16 : decode cX9_comeTo 16 = .ok (.aload_n 0, 1) := by decide +kernel
theorem dX9_comeTo_17 : decode cX9_comeTo 17 = .ok (.getfield 7, 3) := by decide +kernel
theorem dX9_comeTo_20 : decode cX9_comeTo 20 = .ok (.iconst 4, 1) := by decide +kernel
theorem dX9_comeTo_21 : decode cX9_comeTo 21 = .ok (.iaload, 1) := by decide +kernel
theorem dX9_comeTo_22 : decode cX9_comeTo 22 = .ok (.ifCond .le 31, 3) := by decide +kernel
theorem dX9_comeTo_25 : decode cX9_comeTo 25 = .ok (.aload_n 0, 1) := by decide +kernel
theorem dX9_comeTo_26 : decode cX9_comeTo 26 = .ok (.iload_n 3, 1) := by decide +kernel
theorem dX9_comeTo_27 : decode cX9_comeTo 27 = .ok (.invokevirtual 107, 3) := by decide +kernel
theorem dX9_comeTo_30 : decode cX9_comeTo 30 = .ok (.istore 4, 2) := by decide +kernel
theorem dX9_comeTo_32 : decode cX9_comeTo 32 = .ok (.iload_n 1, 1) := by decide +kernel
theorem dX9_comeTo_33 : decode cX9_comeTo 33 = .ok (.ifCond .lt 9, 3) := by decide +kernel
theorem dX9_comeTo_36 : decode cX9_comeTo 36 = .ok (.iload 4, 2) := by decide +kernel
theorem dX9_comeTo_38 : decode cX9_comeTo 38 = .ok (.iload_n 2, 1) := by decide +kernel
theorem dX9_comeTo_39 : decode cX9_comeTo 39 = .ok (.if_icmp .ge 8, 3) := by decide +kernel
theorem dX9_comeTo_42 : decode cX9_comeTo 42 = .ok (.iload_n 3, 1) := by decide +kernel
theorem dX9_comeTo_43 : decode cX9_comeTo 43 = .ok (.istore_n 1, 1) := by decide +kernel
theorem dX9_comeTo_44 : decode cX9_comeTo 44 = .ok (.iload 4, 2) := by decide +kernel
theorem dX9_comeTo_46 : decode cX9_comeTo 46 = .ok (.istore_n 2, 1) := by decide +kernel
theorem dX9_comeTo_47 : decode cX9_comeTo 47 = .ok (.iinc 3 1, 3) := by decide +kernel
theorem dX9_comeTo_50 : decode cX9_comeTo 50 = .ok (.goto (-44), 3) := by decide +kernel
theorem dX9_comeTo_53 : decode cX9_comeTo 53 = .ok (.iload_n 1, 1) := by decide +kernel
theorem dX9_comeTo_54 : decode cX9_comeTo 54 = .ok (.ireturn, 1) := by decide +kernel
theorem dX9_burns_0 : decode cX9_burns 0 = .ok (.aload_n 0, 1) := by decide +kernel
theorem dX9_burns_1 : decode cX9_burns 1 = .ok (.iconst 0, 1) := by decide +kernel
theorem dX9_burns_2 : decode cX9_burns 2 = .ok (.putfield 154, 3) := by decide +kernel
theorem dX9_burns_5 : decode cX9_burns 5 = .ok (.iconst 0, 1) := by decide +kernel
theorem dX9_burns_6 : decode cX9_burns 6 = .ok (.istore_n 1, 1) := by decide +kernel
theorem dX9_burns_7 : decode cX9_burns 7 = .ok (.iload_n 1, 1) := by decide +kernel
theorem dX9_burns_8 : decode cX9_burns 8 = .ok (.aload_n 0, 1) := by decide +kernel
theorem dX9_burns_9 : decode cX9_burns 9 = .ok (.getfield 7, 3) := by decide +kernel
theorem dX9_burns_12 : decode cX9_burns 12 = .ok (.iconst 0, 1) := by decide +kernel
theorem dX9_burns_13 : decode cX9_burns 13 = .ok (.iaload, 1) := by decide +kernel
theorem dX9_burns_14 : decode cX9_burns 14 = .ok (.if_icmp .ge 69, 3) := by decide +kernel
theorem dX9_burns_17 : decode cX9_burns 17 = .ok (.aload_n 0, 1) := by decide +kernel
theorem dX9_burns_18 : decode cX9_burns 18 = .ok (.iload_n 1, 1) := by decide +kernel
theorem dX9_burns_19 : decode cX9_burns 19 = .ok (.iconst 1, 1) := by decide +kernel
theorem dX9_burns_20 : decode cX9_burns 20 = .ok (.invokevirtual 74, 3) := by decide +kernel
theorem dX9_burns_23 : decode cX9_burns 23 = .ok (.istore_n 2, 1) := by decide +kernel
theorem dX9_burns_24 : decode cX9_burns 24 = .ok (.iload_n 2, 1) := by decide +kernel
theorem dX9_burns_25 : decode cX9_burns 25 = .ok (.aload_n 0, 1) := by decide +kernel
theorem dX9_burns_26 : decode cX9_burns 26 = .ok (.getfield 7, 3) := by decide +kernel
theorem dX9_burns_29 : decode cX9_burns 29 = .ok (.iconst 3, 1) := by decide +kernel
theorem dX9_burns_30 : decode cX9_burns 30 = .ok (.iaload, 1) := by decide +kernel
theorem dX9_burns_31 : decode cX9_burns 31 = .ok (.if_icmp .le 25, 3) := by decide +kernel
theorem dX9_burns_34 : decode cX9_burns 34 = .ok (.aload_n 0, 1) := by decide +kernel
theorem dX9_burns_35 : decode cX9_burns 35 = .ok (.getfield 7, 3) := by decide +kernel
theorem dX9_burns_38 : decode cX9_burns 38 = .ok (.bipush 12, 2) := by decide +kernel
theorem dX9_burns_40 : decode cX9_burns 40 = .ok (.iconst 3, 1) := by decide +kernel
theorem dX9_burns_41 : decode cX9_burns 41 = .ok (.iload_n 1, 1) := by decide +kernel
theorem dX9_burns_42 : decode cX9_burns 42 = .ok (.imul, 1) := by decide +kernel
theorem dX9_burns_43 : decode cX9_burns 43 = .ok (.iadd, 1) := by decide +kernel
theorem dX9_burns_44 : decode cX9_burns 44 = .ok (.iconst 1, 1) := by decide +kernel
theorem dX9_burns_45 : decode cX9_burns 45 = .ok (.iadd, 1) := by decide +kernel
theorem dX9_burns_46 : decode cX9_burns 46 = .ok (.iconst 0, 1) := by decide +kernel
theorem dX9_burns_47 : decode cX9_burns 47 = .ok (.iastore, 1) := by decide +kernel
theorem dX9_burns_48 : decode cX9_burns 48 = .ok (.aload_n 0, 1) := by decide +kernel
theorem dX9_burns_49 : decode cX9_burns 49 = .ok (.iconst 1, 1) := by decide +kernel
theorem dX9_burns_50 : decode cX9_burns 50 = .ok (.putfield 154, 3) := by decide +kernel
theorem dX9_burns_53 : decode cX9_burns 53 = .ok (.goto 24, 3) := by decide +kernel
theorem dX9_burns_56 : decode cX9_burns 56 = .ok (.aload_n 0, 1) := by decide +kernel
theorem dX9_burns_57 : decode cX9_burns 57 = .ok (.getfield 7, 3) := by decide +kernel
theorem dX9_burns_60 : decode cX9_burns 60 = .ok (.iconst 3, 1) := by decide +kernel
theorem dX9_burns_61 : decode cX9_burns 61 = .ok (.dup2, 1) := by decide +kernel
theorem dX9_burns_62 : decode cX9_burns 62 = .ok (.iaload, 1) := by decide +kernel
theorem dX9_burns_63 : decode cX9_burns 63 = .ok (.iload_n 2, 1) := by decide +kernel
theorem dX9_burns_64 : decode cX9_burns 64 = .ok (.isub, 1) := by decide +kernel
theorem dX9_burns_65 : decode cX9_burns 65 = .ok (.iastore, 1) := by decide +kernel
theorem dX9_burns_66 : decode cX9_burns 66 = .ok (.aload_n 0, 1) := by decide +kernel
theorem dX9_burns_67 : decode cX9_burns 67 = .ok (.getfield 7, 3) := by decide +kernel
theorem dX9_burns_70 : decode cX9_burns 70 = .ok (.bipush 9, 2) := by decide +kernel
theorem dX9_burns_72 : decode cX9_burns 72 = .ok (.dup2, 1) := by decide +kernel
theorem dX9_burns_73 : decode cX9_burns 73 = .ok (.iaload, 1) := by decide +kernel
theorem dX9_burns_74 : decode cX9_burns 74 = .ok (.iload_n 2, 1) := by decide +kernel
theorem dX9_burns_75 : decode cX9_burns 75 = .ok (.iadd, 1) := by decide +kernel
theorem dX9_burns_76 : decode cX9_burns 76 = .ok (.iastore, 1) := by decide +kernel
theorem dX9_burns_77 : decode cX9_burns 77 = .ok (.iinc 1 1, 3) := by decide +kernel
theorem dX9_burns_80 : decode cX9_burns 80 = .ok (.goto (-73), 3) := by decide +kernel
theorem dX9_burns_83 : decode cX9_burns 83 = .ok (.return_, 1) := by decide +kernel
theorem dX9_comeAndTake_0 : decode cX9_comeAndTake 0 = .ok (.aload_n 0, 1) := by decide +kernel
theorem dX9_comeAndTake_1 : decode cX9_comeAndTake 1 = .ok (.aload_n 0, 1) := by decide +kernel
theorem dX9_comeAndTake_2 : decode cX9_comeAndTake 2 = .ok (.invokevirtual 158, 3) := by decide +kernel
theorem dX9_comeAndTake_5 : decode cX9_comeAndTake 5 = .ok (.putfield 161, 3) := by decide +kernel
theorem dX9_comeAndTake_8 : decode cX9_comeAndTake 8 = .ok (.aload_n 0, 1) := by decide +kernel
theorem dX9_comeAndTake_9 : decode cX9_comeAndTake 9 = .ok (.getfield 161, 3) := by decide +kernel
theorem dX9_comeAndTake_12 : decode cX9_comeAndTake 12 = .ok (.ifCond .ge 4, 3) := by decide +kernel
theorem dX9_comeAndTake_15 : decode cX9_comeAndTake 15 = .ok (.return_, 1) := by decide +kernel
theorem dX9_comeAndTake_16 : decode cX9_comeAndTake 16 = .ok (.bipush 12, 2) := by decide +kernel
theorem dX9_comeAndTake_18 : decode cX9_comeAndTake 18 = .ok (.iconst 3, 1) := by decide +kernel
theorem dX9_comeAndTake_19 : decode cX9_comeAndTake 19 = .ok (.aload_n 0, 1) := by decide +kernel
theorem dX9_comeAndTake_20 : decode cX9_comeAndTake 20 = .ok (.getfield 161, 3) := by decide +kernel
theorem dX9_comeAndTake_23 : decode cX9_comeAndTake 23 = .ok (.imul, 1) := by decide +kernel
theorem dX9_comeAndTake_24 : decode cX9_comeAndTake 24 = .ok (.iadd, 1) := by decide +kernel
theorem dX9_comeAndTake_25 : decode cX9_comeAndTake 25 = .ok (.istore_n 1, 1) := by decide +kernel
theorem dX9_comeAndTake_26 : decode cX9_comeAndTake 26 = .ok (.aload_n 0, 1) := by decide +kernel
theorem dX9_comeAndTake_27 : decode cX9_comeAndTake 27 = .ok (.aload_n 0, 1) := by decide +kernel
theorem dX9_comeAndTake_28 : decode cX9_comeAndTake 28 = .ok (.getfield 161, 3) := by decide +kernel
theorem dX9_comeAndTake_31 : decode cX9_comeAndTake 31 = .ok (.invokevirtual 104, 3) := by decide +kernel
theorem dX9_comeAndTake_34 : decode cX9_comeAndTake 34 = .ok (.aload_n 0, 1) := by decide +kernel
theorem dX9_comeAndTake_35 : decode cX9_comeAndTake 35 = .ok (.getfield 7, 3) := by decide +kernel
theorem dX9_comeAndTake_38 : decode cX9_comeAndTake 38 = .ok (.iconst 4, 1) := by decide +kernel
theorem dX9_comeAndTake_39 : decode cX9_comeAndTake 39 = .ok (.iaload, 1) := by decide +kernel
theorem dX9_comeAndTake_40 : decode cX9_comeAndTake 40 = .ok (.aload_n 0, 1) := by decide +kernel
theorem dX9_comeAndTake_41 : decode cX9_comeAndTake 41 = .ok (.getfield 7, 3) := by decide +kernel
theorem dX9_comeAndTake_44 : decode cX9_comeAndTake 44 = .ok (.iconst 5, 1) := by decide +kernel
theorem dX9_comeAndTake_45 : decode cX9_comeAndTake 45 = .ok (.iaload, 1) := by decide +kernel
theorem dX9_comeAndTake_46 : decode cX9_comeAndTake 46 = .ok (.iadd, 1) := by decide +kernel
theorem dX9_comeAndTake_47 : decode cX9_comeAndTake 47 = .ok (.if_icmp .ge 52, 3) := by decide +kernel
theorem dX9_comeAndTake_50 : decode cX9_comeAndTake 50 = .ok (.aload_n 0, 1) := by decide +kernel
theorem dX9_comeAndTake_51 : decode cX9_comeAndTake 51 = .ok (.getfield 7, 3) := by decide +kernel
theorem dX9_comeAndTake_54 : decode cX9_comeAndTake 54 = .ok (.iload_n 1, 1) := by decide +kernel
theorem dX9_comeAndTake_55 : decode cX9_comeAndTake 55 = .ok (.iaload, 1) := by decide +kernel
theorem dX9_comeAndTake_56 : decode cX9_comeAndTake 56 = .ok (.ifCond .le 43, 3) := by decide +kernel
theorem dX9_comeAndTake_59 : decode cX9_comeAndTake 59 = .ok (.aload_n 0, 1) := by decide +kernel
theorem dX9_comeAndTake_60 : decode cX9_comeAndTake 60 = .ok (.getfield 7, 3) := by decide +kernel
theorem dX9_comeAndTake_63 : decode cX9_comeAndTake 63 = .ok (.iload_n 1, 1) := by decide +kernel
theorem dX9_comeAndTake_64 : decode cX9_comeAndTake 64 = .ok (.dup2, 1) := by decide +kernel
theorem dX9_comeAndTake_65 : decode cX9_comeAndTake 65 = .ok (.iaload, 1) := by decide +kernel
theorem dX9_comeAndTake_66 : decode cX9_comeAndTake 66 = .ok (.iconst 1, 1) := by decide +kernel
theorem dX9_comeAndTake_67 : decode cX9_comeAndTake 67 = .ok (.isub, 1) := by decide +kernel
theorem dX9_comeAndTake_68 : decode cX9_comeAndTake 68 = .ok (.iastore, 1) := by decide +kernel
theorem dX9_comeAndTake_69 : decode cX9_comeAndTake 69 = .ok (.aload_n 0, 1) := by decide +kernel
theorem dX9_comeAndTake_70 : decode cX9_comeAndTake 70 = .ok (.getfield 7, 3) := by decide +kernel
theorem dX9_comeAndTake_73 : decode cX9_comeAndTake 73 = .ok (.bipush 8, 2) := by decide +kernel
theorem dX9_comeAndTake_75 : decode cX9_comeAndTake 75 = .ok (.dup2, 1) := by decide +kernel
theorem dX9_comeAndTake_76 : decode cX9_comeAndTake 76 = .ok (.iaload, 1) := by decide +kernel
theorem dX9_comeAndTake_77 : decode cX9_comeAndTake 77 = .ok (.iconst 1, 1) := by decide +kernel
theorem dX9_comeAndTake_78 : decode cX9_comeAndTake 78 = .ok (.iadd, 1) := by decide +kernel
theorem dX9_comeAndTake_79 : decode cX9_comeAndTake 79 = .ok (.iastore, 1) := by decide +kernel
theorem dX9_comeAndTake_80 : decode cX9_comeAndTake 80 = .ok (.aload_n 0, 1) := by decide +kernel
theorem dX9_comeAndTake_81 : decode cX9_comeAndTake 81 = .ok (.getfield 7, 3) := by decide +kernel
theorem dX9_comeAndTake_84 : decode cX9_comeAndTake 84 = .ok (.iconst 5, 1) := by decide +kernel
theorem dX9_comeAndTake_85 : decode cX9_comeAndTake 85 = .ok (.iconst 0, 1) := by decide +kernel
theorem dX9_comeAndTake_86 : decode cX9_comeAndTake 86 = .ok (.iastore, 1) := by decide +kernel
theorem dX9_comeAndTake_87 : decode cX9_comeAndTake 87 = .ok (.aload_n 0, 1) := by decide +kernel
theorem dX9_comeAndTake_88 : decode cX9_comeAndTake 88 = .ok (.getfield 7, 3) := by decide +kernel
theorem dX9_comeAndTake_91 : decode cX9_comeAndTake 91 = .ok (.iload_n 1, 1) := by decide +kernel
theorem dX9_comeAndTake_92 : decode cX9_comeAndTake 92 = .ok (.iconst 2, 1) := by decide +kernel
theorem dX9_comeAndTake_93 : decode cX9_comeAndTake 93 = .ok (.iadd, 1) := by decide +kernel
theorem dX9_comeAndTake_94 : decode cX9_comeAndTake 94 = .ok (.iconst 0, 1) := by decide +kernel
theorem dX9_comeAndTake_95 : decode cX9_comeAndTake 95 = .ok (.iastore, 1) := by decide +kernel
theorem dX9_comeAndTake_96 : decode cX9_comeAndTake 96 = .ok (.goto 45, 3) := by decide +kernel
theorem dX9_comeAndTake_99 : decode cX9_comeAndTake 99 = .ok (.aload_n 0, 1) := by decide +kernel
theorem dX9_comeAndTake_100 : decode cX9_comeAndTake 100 = .ok (.getfield 7, 3) := by decide +kernel
theorem dX9_comeAndTake_103 : decode cX9_comeAndTake 103 = .ok (.iload_n 1, 1) := by decide +kernel
theorem dX9_comeAndTake_104 : decode cX9_comeAndTake 104 = .ok (.iconst 2, 1) := by decide +kernel
theorem dX9_comeAndTake_105 : decode cX9_comeAndTake 105 = .ok (.iadd, 1) := by decide +kernel
theorem dX9_comeAndTake_106 : decode cX9_comeAndTake 106 = .ok (.aload_n 0, 1) := by decide +kernel
theorem dX9_comeAndTake_107 : decode cX9_comeAndTake 107 = .ok (.getfield 7, 3) := by decide +kernel
theorem dX9_comeAndTake_110 : decode cX9_comeAndTake 110 = .ok (.iload_n 1, 1) := by decide +kernel
theorem dX9_comeAndTake_111 : decode cX9_comeAndTake 111 = .ok (.iconst 2, 1) := by decide +kernel
theorem dX9_comeAndTake_112 : decode cX9_comeAndTake 112 = .ok (.iadd, 1) := by decide +kernel
theorem dX9_comeAndTake_113 : decode cX9_comeAndTake 113 = .ok (.iaload, 1) := by decide +kernel
theorem dX9_comeAndTake_114 : decode cX9_comeAndTake 114 = .ok (.iconst 1, 1) := by decide +kernel
theorem dX9_comeAndTake_115 : decode cX9_comeAndTake 115 = .ok (.iadd, 1) := by decide +kernel
theorem dX9_comeAndTake_116 : decode cX9_comeAndTake 116 = .ok (.bipush 99, 2) := by decide +kernel
theorem dX9_comeAndTake_118 : decode cX9_comeAndTake 118 = .ok (.invokestatic 88, 3) := by decide +kernel
theorem dX9_comeAndTake_121 : decode cX9_comeAndTake 121 = .ok (.iastore, 1) := by decide +kernel
theorem dX9_comeAndTake_122 : decode cX9_comeAndTake 122 = .ok (.aload_n 0, 1) := by decide +kernel
theorem dX9_comeAndTake_123 : decode cX9_comeAndTake 123 = .ok (.getfield 7, 3) := by decide +kernel
theorem dX9_comeAndTake_126 : decode cX9_comeAndTake 126 = .ok (.iconst 5, 1) := by decide +kernel
theorem dX9_comeAndTake_127 : decode cX9_comeAndTake 127 = .ok (.aload_n 0, 1) := by decide +kernel
theorem dX9_comeAndTake_128 : decode cX9_comeAndTake 128 = .ok (.getfield 7, 3) := by decide +kernel
theorem dX9_comeAndTake_131 : decode cX9_comeAndTake 131 = .ok (.iconst 5, 1) := by decide +kernel
theorem dX9_comeAndTake_132 : decode cX9_comeAndTake 132 = .ok (.iaload, 1) := by decide +kernel
theorem dX9_comeAndTake_133 : decode cX9_comeAndTake 133 = .ok (.iconst 1, 1) := by decide +kernel
theorem dX9_comeAndTake_134 : decode cX9_comeAndTake 134 = .ok (.iadd, 1) := by decide +kernel
theorem dX9_comeAndTake_135 : decode cX9_comeAndTake 135 = .ok (.bipush 99, 2) := by decide +kernel
theorem dX9_comeAndTake_137 : decode cX9_comeAndTake 137 = .ok (.invokestatic 88, 3) := by decide +kernel
theorem dX9_comeAndTake_140 : decode cX9_comeAndTake 140 = .ok (.iastore, 1) := by decide +kernel
theorem dX9_comeAndTake_141 : decode cX9_comeAndTake 141 = .ok (.return_, 1) := by decide +kernel
theorem dX9_tires_0 : decode cX9_tires 0 = .ok (.aload_n 0, 1) := by decide +kernel
theorem dX9_tires_1 : decode cX9_tires 1 = .ok (.iconst 2, 1) := by decide +kernel
theorem dX9_tires_2 : decode cX9_tires 2 = .ok (.invokevirtual 82, 3) := by decide +kernel
theorem dX9_tires_5 : decode cX9_tires 5 = .ok (.istore_n 2, 1) := by decide +kernel
theorem dX9_tires_6 : decode cX9_tires 6 = .ok (.iload_n 2, 1) := by decide +kernel
theorem dX9_tires_7 : decode cX9_tires 7 = .ok (.ifCond .ge 5, 3) := by decide +kernel
theorem dX9_tires_10 : decode cX9_tires 10 = .ok (.iconst 1, 1) := by decide +kernel
theorem dX9_tires_11 : decode cX9_tires 11 = .ok (.ireturn, 1) := by decide +kernel
theorem dX9_tires_12 : decode cX9_tires 12 = .ok (.aload_n 0, 1) := by decide +kernel
theorem dX9_tires_13 : decode cX9_tires 13 = .ok (.getfield 49, 3) := by decide +kernel
theorem dX9_tires_16 : decode cX9_tires 16 = .ok (.bipush 116, 2) := by decide +kernel
theorem dX9_tires_18 : decode cX9_tires 18 = .ok (.aload_n 0, 1) := by decide +kernel
theorem dX9_tires_19 : decode cX9_tires 19 = .ok (.iload_n 1, 1) := by decide +kernel
theorem dX9_tires_20 : decode cX9_tires 20 = .ok (.iconst 3, 1) := by decide +kernel
theorem dX9_tires_21 : decode cX9_tires 21 = .ok (.invokevirtual 91, 3) := by decide +kernel
theorem dX9_tires_24 : decode cX9_tires 24 = .ok (.iastore, 1) := by decide +kernel
theorem dX9_tires_25 : decode cX9_tires 25 = .ok (.aload_n 0, 1) := by decide +kernel
theorem dX9_tires_26 : decode cX9_tires 26 = .ok (.getfield 49, 3) := by decide +kernel
theorem dX9_tires_29 : decode cX9_tires 29 = .ok (.bipush 101, 2) := by decide +kernel
theorem dX9_tires_31 : decode cX9_tires 31 = .ok (.aload_n 0, 1) := by decide +kernel
theorem dX9_tires_32 : decode cX9_tires 32 = .ok (.iload_n 1, 1) := by decide +kernel
theorem dX9_tires_33 : decode cX9_tires 33 = .ok (.iconst 2, 1) := by decide +kernel
theorem dX9_tires_34 : decode cX9_tires 34 = .ok (.invokevirtual 91, 3) := by decide +kernel
theorem dX9_tires_37 : decode cX9_tires 37 = .ok (.iastore, 1) := by decide +kernel
theorem dX9_tires_38 : decode cX9_tires 38 = .ok (.aload_n 0, 1) := by decide +kernel
theorem dX9_tires_39 : decode cX9_tires 39 = .ok (.iload_n 2, 1) := by decide +kernel
theorem dX9_tires_40 : decode cX9_tires 40 = .ok (.invokevirtual 85, 3) := by decide +kernel
theorem dX9_tires_43 : decode cX9_tires 43 = .ok (.bipush 99, 2) := by decide +kernel
theorem dX9_tires_45 : decode cX9_tires 45 = .ok (.invokestatic 88, 3) := by decide +kernel
theorem dX9_tires_48 : decode cX9_tires 48 = .ok (.ireturn, 1) := by decide +kernel
theorem dX9_goesOn_0 : decode cX9_goesOn 0 = .ok (.aload_n 0, 1) := by decide +kernel
theorem dX9_goesOn_1 : decode cX9_goesOn 1 = .ok (.invokevirtual 165, 3) := by decide +kernel
theorem dX9_goesOn_4 : decode cX9_goesOn 4 = .ok (.aload_n 0, 1) := by decide +kernel
theorem dX9_goesOn_5 : decode cX9_goesOn 5 = .ok (.invokevirtual 168, 3) := by decide +kernel
theorem dX9_goesOn_8 : decode cX9_goesOn 8 = .ok (.iconst 0, 1) := by decide +kernel
theorem dX9_goesOn_9 : decode cX9_goesOn 9 = .ok (.istore_n 1, 1) := by decide +kernel
theorem dX9_goesOn_10 : decode cX9_goesOn 10 = .ok (.iload_n 1, 1) := by decide +kernel
theorem dX9_goesOn_11 : decode cX9_goesOn 11 = .ok (.aload_n 0, 1) := by decide +kernel
theorem dX9_goesOn_12 : decode cX9_goesOn 12 = .ok (.getfield 7, 3) := by decide +kernel
theorem dX9_goesOn_15 : decode cX9_goesOn 15 = .ok (.iconst 1, 1) := by decide +kernel
theorem dX9_goesOn_16 : decode cX9_goesOn 16 = .ok (.iaload, 1) := by decide +kernel
theorem dX9_goesOn_17 : decode cX9_goesOn 17 = .ok (.if_icmp .ge 86, 3) := by decide +kernel
theorem dX9_goesOn_20 : decode cX9_goesOn 20 = .ok (.bipush 48, 2) := by decide +kernel
theorem dX9_goesOn_22 : decode cX9_goesOn 22 = .ok (.iconst 5, 1) := by decide +kernel
theorem dX9_goesOn_23 : decode cX9_goesOn 23 = .ok (.iload_n 1, 1) := by decide +kernel
theorem dX9_goesOn_24 : decode cX9_goesOn 24 = .ok (.imul, 1) := by decide +kernel
theorem dX9_goesOn_25 : decode cX9_goesOn 25 = .ok (.iadd, 1) := by decide +kernel
theorem dX9_goesOn_26 : decode cX9_goesOn 26 = .ok (.iconst 3, 1) := by decide +kernel
theorem dX9_goesOn_27 : decode cX9_goesOn 27 = .ok (.iadd, 1) := by decide +kernel
theorem dX9_goesOn_28 : decode cX9_goesOn 28 = .ok (.istore_n 2, 1) := by decide +kernel
theorem dX9_goesOn_29 : decode cX9_goesOn 29 = .ok (.aload_n 0, 1) := by decide +kernel
theorem dX9_goesOn_30 : decode cX9_goesOn 30 = .ok (.iload_n 1, 1) := by decide +kernel
theorem dX9_goesOn_31 : decode cX9_goesOn 31 = .ok (.iconst 4, 1) := by decide +kernel
theorem dX9_goesOn_32 : decode cX9_goesOn 32 = .ok (.invokevirtual 91, 3) := by decide +kernel
theorem dX9_goesOn_35 : decode cX9_goesOn 35 = .ok (.iconst 1, 1) := by decide +kernel
theorem dX9_goesOn_36 : decode cX9_goesOn 36 = .ok (.if_icmp .ne 30, 3) := by decide +kernel
theorem dX9_goesOn_39 : decode cX9_goesOn 39 = .ok (.aload_n 0, 1) := by decide +kernel
theorem dX9_goesOn_40 : decode cX9_goesOn 40 = .ok (.getfield 7, 3) := by decide +kernel
theorem dX9_goesOn_43 : decode cX9_goesOn 43 = .ok (.iload_n 2, 1) := by decide +kernel
theorem dX9_goesOn_44 : decode cX9_goesOn 44 = .ok (.aload_n 0, 1) := by decide +kernel
theorem dX9_goesOn_45 : decode cX9_goesOn 45 = .ok (.getfield 7, 3) := by decide +kernel
theorem dX9_goesOn_48 : decode cX9_goesOn 48 = .ok (.iload_n 2, 1) := by decide +kernel
theorem dX9_goesOn_49 : decode cX9_goesOn 49 = .ok (.iaload, 1) := by decide +kernel
theorem dX9_goesOn_50 : decode cX9_goesOn 50 = .ok (.aload_n 0, 1) := by decide +kernel
theorem dX9_goesOn_51 : decode cX9_goesOn 51 = .ok (.iload_n 1, 1) := by decide +kernel
theorem dX9_goesOn_52 : decode cX9_goesOn 52 = .ok (.invokevirtual 171, 3) := by decide +kernel
theorem dX9_goesOn_55 : decode cX9_goesOn 55 = .ok (.iadd, 1) := by decide +kernel
theorem dX9_goesOn_56 : decode cX9_goesOn 56 = .ok (.sipush 999, 3) := by decide +kernel
theorem dX9_goesOn_59 : decode cX9_goesOn 59 = .ok (.invokestatic 88, 3) := by decide +kernel
theorem dX9_goesOn_62 : decode cX9_goesOn 62 = .ok (.iastore, 1) := by decide +kernel
theorem dX9_goesOn_63 : decode cX9_goesOn 63 = .ok (.goto 34, 3) := by decide +kernel
theorem dX9_goesOn_66 : decode cX9_goesOn 66 = .ok (.aload_n 0, 1) := by decide +kernel
theorem dX9_goesOn_67 : decode cX9_goesOn 67 = .ok (.getfield 7, 3) := by decide +kernel
theorem dX9_goesOn_70 : decode cX9_goesOn 70 = .ok (.iload_n 2, 1) := by decide +kernel
theorem dX9_goesOn_71 : decode cX9_goesOn 71 = .ok (.aload_n 0, 1) := by decide +kernel
theorem dX9_goesOn_72 : decode cX9_goesOn 72 = .ok (.getfield 7, 3) := by decide +kernel
theorem dX9_goesOn_75 : decode cX9_goesOn 75 = .ok (.iload_n 2, 1) := by decide +kernel
theorem dX9_goesOn_76 : decode cX9_goesOn 76 = .ok (.iaload, 1) := by decide +kernel
theorem dX9_goesOn_77 : decode cX9_goesOn 77 = .ok (.iconst 2, 1) := by decide +kernel
theorem dX9_goesOn_78 : decode cX9_goesOn 78 = .ok (.isub, 1) := by decide +kernel
theorem dX9_goesOn_79 : decode cX9_goesOn 79 = .ok (.sipush 999, 3) := by decide +kernel
theorem dX9_goesOn_82 : decode cX9_goesOn 82 = .ok (.invokestatic 88, 3) := by decide +kernel
theorem dX9_goesOn_85 : decode cX9_goesOn 85 = .ok (.iastore, 1) := by decide +kernel
theorem dX9_goesOn_86 : decode cX9_goesOn 86 = .ok (.aload_n 0, 1) := by decide +kernel
theorem dX9_goesOn_87 : decode cX9_goesOn 87 = .ok (.getfield 7, 3) := by decide +kernel
theorem dX9_goesOn_90 : decode cX9_goesOn 90 = .ok (.bipush 7, 2) := by decide +kernel
theorem dX9_goesOn_92 : decode cX9_goesOn 92 = .ok (.dup2, 1) := by decide +kernel
theorem dX9_goesOn_93 : decode cX9_goesOn 93 = .ok (.iaload, 1) := by decide +kernel
theorem dX9_goesOn_94 : decode cX9_goesOn 94 = .ok (.iconst 1, 1) := by decide +kernel
theorem dX9_goesOn_95 : decode cX9_goesOn 95 = .ok (.iadd, 1) := by decide +kernel
theorem dX9_goesOn_96 : decode cX9_goesOn 96 = .ok (.iastore, 1) := by decide +kernel
theorem dX9_goesOn_97 : decode cX9_goesOn 97 = .ok (.iinc 1 1, 3) := by decide +kernel
theorem dX9_goesOn_100 : decode cX9_goesOn 100 = .ok (.goto (-90), 3) := by decide +kernel
theorem dX9_goesOn_103 : decode cX9_goesOn 103 = .ok (.aload_n 0, 1) := by decide +kernel
theorem dX9_goesOn_104 : decode cX9_goesOn 104 = .ok (.getfield 7, 3) := by decide +kernel
theorem dX9_goesOn_107 : decode cX9_goesOn 107 = .ok (.bipush 6, 2) := by decide +kernel
theorem dX9_goesOn_109 : decode cX9_goesOn 109 = .ok (.dup2, 1) := by decide +kernel
theorem dX9_goesOn_110 : decode cX9_goesOn 110 = .ok (.iaload, 1) := by decide +kernel
theorem dX9_goesOn_111 : decode cX9_goesOn 111 = .ok (.iconst 1, 1) := by decide +kernel
theorem dX9_goesOn_112 : decode cX9_goesOn 112 = .ok (.iadd, 1) := by decide +kernel
theorem dX9_goesOn_113 : decode cX9_goesOn 113 = .ok (.iastore, 1) := by decide +kernel
theorem dX9_goesOn_114 : decode cX9_goesOn 114 = .ok (.return_, 1) := by decide +kernel
theorem dX9_hours_0 : decode cX9_hours 0 = .ok (.iload_n 1, 1) := by decide +kernel
theorem dX9_hours_1 : decode cX9_hours 1 = .ok (.i2l, 1) := by decide +kernel
theorem dX9_hours_2 : decode cX9_hours 2 = .ok (.lconst 1, 1) := by decide +kernel
theorem dX9_hours_3 : decode cX9_hours 3 = .ok (.ldc2_w 174, 3) := by decide +kernel
theorem dX9_hours_6 : decode cX9_hours 6 = .ok (.invokestatic 65, 3) := by decide +kernel
theorem dX9_hours_9 : decode cX9_hours 9 = .ok (.ifCond .ne 6, 3) := by decide +kernel
theorem dX9_hours_12 : decode cX9_hours 12 = .ok (.ldc 72, 2) := by decide +kernel
theorem dX9_hours_14 : decode cX9_hours 14 = .ok (.ireturn, 1) := by decide +kernel
theorem dX9_hours_15 : decode cX9_hours 15 = .ok (.aload_n 0, 1) := by decide +kernel
theorem dX9_hours_16 : decode cX9_hours 16 = .ok (.getfield 7, 3) := by decide +kernel
theorem dX9_hours_19 : decode cX9_hours 19 = .ok (.bipush 8, 2) := by decide +kernel
theorem dX9_hours_21 : decode cX9_hours 21 = .ok (.iaload, 1) := by decide +kernel
theorem dX9_hours_22 : decode cX9_hours 22 = .ok (.istore_n 2, 1) := by decide +kernel
theorem dX9_hours_23 : decode cX9_hours 23 = .ok (.iconst 0, 1) := by decide +kernel
theorem dX9_hours_24 : decode cX9_hours 24 = .ok (.istore_n 3, 1) := by decide +kernel
theorem dX9_hours_25 : decode cX9_hours 25 = .ok (.iload_n 3, 1) := by decide +kernel
theorem dX9_hours_26 : decode cX9_hours 26 = .ok (.iload_n 1, 1) := by decide +kernel
theorem dX9_hours_27 : decode cX9_hours 27 = .ok (.if_icmp .ge 26, 3) := by decide +kernel
theorem dX9_hours_30 : decode cX9_hours 30 = .ok (.aload_n 0, 1) := by decide +kernel
theorem dX9_hours_31 : decode cX9_hours 31 = .ok (.getfield 7, 3) := by decide +kernel
theorem dX9_hours_34 : decode cX9_hours 34 = .ok (.bipush 6, 2) := by decide +kernel
theorem dX9_hours_36 : decode cX9_hours 36 = .ok (.iaload, 1) := by decide +kernel
theorem dX9_hours_37 : decode cX9_hours 37 = .ok (.sipush 9999, 3) := by decide +kernel
theorem dX9_hours_40 : decode cX9_hours 40 = .ok (.if_icmp .ge 13, 3) := by decide +kernel
theorem dX9_hours_43 : decode cX9_hours 43 = .ok (.aload_n 0, 1) := by decide +kernel
theorem dX9_hours_44 : decode cX9_hours 44 = .ok (.invokevirtual 176, 3) := by decide +kernel
theorem dX9_hours_47 : decode cX9_hours 47 = .ok (.iinc 3 1, 3) := by decide +kernel
theorem dX9_hours_50 : decode cX9_hours 50 = .ok (.goto (-25), 3) := by decide +kernel
theorem dX9_hours_53 : decode cX9_hours 53 = .ok (.aload_n 0, 1) := by decide +kernel
theorem dX9_hours_54 : decode cX9_hours 54 = .ok (.getfield 7, 3) := by decide +kernel
theorem dX9_hours_57 : decode cX9_hours 57 = .ok (.bipush 8, 2) := by decide +kernel
theorem dX9_hours_59 : decode cX9_hours 59 = .ok (.iaload, 1) := by decide +kernel
theorem dX9_hours_60 : decode cX9_hours 60 = .ok (.iload_n 2, 1) := by decide +kernel
theorem dX9_hours_61 : decode cX9_hours 61 = .ok (.isub, 1) := by decide +kernel
theorem dX9_hours_62 : decode cX9_hours 62 = .ok (.ireturn, 1) := by decide +kernel
theorem dX9_night_0 : decode cX9_night 0 = .ok (.iload_n 1, 1) := by decide +kernel
theorem dX9_night_1 : decode cX9_night 1 = .ok (.tableswitch 63 0 3 #[31, 39, 47, 55], 31) := by decide +kernel
theorem dX9_night_32 : decode cX9_night 32 = .ok (.aload_n 0, 1) := by decide +kernel
theorem dX9_night_33 : decode cX9_night 33 = .ok (.getfield 7, 3) := by decide +kernel
theorem dX9_night_36 : decode cX9_night 36 = .ok (.bipush 8, 2) := by decide +kernel
theorem dX9_night_38 : decode cX9_night 38 = .ok (.iaload, 1) := by decide +kernel
theorem dX9_night_39 : decode cX9_night 39 = .ok (.ireturn, 1) := by decide +kernel
theorem dX9_night_40 : decode cX9_night 40 = .ok (.aload_n 0, 1) := by decide +kernel
theorem dX9_night_41 : decode cX9_night 41 = .ok (.getfield 7, 3) := by decide +kernel
theorem dX9_night_44 : decode cX9_night 44 = .ok (.bipush 7, 2) := by decide +kernel
theorem dX9_night_46 : decode cX9_night 46 = .ok (.iaload, 1) := by decide +kernel
theorem dX9_night_47 : decode cX9_night 47 = .ok (.ireturn, 1) := by decide +kernel
theorem dX9_night_48 : decode cX9_night 48 = .ok (.aload_n 0, 1) := by decide +kernel
theorem dX9_night_49 : decode cX9_night 49 = .ok (.getfield 7, 3) := by decide +kernel
theorem dX9_night_52 : decode cX9_night 52 = .ok (.bipush 9, 2) := by decide +kernel
theorem dX9_night_54 : decode cX9_night 54 = .ok (.iaload, 1) := by decide +kernel
theorem dX9_night_55 : decode cX9_night 55 = .ok (.ireturn, 1) := by decide +kernel
theorem dX9_night_56 : decode cX9_night 56 = .ok (.aload_n 0, 1) := by decide +kernel
theorem dX9_night_57 : decode cX9_night 57 = .ok (.invokevirtual 158, 3) := by decide +kernel
theorem dX9_night_60 : decode cX9_night 60 = .ok (.invokestatic 179, 3) := by decide +kernel
theorem dX9_night_63 : decode cX9_night 63 = .ok (.ireturn, 1) := by decide +kernel
theorem dX9_night_64 : decode cX9_night 64 = .ok (.ldc 72, 2) := by decide +kernel
theorem dX9_night_66 : decode cX9_night 66 = .ok (.ireturn, 1) := by decide +kernel
theorem dX9_allFoals_0 : decode cX9_allFoals 0 = .ok (.iconst 0, 1) := by decide +kernel
theorem dX9_allFoals_1 : decode cX9_allFoals 1 = .ok (.istore_n 1, 1) := by decide +kernel
theorem dX9_allFoals_2 : decode cX9_allFoals 2 = .ok (.iconst 0, 1) := by decide +kernel
theorem dX9_allFoals_3 : decode cX9_allFoals 3 = .ok (.istore_n 2, 1) := by decide +kernel
theorem dX9_allFoals_4 : decode cX9_allFoals 4 = .ok (.iload_n 2, 1) := by decide +kernel
theorem dX9_allFoals_5 : decode cX9_allFoals 5 = .ok (.aload_n 0, 1) := by decide +kernel
theorem dX9_allFoals_6 : decode cX9_allFoals 6 = .ok (.getfield 7, 3) := by decide +kernel
theorem dX9_allFoals_9 : decode cX9_allFoals 9 = .ok (.iconst 0, 1) := by decide +kernel
theorem dX9_allFoals_10 : decode cX9_allFoals 10 = .ok (.iaload, 1) := by decide +kernel
theorem dX9_allFoals_11 : decode cX9_allFoals 11 = .ok (.if_icmp .ge 18, 3) := by decide +kernel
theorem dX9_allFoals_14 : decode cX9_allFoals 14 = .ok (.iload_n 1, 1) := by decide +kernel
theorem dX9_allFoals_15 : decode cX9_allFoals 15 = .ok (.aload_n 0, 1) := by decide +kernel
theorem dX9_allFoals_16 : decode cX9_allFoals 16 = .ok (.iload_n 2, 1) := by decide +kernel
theorem dX9_allFoals_17 : decode cX9_allFoals 17 = .ok (.iconst 0, 1) := by decide +kernel
theorem dX9_allFoals_18 : decode cX9_allFoals 18 = .ok (.invokevirtual 74, 3) := by decide +kernel
theorem dX9_allFoals_21 : decode cX9_allFoals 21 = .ok (.iadd, 1) := by decide +kernel
theorem dX9_allFoals_22 : decode cX9_allFoals 22 = .ok (.istore_n 1, 1) := by decide +kernel
theorem dX9_allFoals_23 : decode cX9_allFoals 23 = .ok (.iinc 2 1, 3) := by decide +kernel
theorem dX9_allFoals_26 : decode cX9_allFoals 26 = .ok (.goto (-22), 3) := by decide +kernel
theorem dX9_allFoals_29 : decode cX9_allFoals 29 = .ok (.iload_n 1, 1) := by decide +kernel
theorem dX9_allFoals_30 : decode cX9_allFoals 30 = .ok (.ireturn, 1) := by decide +kernel
theorem dX9_laysBy_0 : decode cX9_laysBy 0 = .ok (.iconst 0, 1) := by decide +kernel
theorem dX9_laysBy_1 : decode cX9_laysBy 1 = .ok (.istore_n 1, 1) := by decide +kernel
theorem dX9_laysBy_2 : decode cX9_laysBy 2 = .ok (.iload_n 1, 1) := by decide +kernel
theorem dX9_laysBy_3 : decode cX9_laysBy 3 = .ok (.bipush 88, 2) := by decide +kernel
theorem dX9_laysBy_5 : decode cX9_laysBy 5 = .ok (.if_icmp .ge 21, 3) := by decide +kernel
theorem dX9_laysBy_8 : decode cX9_laysBy 8 = .ok (.aload_n 0, 1) := by decide +kernel
theorem dX9_laysBy_9 : decode cX9_laysBy 9 = .ok (.getfield 43, 3) := by decide +kernel
theorem dX9_laysBy_12 : decode cX9_laysBy 12 = .ok (.iload_n 1, 1) := by decide +kernel
theorem dX9_laysBy_13 : decode cX9_laysBy 13 = .ok (.aload_n 0, 1) := by decide +kernel
theorem dX9_laysBy_14 : decode cX9_laysBy 14 = .ok (.getfield 7, 3) := by decide +kernel
theorem dX9_laysBy_17 : decode cX9_laysBy 17 = .ok (.iload_n 1, 1) := by decide +kernel
theorem dX9_laysBy_18 : decode cX9_laysBy 18 = .ok (.iaload, 1) := by decide +kernel
theorem dX9_laysBy_19 : decode cX9_laysBy 19 = .ok (.iastore, 1) := by decide +kernel
theorem dX9_laysBy_20 : decode cX9_laysBy 20 = .ok (.iinc 1 1, 3) := by decide +kernel
theorem dX9_laysBy_23 : decode cX9_laysBy 23 = .ok (.goto (-21), 3) := by decide +kernel
theorem dX9_laysBy_26 : decode cX9_laysBy 26 = .ok (.return_, 1) := by decide +kernel
theorem dX9_laysBack_0 : decode cX9_laysBack 0 = .ok (.iconst 0, 1) := by decide +kernel
theorem dX9_laysBack_1 : decode cX9_laysBack 1 = .ok (.istore_n 1, 1) := by decide +kernel
theorem dX9_laysBack_2 : decode cX9_laysBack 2 = .ok (.iload_n 1, 1) := by decide +kernel
theorem dX9_laysBack_3 : decode cX9_laysBack 3 = .ok (.bipush 88, 2) := by decide +kernel
theorem dX9_laysBack_5 : decode cX9_laysBack 5 = .ok (.if_icmp .ge 21, 3) := by decide +kernel
theorem dX9_laysBack_8 : decode cX9_laysBack 8 = .ok (.aload_n 0, 1) := by decide +kernel
theorem dX9_laysBack_9 : decode cX9_laysBack 9 = .ok (.getfield 7, 3) := by decide +kernel
theorem dX9_laysBack_12 : decode cX9_laysBack 12 = .ok (.iload_n 1, 1) := by decide +kernel
theorem dX9_laysBack_13 : decode cX9_laysBack 13 = .ok (.aload_n 0, 1) := by decide +kernel
theorem dX9_laysBack_14 : decode cX9_laysBack 14 = .ok (.getfield 43, 3) := by decide +kernel
theorem dX9_laysBack_17 : decode cX9_laysBack 17 = .ok (.iload_n 1, 1) := by decide +kernel
theorem dX9_laysBack_18 : decode cX9_laysBack 18 = .ok (.iaload, 1) := by decide +kernel
theorem dX9_laysBack_19 : decode cX9_laysBack 19 = .ok (.iastore, 1) := by decide +kernel
theorem dX9_laysBack_20 : decode cX9_laysBack 20 = .ok (.iinc 1 1, 3) := by decide +kernel
theorem dX9_laysBack_23 : decode cX9_laysBack 23 = .ok (.goto (-21), 3) := by decide +kernel
theorem dX9_laysBack_26 : decode cX9_laysBack 26 = .ok (.return_, 1) := by decide +kernel
theorem dX9_goesOnMany_0 : decode cX9_goesOnMany 0 = .ok (.iconst 0, 1) := by decide +kernel
theorem dX9_goesOnMany_1 : decode cX9_goesOnMany 1 = .ok (.istore_n 2, 1) := by decide +kernel
theorem dX9_goesOnMany_2 : decode cX9_goesOnMany 2 = .ok (.iload_n 2, 1) := by decide +kernel
theorem dX9_goesOnMany_3 : decode cX9_goesOnMany 3 = .ok (.iload_n 1, 1) := by decide +kernel
theorem dX9_goesOnMany_4 : decode cX9_goesOnMany 4 = .ok (.if_icmp .ge 13, 3) := by decide +kernel
theorem dX9_goesOnMany_7 : decode cX9_goesOnMany 7 = .ok (.aload_n 0, 1) := by decide +kernel
theorem dX9_goesOnMany_8 : decode cX9_goesOnMany 8 = .ok (.invokevirtual 176, 3) := by decide +kernel
theorem dX9_goesOnMany_11 : decode cX9_goesOnMany 11 = .ok (.iinc 2 1, 3) := by decide +kernel
theorem dX9_goesOnMany_14 : decode cX9_goesOnMany 14 = .ok (.goto (-12), 3) := by decide +kernel
theorem dX9_goesOnMany_17 : decode cX9_goesOnMany 17 = .ok (.return_, 1) := by decide +kernel
theorem dX9_behind_0 : decode cX9_behind 0 = .ok (.iload_n 1, 1) := by decide +kernel
theorem dX9_behind_1 : decode cX9_behind 1 = .ok (.i2l, 1) := by decide +kernel
theorem dX9_behind_2 : decode cX9_behind 2 = .ok (.lconst 0, 1) := by decide +kernel
theorem dX9_behind_3 : decode cX9_behind 3 = .ok (.ldc2_w 174, 3) := by decide +kernel
theorem dX9_behind_6 : decode cX9_behind 6 = .ok (.invokestatic 65, 3) := by decide +kernel
theorem dX9_behind_9 : decode cX9_behind 9 = .ok (.ifCond .eq 15, 3) := by decide +kernel
theorem dX9_behind_12 : decode cX9_behind 12 = .ok (.iload_n 2, 1) := by decide +kernel
theorem dX9_behind_13 : decode cX9_behind 13 = .ok (.i2l, 1) := by decide +kernel
theorem dX9_behind_14 : decode cX9_behind 14 = .ok (.lconst 0, 1) := by decide +kernel
theorem dX9_behind_15 : decode cX9_behind 15 = .ok (.ldc2_w 182, 3) := by decide +kernel
theorem dX9_behind_18 : decode cX9_behind 18 = .ok (.invokestatic 65, 3) := by decide +kernel
theorem dX9_behind_21 : decode cX9_behind 21 = .ok (.ifCond .ne 6, 3) := by decide +kernel
theorem dX9_behind_24 : decode cX9_behind 24 = .ok (.ldc 72, 2) := by decide +kernel
theorem dX9_behind_26 : decode cX9_behind 26 = .ok (.ireturn, 1) := by decide +kernel
theorem dX9_behind_27 : decode cX9_behind 27 = .ok (.aload_n 0, 1) := by decide +kernel
theorem dX9_behind_28 : decode cX9_behind 28 = .ok (.invokevirtual 184, 3) := by decide +kernel
theorem dX9_behind_31 : decode cX9_behind 31 = .ok (.aload_n 0, 1) := by decide +kernel
theorem dX9_behind_32 : decode cX9_behind 32 = .ok (.iload_n 1, 1) := by decide +kernel
theorem dX9_behind_33 : decode cX9_behind 33 = .ok (.invokevirtual 187, 3) := by decide +kernel
theorem dX9_behind_36 : decode cX9_behind 36 = .ok (.iload_n 2, 1) := by decide +kernel
theorem dX9_behind_37 : decode cX9_behind 37 = .ok (.ifCond .ne 13, 3) := by decide +kernel
theorem dX9_behind_40 : decode cX9_behind 40 = .ok (.aload_n 0, 1) := by decide +kernel
theorem dX9_behind_41 : decode cX9_behind 41 = .ok (.getfield 7, 3) := by decide +kernel
theorem dX9_behind_44 : decode cX9_behind 44 = .ok (.bipush 8, 2) := by decide +kernel
theorem dX9_behind_46 : decode cX9_behind 46 = .ok (.iaload, 1) := by decide +kernel
theorem dX9_behind_47 : decode cX9_behind 47 = .ok (.goto 35, 3) := by decide +kernel
theorem dX9_behind_50 : decode cX9_behind 50 = .ok (.iload_n 2, 1) := by decide +kernel
theorem dX9_behind_51 : decode cX9_behind 51 = .ok (.iconst 1, 1) := by decide +kernel
theorem dX9_behind_52 : decode cX9_behind 52 = .ok (.if_icmp .ne 12, 3) := by decide +kernel
theorem dX9_behind_55 : decode cX9_behind 55 = .ok (.aload_n 0, 1) := by decide +kernel
theorem dX9_behind_56 : decode cX9_behind 56 = .ok (.getfield 7, 3) := by decide +kernel
theorem dX9_behind_59 : decode cX9_behind 59 = .ok (.iconst 3, 1) := by decide +kernel
theorem dX9_behind_60 : decode cX9_behind 60 = .ok (.iaload, 1) := by decide +kernel
theorem dX9_behind_61 : decode cX9_behind 61 = .ok (.goto 21, 3) := by decide +kernel
theorem dX9_behind_64 : decode cX9_behind 64 = .ok (.iload_n 2, 1) := by decide +kernel
theorem dX9_behind_65 : decode cX9_behind 65 = .ok (.iconst 2, 1) := by decide +kernel
theorem dX9_behind_66 : decode cX9_behind 66 = .ok (.if_icmp .ne 12, 3) := by decide +kernel
theorem dX9_behind_69 : decode cX9_behind 69 = .ok (.aload_n 0, 1) := by decide +kernel
theorem dX9_behind_70 : decode cX9_behind 70 = .ok (.getfield 7, 3) := by decide +kernel
theorem dX9_behind_73 : decode cX9_behind 73 = .ok (.iconst 5, 1) := by decide +kernel
theorem dX9_behind_74 : decode cX9_behind 74 = .ok (.iaload, 1) := by decide +kernel
theorem dX9_behind_75 : decode cX9_behind 75 = .ok (.goto 7, 3) := by decide +kernel
theorem dX9_behind_78 : decode cX9_behind 78 = .ok (.aload_n 0, 1) := by decide +kernel
theorem dX9_behind_79 : decode cX9_behind 79 = .ok (.invokevirtual 191, 3) := by decide +kernel
theorem dX9_behind_82 : decode cX9_behind 82 = .ok (.istore_n 3, 1) := by decide +kernel
theorem dX9_behind_83 : decode cX9_behind 83 = .ok (.aload_n 0, 1) := by decide +kernel
theorem dX9_behind_84 : decode cX9_behind 84 = .ok (.invokevirtual 194, 3) := by decide +kernel
theorem dX9_behind_87 : decode cX9_behind 87 = .ok (.iload_n 3, 1) := by decide +kernel
theorem dX9_behind_88 : decode cX9_behind 88 = .ok (.ireturn, 1) := by decide +kernel
theorem dX9_lasts_0 : decode cX9_lasts 0 = .ok (.aload_n 0, 1) := by decide +kernel
theorem dX9_lasts_1 : decode cX9_lasts 1 = .ok (.invokevirtual 184, 3) := by decide +kernel
theorem dX9_lasts_4 : decode cX9_lasts 4 = .ok (.iconst (-1), 1) := by decide +kernel
theorem dX9_lasts_5 : decode cX9_lasts 5 = .ok (.istore_n 1, 1) := by decide +kernel
theorem dX9_lasts_6 : decode cX9_lasts 6 = .ok (.iconst 1, 1) := by decide +kernel
theorem dX9_lasts_7 : decode cX9_lasts 7 = .ok (.istore_n 2, 1) := by decide +kernel
theorem dX9_lasts_8 : decode cX9_lasts 8 = .ok (.iload_n 2, 1) := by decide +kernel
theorem dX9_lasts_9 : decode cX9_lasts 9 = .ok (.sipush 300, 3) := by decide +kernel
theorem dX9_lasts_12 : decode cX9_lasts 12 = .ok (.if_icmp .gt 30, 3) := by decide +kernel
theorem dX9_lasts_15 : decode cX9_lasts 15 = .ok (.iload_n 1, 1) := by decide +kernel
theorem dX9_lasts_16 : decode cX9_lasts 16 = .ok (.ifCond .ge 26, 3) := by decide +kernel
theorem dX9_lasts_19 : decode cX9_lasts 19 = .ok (.aload_n 0, 1) := by decide +kernel
theorem dX9_lasts_20 : decode cX9_lasts 20 = .ok (.invokevirtual 176, 3) := by decide +kernel
theorem dX9_lasts_23 : decode cX9_lasts 23 = .ok (.aload_n 0, 1) := by decide +kernel
theorem dX9_lasts_24 : decode cX9_lasts 24 = .ok (.getfield 154, 3) := by decide +kernel
theorem dX9_lasts_27 : decode cX9_lasts 27 = .ok (.ifCond .eq 7, 3) := by decide +kernel
theorem dX9_lasts_30 : decode cX9_lasts 30 = .ok (.iload_n 2, 1) := by decide +kernel
theorem dX9_lasts_31 : decode cX9_lasts 31 = .ok (.goto 4, 3) := by decide +kernel
theorem dX9_lasts_34 : decode cX9_lasts 34 = .ok (.iconst (-1), 1) := by decide +kernel
theorem dX9_lasts_35 : decode cX9_lasts 35 = .ok (.istore_n 1, 1) := by decide +kernel
theorem dX9_lasts_36 : decode cX9_lasts 36 = .ok (.iinc 2 1, 3) := by decide +kernel
theorem dX9_lasts_39 : decode cX9_lasts 39 = .ok (.goto (-31), 3) := by decide +kernel
theorem dX9_lasts_42 : decode cX9_lasts 42 = .ok (.aload_n 0, 1) := by decide +kernel
theorem dX9_lasts_43 : decode cX9_lasts 43 = .ok (.invokevirtual 194, 3) := by decide +kernel
theorem dX9_lasts_46 : decode cX9_lasts 46 = .ok (.iload_n 1, 1) := by decide +kernel
theorem dX9_lasts_47 : decode cX9_lasts 47 = .ok (.invokestatic 179, 3) := by decide +kernel
theorem dX9_lasts_50 : decode cX9_lasts 50 = .ok (.ireturn, 1) := by decide +kernel
theorem dX9_loss_0 : decode cX9_loss 0 = .ok (.aload_n 0, 1) := by decide +kernel
theorem dX9_loss_1 : decode cX9_loss 1 = .ok (.invokevirtual 184, 3) := by decide +kernel
theorem dX9_loss_4 : decode cX9_loss 4 = .ok (.iconst (-1), 1) := by decide +kernel
theorem dX9_loss_5 : decode cX9_loss 5 = .ok (.istore_n 1, 1) := by decide +kernel
theorem dX9_loss_6 : decode cX9_loss 6 = .ok (.iconst 1, 1) := by decide +kernel
theorem dX9_loss_7 : decode cX9_loss 7 = .ok (.istore_n 2, 1) := by decide +kernel
theorem dX9_loss_8 : decode cX9_loss 8 = .ok (.iload_n 2, 1) := by decide +kernel
theorem dX9_loss_9 : decode cX9_loss 9 = .ok (.sipush 300, 3) := by decide +kernel
theorem dX9_loss_12 : decode cX9_loss 12 = .ok (.if_icmp .gt 40, 3) := by decide +kernel
theorem dX9_loss_15 : decode cX9_loss 15 = .ok (.iload_n 1, 1) := by decide +kernel
theorem dX9_loss_16 : decode cX9_loss 16 = .ok (.ifCond .ge 36, 3) := by decide +kernel
theorem dX9_loss_19 : decode cX9_loss 19 = .ok (.aload_n 0, 1) := by decide +kernel
theorem dX9_loss_20 : decode cX9_loss 20 = .ok (.invokevirtual 176, 3) := by decide +kernel
theorem dX9_loss_23 : decode cX9_loss 23 = .ok (.aload_n 0, 1) := by decide +kernel
theorem dX9_loss_24 : decode cX9_loss 24 = .ok (.getfield 7, 3) := by decide +kernel
theorem dX9_loss_27 : decode cX9_loss 27 = .ok (.bipush 8, 2) := by decide +kernel
theorem dX9_loss_29 : decode cX9_loss 29 = .ok (.iaload, 1) := by decide +kernel
theorem dX9_loss_30 : decode cX9_loss 30 = .ok (.aload_n 0, 1) := by decide +kernel
theorem dX9_loss_31 : decode cX9_loss 31 = .ok (.getfield 43, 3) := by decide +kernel
theorem dX9_loss_34 : decode cX9_loss 34 = .ok (.bipush 8, 2) := by decide +kernel
theorem dX9_loss_36 : decode cX9_loss 36 = .ok (.iaload, 1) := by decide +kernel
theorem dX9_loss_37 : decode cX9_loss 37 = .ok (.if_icmp .le 7, 3) := by decide +kernel
theorem dX9_loss_40 : decode cX9_loss 40 = .ok (.iload_n 2, 1) := by decide +kernel
theorem dX9_loss_41 : decode cX9_loss 41 = .ok (.goto 4, 3) := by decide +kernel
theorem dX9_loss_44 : decode cX9_loss 44 = .ok (.iconst (-1), 1) := by decide +kernel
theorem dX9_loss_45 : decode cX9_loss 45 = .ok (.istore_n 1, 1) := by decide +kernel
theorem dX9_loss_46 : decode cX9_loss 46 = .ok (.iinc 2 1, 3) := by decide +kernel
theorem dX9_loss_49 : decode cX9_loss 49 = .ok (.goto (-41), 3) := by decide +kernel
theorem dX9_loss_52 : decode cX9_loss 52 = .ok (.aload_n 0, 1) := by decide +kernel
theorem dX9_loss_53 : decode cX9_loss 53 = .ok (.invokevirtual 194, 3) := by decide +kernel
theorem dX9_loss_56 : decode cX9_loss 56 = .ok (.iload_n 1, 1) := by decide +kernel
theorem dX9_loss_57 : decode cX9_loss 57 = .ok (.invokestatic 179, 3) := by decide +kernel
theorem dX9_loss_60 : decode cX9_loss 60 = .ok (.ireturn, 1) := by decide +kernel
