theorem dX11_init_0 : decode cX11_init 0 = .ok (.aload_n 0, 1) := by decide +kernel
theorem dX11_init_1 : decode cX11_init 1 = .ok (.invokespecial 1, 3) := by decide +kernel
theorem dX11_init_4 : decode cX11_init 4 = .ok (.aload_n 0, 1) := by decide +kernel
theorem dX11_init_5 : decode cX11_init 5 = .ok (.new 7, 3) := by decide +kernel
theorem dX11_init_8 : decode cX11_init 8 = .ok (.dup, 1) := by decide +kernel
theorem dX11_init_9 : decode cX11_init 9 = .ok (.invokespecial 9, 3) := by decide +kernel
theorem dX11_init_12 : decode cX11_init 12 = .ok (.putfield 10, 3) := by decide +kernel
theorem dX11_init_15 : decode cX11_init 15 = .ok (.aload_n 0, 1) := by decide +kernel
theorem dX11_init_16 : decode cX11_init 16 = .ok (.new 16, 3) := by decide +kernel
theorem dX11_init_19 : decode cX11_init 19 = .ok (.dup, 1) := by decide +kernel
theorem dX11_init_20 : decode cX11_init 20 = .ok (.invokespecial 18, 3) := by decide +kernel
theorem dX11_init_23 : decode cX11_init 23 = .ok (.putfield 19, 3) := by decide +kernel
theorem dX11_init_26 : decode cX11_init 26 = .ok (.aload_n 0, 1) := by decide +kernel
theorem dX11_init_27 : decode cX11_init 27 = .ok (.new 23, 3) := by decide +kernel
theorem dX11_init_30 : decode cX11_init 30 = .ok (.dup, 1) := by decide +kernel
theorem dX11_init_31 : decode cX11_init 31 = .ok (.invokespecial 25, 3) := by decide +kernel
theorem dX11_init_34 : decode cX11_init 34 = .ok (.putfield 26, 3) := by decide +kernel
theorem dX11_init_37 : decode cX11_init 37 = .ok (.aload_n 0, 1) := by decide +kernel
theorem dX11_init_38 : decode cX11_init 38 = .ok (.new 30, 3) := by decide +kernel
theorem dX11_init_41 : decode cX11_init 41 = .ok (.dup, 1) := by decide +kernel
theorem dX11_init_42 : decode cX11_init 42 = .ok (.invokespecial 32, 3) := by decide +kernel
theorem dX11_init_45 : decode cX11_init 45 = .ok (.putfield 33, 3) := by decide +kernel
theorem dX11_init_48 : decode cX11_init 48 = .ok (.aload_n 0, 1) := by decide +kernel
theorem dX11_init_49 : decode cX11_init 49 = .ok (.bipush 40, 2) := by decide +kernel
theorem dX11_init_51 : decode cX11_init 51 = .ok (.anewarray 37, 3) := by decide +kernel
theorem dX11_init_54 : decode cX11_init 54 = .ok (.putfield 39, 3) := by decide +kernel
theorem dX11_init_57 : decode cX11_init 57 = .ok (.aload_n 0, 1) := by decide +kernel
theorem dX11_init_58 : decode cX11_init 58 = .ok (.iconst 0, 1) := by decide +kernel
theorem dX11_init_59 : decode cX11_init 59 = .ok (.putfield 43, 3) := by decide +kernel
theorem dX11_init_62 : decode cX11_init 62 = .ok (.aload_n 0, 1) := by decide +kernel
theorem dX11_init_63 : decode cX11_init 63 = .ok (.new 47, 3) := by decide +kernel
theorem dX11_init_66 : decode cX11_init 66 = .ok (.dup, 1) := by decide +kernel
theorem dX11_init_67 : decode cX11_init 67 = .ok (.invokespecial 49, 3) := by decide +kernel
theorem dX11_init_70 : decode cX11_init 70 = .ok (.putfield 50, 3) := by decide +kernel
theorem dX11_init_73 : decode cX11_init 73 = .ok (.aload_n 0, 1) := by decide +kernel
theorem dX11_init_74 : decode cX11_init 74 = .ok (.new 54, 3) := by decide +kernel
theorem dX11_init_77 : decode cX11_init 77 = .ok (.dup, 1) := by decide +kernel
theorem dX11_init_78 : decode cX11_init 78 = .ok (.invokespecial 56, 3) := by decide +kernel
theorem dX11_init_81 : decode cX11_init 81 = .ok (.putfield 57, 3) := by decide +kernel
theorem dX11_init_84 : decode cX11_init 84 = .ok (.aload_n 0, 1) := by decide +kernel
theorem dX11_init_85 : decode cX11_init 85 = .ok (.new 61, 3) := by decide +kernel
theorem dX11_init_88 : decode cX11_init 88 = .ok (.dup, 1) := by decide +kernel
theorem dX11_init_89 : decode cX11_init 89 = .ok (.invokespecial 63, 3) := by decide +kernel
theorem dX11_init_92 : decode cX11_init 92 = .ok (.putfield 64, 3) := by decide +kernel
theorem dX11_init_95 : decode cX11_init 95 = .ok (.aload_n 0, 1) := by decide +kernel
theorem dX11_init_96 : decode cX11_init 96 = .ok (.new 68, 3) := by decide +kernel
theorem dX11_init_99 : decode cX11_init 99 = .ok (.dup, 1) := by decide +kernel
theorem dX11_init_100 : decode cX11_init 100 = .ok (.invokespecial 70, 3) := by decide +kernel
theorem dX11_init_103 : decode cX11_init 103 = .ok (.putfield 71, 3) := by decide +kernel
theorem dX11_init_106 : decode cX11_init 106 = .ok (.aload_n 0, 1) := by decide +kernel
theorem dX11_init_107 : decode cX11_init 107 = .ok (.new 75, 3) := by decide +kernel
theorem dX11_init_110 : decode cX11_init 110 = .ok (.dup, 1) := by decide +kernel
theorem dX11_init_111 : decode cX11_init 111 = .ok (.invokespecial 77, 3) := by decide +kernel
theorem dX11_init_114 : decode cX11_init 114 = .ok (.putfield 78, 3) := by decide +kernel
theorem dX11_init_117 : decode cX11_init 117 = .ok (.aload_n 0, 1) := by decide +kernel
theorem dX11_init_118 : decode cX11_init 118 = .ok (.iconst 5, 1) := by decide +kernel
theorem dX11_init_119 : decode cX11_init 119 = .ok (.iconst 3, 1) := by decide +kernel
theorem dX11_init_120 : decode cX11_init 120 = .ok (.multianewarray 82 2, 4) := by decide +kernel
theorem dX11_init_124 : decode cX11_init 124 = .ok (.putfield 84, 3) := by decide +kernel
theorem dX11_init_127 : decode cX11_init 127 = .ok (.aload_n 0, 1) := by decide +kernel
theorem dX11_init_128 : decode cX11_init 128 = .ok (.iconst 5, 1) := by decide +kernel
theorem dX11_init_129 : decode cX11_init 129 = .ok (.newarray .int, 2) := by decide +kernel
theorem dX11_init_131 : decode cX11_init 131 = .ok (.dup, 1) := by decide +kernel
theorem dX11_init_132 : decode cX11_init 132 = .ok (.iconst 0, 1) := by decide +kernel
theorem dX11_init_133 : decode cX11_init 133 = .ok (.iconst 3, 1) := by decide +kernel
theorem dX11_init_134 : decode cX11_init 134 = .ok (.iastore, 1) := by decide +kernel
theorem dX11_init_135 : decode cX11_init 135 = .ok (.dup, 1) := by decide +kernel
theorem dX11_init_136 : decode cX11_init 136 = .ok (.iconst 1, 1) := by decide +kernel
theorem dX11_init_137 : decode cX11_init 137 = .ok (.bipush 30, 2) := by decide +kernel
theorem dX11_init_139 : decode cX11_init 139 = .ok (.iastore, 1) := by decide +kernel
theorem dX11_init_140 : decode cX11_init 140 = .ok (.dup, 1) := by decide +kernel
theorem dX11_init_141 : decode cX11_init 141 = .ok (.iconst 2, 1) := by decide +kernel
theorem dX11_init_142 : decode cX11_init 142 = .ok (.bipush 14, 2) := by decide +kernel
theorem dX11_init_144 : decode cX11_init 144 = .ok (.iastore, 1) := by decide +kernel
theorem dX11_init_145 : decode cX11_init 145 = .ok (.dup, 1) := by decide +kernel
theorem dX11_init_146 : decode cX11_init 146 = .ok (.iconst 3, 1) := by decide +kernel
theorem dX11_init_147 : decode cX11_init 147 = .ok (.iconst 3, 1) := by decide +kernel
theorem dX11_init_148 : decode cX11_init 148 = .ok (.iastore, 1) := by decide +kernel
theorem dX11_init_149 : decode cX11_init 149 = .ok (.dup, 1) := by decide +kernel
theorem dX11_init_150 : decode cX11_init 150 = .ok (.iconst 4, 1) := by decide +kernel
theorem dX11_init_151 : decode cX11_init 151 = .ok (.iconst 3, 1) := by decide +kernel
theorem dX11_init_152 : decode cX11_init 152 = .ok (.iastore, 1) := by decide +kernel
theorem dX11_init_153 : decode cX11_init 153 = .ok (.putfield 87, 3) := by decide +kernel
theorem dX11_init_156 : decode cX11_init 156 = .ok (.aload_n 0, 1) := by decide +kernel
theorem dX11_init_157 : decode cX11_init 157 = .ok (.bipush 40, 2) := by decide +kernel
theorem dX11_init_159 : decode cX11_init 159 = .ok (.newarray .int, 2) := by decide +kernel
theorem dX11_init_161 : decode cX11_init 161 = .ok (.putfield 91, 3) := by decide +kernel
theorem dX11_init_164 : decode cX11_init 164 = .ok (.aload_n 0, 1) := by decide +kernel
theorem dX11_init_165 : decode cX11_init 165 = .ok (.iconst 0, 1) := by decide +kernel
theorem dX11_init_166 : decode cX11_init 166 = .ok (.putfield 94, 3) := by decide +kernel
theorem dX11_init_169 : decode cX11_init 169 = .ok (.aload_n 0, 1) := by decide +kernel
theorem dX11_init_170 : decode cX11_init 170 = .ok (.bipush 7, 2) := by decide +kernel
theorem dX11_init_172 : decode cX11_init 172 = .ok (.newarray .int, 2) := by decide +kernel
theorem dX11_init_174 : decode cX11_init 174 = .ok (.putfield 97, 3) := by decide +kernel
theorem dX11_init_177 : decode cX11_init 177 = .ok (.iconst 0, 1) := by decide +kernel
theorem dX11_init_178 : decode cX11_init 178 = .ok (.istore_n 1, 1) := by decide +kernel
theorem dX11_init_179 : decode cX11_init 179 = .ok (.iload_n 1, 1) := by decide +kernel
theorem dX11_init_180 : decode cX11_init 180 = .ok (.bipush 40, 2) := by decide +kernel
theorem dX11_init_182 : decode cX11_init 182 = .ok (.if_icmp .ge 30, 3) := by decide +kernel
theorem dX11_init_185 : decode cX11_init 185 = .ok (.aload_n 0, 1) := by decide +kernel
theorem dX11_init_186 : decode cX11_init 186 = .ok (.getfield 39, 3) := by decide +kernel
theorem dX11_init_189 : decode cX11_init 189 = .ok (.iload_n 1, 1) := by decide +kernel
theorem dX11_init_190 : decode cX11_init 190 = .ok (.new 37, 3) := by decide +kernel
theorem dX11_init_193 : decode cX11_init 193 = .ok (.dup, 1) := by decide +kernel
theorem dX11_init_194 : decode cX11_init 194 = .ok (.aload_n 0, 1) := by decide +kernel
theorem dX11_init_195 : decode cX11_init 195 = .ok (.getfield 10, 3) := by decide +kernel
theorem dX11_init_198 : decode cX11_init 198 = .ok (.aload_n 0, 1) := by decide +kernel
theorem dX11_init_199 : decode cX11_init 199 = .ok (.getfield 33, 3) := by decide +kernel
theorem dX11_init_202 : decode cX11_init 202 = .ok (.invokespecial 100, 3) := by decide +kernel
theorem dX11_init_205 : decode cX11_init 205 = .ok (.aastore, 1) := by decide +kernel
theorem dX11_init_206 : decode cX11_init 206 = .ok (.iinc 1 1, 3) := by decide +kernel
theorem dX11_init_209 : decode cX11_init 209 = .ok (.goto (-30), 3) := by decide +kernel
theorem dX11_init_212 : decode cX11_init 212 = .ok (.iconst 0, 1) := by decide +kernel
theorem dX11_init_213 : decode cX11_init 213 = .ok (.istore_n 1, 1) := by decide +kernel
theorem dX11_init_214 : decode cX11_init 214 = .ok (.iload_n 1, 1) := by decide +kernel
theorem dX11_init_215 : decode cX11_init 215 = .ok (.iconst 5, 1) := by decide +kernel
theorem dX11_init_216 : decode cX11_init 216 = .ok (.if_icmp .ge 41, 3) := by decide +kernel
theorem dX11_init_219 : decode cX11_init 219 = .ok (.aload_n 0, 1) := by decide +kernel
theorem dX11_init_220 : decode cX11_init 220 = .ok (.getfield 84, 3) := by decide +kernel
theorem dX11_init_223 : decode cX11_init 223 = .ok (.iload_n 1, 1) := by decide +kernel
theorem dX11_init_224 : decode cX11_init 224 = .ok (.aaload, 1) := by decide +kernel
theorem dX11_init_225 : decode cX11_init 225 = .ok (.iconst 1, 1) := by decide +kernel
theorem dX11_init_226 : decode cX11_init 226 = .ok (.iconst 5, 1) := by decide +kernel
theorem dX11_init_227 : decode cX11_init 227 = .ok (.iastore, 1) := by decide +kernel
theorem dX11_init_228 : decode cX11_init 228 = .ok (.aload_n 0, 1) := by decide +kernel
theorem dX11_init_229 : decode cX11_init 229 = .ok (.getfield 84, 3) := by decide +kernel
theorem dX11_init_232 : decode cX11_init 232 = .ok (.iload_n 1, 1) := by decide +kernel
theorem dX11_init_233 : decode cX11_init 233 = .ok (.aaload, 1) := by decide +kernel
theorem dX11_init_234 : decode cX11_init 234 = .ok (.iconst 2, 1) := by decide +kernel
theorem dX11_init_235 : decode cX11_init 235 = .ok (.iload_n 1, 1) := by decide +kernel
theorem dX11_init_236 : decode cX11_init 236 = .ok (.iconst 1, 1) := by decide +kernel
theorem dX11_init_237 : decode cX11_init 237 = .ok (.if_icmp .eq 8, 3) := by decide +kernel
theorem dX11_init_240 : decode cX11_init 240 = .ok (.iload_n 1, 1) := by decide +kernel
theorem dX11_init_241 : decode cX11_init 241 = .ok (.iconst 2, 1) := by decide +kernel
theorem dX11_init_242 : decode cX11_init 242 = .ok (.if_icmp .ne 7, 3) := by decide +kernel
theorem dX11_init_245 : decode cX11_init 245 = .ok (.iconst 1, 1) := by decide +kernel
theorem dX11_init_246 : decode cX11_init 246 = .ok (.goto 4, 3) := by decide +kernel
theorem dX11_init_249 : decode cX11_init 249 = .ok (.iconst 0, 1) := by decide +kernel
theorem dX11_init_250 : decode cX11_init 250 = .ok (.iastore, 1) := by decide +kernel
theorem dX11_init_251 : decode cX11_init 251 = .ok (.iinc 1 1, 3) := by decide +kernel
theorem dX11_init_254 : decode cX11_init 254 = .ok (.goto (-40), 3) := by decide +kernel
theorem dX11_init_257 : decode cX11_init 257 = .ok (.return_, 1) := by decide +kernel
theorem dX11_days_0 : decode cX11_days 0 = .ok (.iload_n 1, 1) := by decide +kernel
theorem dX11_days_1 : decode cX11_days 1 = .ok (.iconst 1, 1) := by decide +kernel
theorem dX11_days_2 : decode cX11_days 2 = .ok (.if_icmp .ge 10, 3) := by decide +kernel
theorem dX11_days_5 : decode cX11_days 5 = .ok (.aload_n 0, 1) := by decide +kernel
theorem dX11_days_6 : decode cX11_days 6 = .ok (.bipush (-4), 2) := by decide +kernel
theorem dX11_days_8 : decode cX11_days 8 = .ok (.invokevirtual 103, 3) := by decide +kernel
theorem dX11_days_11 : decode cX11_days 11 = .ok (.ireturn, 1) := by decide +kernel
theorem dX11_days_12 : decode cX11_days 12 = .ok (.iload_n 1, 1) := by decide +kernel
theorem dX11_days_13 : decode cX11_days 13 = .ok (.sipush 1000, 3) := by decide +kernel
theorem dX11_days_16 : decode cX11_days 16 = .ok (.aload_n 0, 1) := by decide +kernel
theorem dX11_days_17 : decode cX11_days 17 = .ok (.getfield 10, 3) := by decide +kernel
theorem dX11_days_20 : decode cX11_days 20 = .ok (.getfield 107, 3) := by decide +kernel
theorem dX11_days_23 : decode cX11_days 23 = .ok (.isub, 1) := by decide +kernel
theorem dX11_days_24 : decode cX11_days 24 = .ok (.if_icmp .le 10, 3) := by decide +kernel
theorem dX11_days_27 : decode cX11_days 27 = .ok (.aload_n 0, 1) := by decide +kernel
theorem dX11_days_28 : decode cX11_days 28 = .ok (.bipush (-6), 2) := by decide +kernel
theorem dX11_days_30 : decode cX11_days 30 = .ok (.invokevirtual 103, 3) := by decide +kernel
theorem dX11_days_33 : decode cX11_days 33 = .ok (.ireturn, 1) := by decide +kernel
theorem dX11_days_34 : decode cX11_days 34 = .ok (.aload_n 0, 1) := by decide +kernel
theorem dX11_days_35 : decode cX11_days 35 = .ok (.getfield 10, 3) := by decide +kernel
theorem dX11_days_38 : decode cX11_days 38 = .ok (.dup, 1) := by decide +kernel
theorem dX11_days_39 : decode cX11_days 39 = .ok (.getfield 107, 3) := by decide +kernel
theorem dX11_days_42 : decode cX11_days 42 = .ok (.iload_n 1, 1) := by decide +kernel
theorem dX11_days_43 : decode cX11_days 43 = .ok (.iadd, 1) := by decide +kernel
theorem dX11_days_44 : decode cX11_days 44 = .ok (.putfield 107, 3) := by decide +kernel
theorem dX11_days_47 : decode cX11_days 47 = .ok (.aload_n 0, 1) := by decide +kernel
theorem dX11_days_48 : decode cX11_days 48 = .ok (.getfield 10, 3) := by decide +kernel
theorem dX11_days_51 : decode cX11_days 51 = .ok (.getfield 107, 3) := by decide +kernel
theorem dX11_days_54 : decode cX11_days 54 = .ok (.ireturn, 1) := by decide +kernel
theorem dX11_feast_0 : decode cX11_feast 0 = .ok (.iload_n 1, 1) := by decide +kernel
theorem dX11_feast_1 : decode cX11_feast 1 = .ok (.iconst 0, 1) := by decide +kernel
theorem dX11_feast_2 : decode cX11_feast 2 = .ok (.sipush 1000, 3) := by decide +kernel
theorem dX11_feast_5 : decode cX11_feast 5 = .ok (.invokestatic 110, 3) := by decide +kernel
theorem dX11_feast_8 : decode cX11_feast 8 = .ok (.istore_n 2, 1) := by decide +kernel
theorem dX11_feast_9 : decode cX11_feast 9 = .ok (.iload_n 2, 1) := by decide +kernel
theorem dX11_feast_10 : decode cX11_feast 10 = .ok (.ifCond .eq 9, 3) := by decide +kernel
theorem dX11_feast_13 : decode cX11_feast 13 = .ok (.aload_n 0, 1) := by decide +kernel
theorem dX11_feast_14 : decode cX11_feast 14 = .ok (.iload_n 2, 1) := by decide +kernel
theorem dX11_feast_15 : decode cX11_feast 15 = .ok (.invokevirtual 103, 3) := by decide +kernel
theorem dX11_feast_18 : decode cX11_feast 18 = .ok (.ireturn, 1) := by decide +kernel
theorem dX11_feast_19 : decode cX11_feast 19 = .ok (.aload_n 0, 1) := by decide +kernel
theorem dX11_feast_20 : decode cX11_feast 20 = .ok (.getfield 10, 3) := by decide +kernel
theorem dX11_feast_23 : decode cX11_feast 23 = .ok (.iload_n 1, 1) := by decide +kernel
theorem dX11_feast_24 : decode cX11_feast 24 = .ok (.invokevirtual 114, 3) := by decide +kernel
theorem dX11_feast_27 : decode cX11_feast 27 = .ok (.ifCond .eq 7, 3) := by decide +kernel
theorem dX11_feast_30 : decode cX11_feast 30 = .ok (.iconst 1, 1) := by decide +kernel
theorem dX11_feast_31 : decode cX11_feast 31 = .ok (.goto 4, 3) := by decide +kernel
theorem dX11_feast_34 : decode cX11_feast 34 = .ok (.iconst 0, 1) := by decide +kernel
theorem dX11_feast_35 : decode cX11_feast 35 = .ok (.ireturn, 1) := by decide +kernel
theorem dX11_workdays_0 : decode cX11_workdays 0 = .ok (.iload_n 1, 1) := by decide +kernel
theorem dX11_workdays_1 : decode cX11_workdays 1 = .ok (.iconst 0, 1) := by decide +kernel
theorem dX11_workdays_2 : decode cX11_workdays 2 = .ok (.sipush 1000, 3) := by decide +kernel
theorem dX11_workdays_5 : decode cX11_workdays 5 = .ok (.invokestatic 110, 3) := by decide +kernel
theorem dX11_workdays_8 : decode cX11_workdays 8 = .ok (.iload_n 2, 1) := by decide +kernel
theorem dX11_workdays_9 : decode cX11_workdays 9 = .ok (.iconst 0, 1) := by decide +kernel
theorem dX11_workdays_10 : decode cX11_workdays 10 = .ok (.sipush 1000, 3) := by decide +kernel
theorem dX11_workdays_13 : decode cX11_workdays 13 = .ok (.invokestatic 110, 3) := by decide +kernel
theorem dX11_workdays_16 : decode cX11_workdays 16 = .ok (.invokestatic 118, 3) := by decide +kernel
theorem dX11_workdays_19 : decode cX11_workdays 19 = .ok (.istore_n 3, 1) := by decide +kernel
theorem dX11_workdays_20 : decode cX11_workdays 20 = .ok (.iload_n 3, 1) := by decide +kernel
theorem dX11_workdays_21 : decode cX11_workdays 21 = .ok (.ifCond .eq 9, 3) := by decide +kernel
theorem dX11_workdays_24 : decode cX11_workdays 24 = .ok (.aload_n 0, 1) := by decide +kernel
theorem dX11_workdays_25 : decode cX11_workdays 25 = .ok (.iload_n 3, 1) := by decide +kernel
theorem dX11_workdays_26 : decode cX11_workdays 26 = .ok (.invokevirtual 103, 3) := by decide +kernel
theorem dX11_workdays_29 : decode cX11_workdays 29 = .ok (.ireturn, 1) := by decide +kernel
theorem dX11_workdays_30 : decode cX11_workdays 30 = .ok (.aload_n 0, 1) := by decide +kernel
theorem dX11_workdays_31 : decode cX11_workdays 31 = .ok (.getfield 10, 3) := by decide +kernel
theorem dX11_workdays_34 : decode cX11_workdays 34 = .ok (.iload_n 1, 1) := by decide +kernel
theorem dX11_workdays_35 : decode cX11_workdays 35 = .ok (.iload_n 2, 1) := by decide +kernel
theorem dX11_workdays_36 : decode cX11_workdays 36 = .ok (.invokevirtual 122, 3) := by decide +kernel
theorem dX11_workdays_39 : decode cX11_workdays 39 = .ok (.ireturn, 1) := by decide +kernel
theorem dX11_person_0 : decode cX11_person 0 = .ok (.iload_n 1, 1) := by decide +kernel
theorem dX11_person_1 : decode cX11_person 1 = .ok (.invokestatic 125, 3) := by decide +kernel
theorem dX11_person_4 : decode cX11_person 4 = .ok (.ifCond .ne 9, 3) := by decide +kernel
theorem dX11_person_7 : decode cX11_person 7 = .ok (.aload_n 0, 1) := by decide +kernel
theorem dX11_person_8 : decode cX11_person 8 = .ok (.iconst (-1), 1) := by decide +kernel
theorem dX11_person_9 : decode cX11_person 9 = .ok (.invokevirtual 103, 3) := by decide +kernel
theorem dX11_person_12 : decode cX11_person 12 = .ok (.ireturn, 1) := by decide +kernel
theorem dX11_person_13 : decode cX11_person 13 = .ok (.iload_n 2, 1) := by decide +kernel
theorem dX11_person_14 : decode cX11_person 14 = .ok (.sipush (-25000), 3) := by decide +kernel
theorem dX11_person_17 : decode cX11_person 17 = .ok (.sipush (-5000), 3) := by decide +kernel
theorem dX11_person_20 : decode cX11_person 20 = .ok (.invokestatic 110, 3) := by decide +kernel
theorem dX11_person_23 : decode cX11_person 23 = .ok (.iload_n 3, 1) := by decide +kernel
theorem dX11_person_24 : decode cX11_person 24 = .ok (.sipush (-15000), 3) := by decide +kernel
theorem dX11_person_27 : decode cX11_person 27 = .ok (.aload_n 0, 1) := by decide +kernel
theorem dX11_person_28 : decode cX11_person 28 = .ok (.getfield 10, 3) := by decide +kernel
theorem dX11_person_31 : decode cX11_person 31 = .ok (.getfield 107, 3) := by decide +kernel
theorem dX11_person_34 : decode cX11_person 34 = .ok (.invokestatic 110, 3) := by decide +kernel
theorem dX11_person_37 : decode cX11_person 37 = .ok (.invokestatic 118, 3) := by decide +kernel
theorem dX11_person_40 : decode cX11_person 40 = .ok (.istore 6, 2) := by decide +kernel
theorem dX11_person_42 : decode cX11_person 42 = .ok (.iload 6, 2) := by decide +kernel
theorem dX11_person_44 : decode cX11_person 44 = .ok (.iload 4, 2) := by decide +kernel
theorem dX11_person_46 : decode cX11_person 46 = .ok (.iconst 0, 1) := by decide +kernel
theorem dX11_person_47 : decode cX11_person 47 = .ok (.bipush 9, 2) := by decide +kernel
theorem dX11_person_49 : decode cX11_person 49 = .ok (.invokestatic 110, 3) := by decide +kernel
theorem dX11_person_52 : decode cX11_person 52 = .ok (.iload 5, 2) := by decide +kernel
theorem dX11_person_54 : decode cX11_person 54 = .ok (.iconst 0, 1) := by decide +kernel
theorem dX11_person_55 : decode cX11_person 55 = .ok (.bipush 100, 2) := by decide +kernel
theorem dX11_person_57 : decode cX11_person 57 = .ok (.invokestatic 110, 3) := by decide +kernel
theorem dX11_person_60 : decode cX11_person 60 = .ok (.invokestatic 118, 3) := by decide +kernel
theorem dX11_person_63 : decode cX11_person 63 = .ok (.invokestatic 118, 3) := by decide +kernel
theorem dX11_person_66 : decode cX11_person 66 = .ok (.istore 6, 2) := by decide +kernel
theorem dX11_person_68 : decode cX11_person 68 = .ok (.iload 6, 2) := by decide +kernel
theorem dX11_person_70 : decode cX11_person 70 = .ok (.aload_n 0, 1) := by decide +kernel
theorem dX11_person_71 : decode cX11_person 71 = .ok (.getfield 19, 3) := by decide +kernel
theorem dX11_person_74 : decode cX11_person 74 = .ok (.getfield 128, 3) := by decide +kernel
theorem dX11_person_77 : decode cX11_person 77 = .ok (.bipush 24, 2) := by decide +kernel
theorem dX11_person_79 : decode cX11_person 79 = .ok (.invokestatic 131, 3) := by decide +kernel
theorem dX11_person_82 : decode cX11_person 82 = .ok (.invokestatic 118, 3) := by decide +kernel
theorem dX11_person_85 : decode cX11_person 85 = .ok (.istore 6, 2) := by decide +kernel
theorem dX11_person_87 : decode cX11_person 87 = .ok (.iload 6, 2) := by decide +kernel
theorem dX11_person_89 : decode cX11_person 89 = .ok (.ifCond .eq 10, 3) := by decide +kernel
theorem dX11_person_92 : decode cX11_person 92 = .ok (.aload_n 0, 1) := by decide +kernel
theorem dX11_person_93 : decode cX11_person 93 = .ok (.iload 6, 2) := by decide +kernel
theorem dX11_person_95 : decode cX11_person 95 = .ok (.invokevirtual 103, 3) := by decide +kernel
theorem dX11_person_98 : decode cX11_person 98 = .ok (.ireturn, 1) := by decide +kernel
theorem dX11_person_99 : decode cX11_person 99 = .ok (.aload_n 0, 1) := by decide +kernel
theorem dX11_person_100 : decode cX11_person 100 = .ok (.getfield 64, 3) := by decide +kernel
theorem dX11_person_103 : decode cX11_person 103 = .ok (.invokevirtual 134, 3) := by decide +kernel
theorem dX11_person_106 : decode cX11_person 106 = .ok (.aload_n 0, 1) := by decide +kernel
theorem dX11_person_107 : decode cX11_person 107 = .ok (.getfield 19, 3) := by decide +kernel
theorem dX11_person_110 : decode cX11_person 110 = .ok (.iload_n 1, 1) := by decide +kernel
theorem dX11_person_111 : decode cX11_person 111 = .ok (.iload_n 2, 1) := by decide +kernel
theorem dX11_person_112 : decode cX11_person 112 = .ok (.iload_n 3, 1) := by decide +kernel
theorem dX11_person_113 : decode cX11_person 113 = .ok (.iload 4, 2) := by decide +kernel
theorem dX11_person_115 : decode cX11_person 115 = .ok (.iload 5, 2) := by decide +kernel
theorem dX11_person_117 : decode cX11_person 117 = .ok (.invokevirtual 137, 3) := by decide +kernel
theorem dX11_person_120 : decode cX11_person 120 = .ok (.ireturn, 1) := by decide +kernel
theorem dX11_leave_0 : decode cX11_leave 0 = .ok (.aload_n 0, 1) := by decide +kernel
theorem dX11_leave_1 : decode cX11_leave 1 = .ok (.getfield 19, 3) := by decide +kernel
theorem dX11_leave_4 : decode cX11_leave 4 = .ok (.iload_n 1, 1) := by decide +kernel
theorem dX11_leave_5 : decode cX11_leave 5 = .ok (.invokevirtual 141, 3) := by decide +kernel
theorem dX11_leave_8 : decode cX11_leave 8 = .ok (.ifCond .ne 9, 3) := by decide +kernel
theorem dX11_leave_11 : decode cX11_leave 11 = .ok (.aload_n 0, 1) := by decide +kernel
theorem dX11_leave_12 : decode cX11_leave 12 = .ok (.iconst (-1), 1) := by decide +kernel
theorem dX11_leave_13 : decode cX11_leave 13 = .ok (.invokevirtual 103, 3) := by decide +kernel
theorem dX11_leave_16 : decode cX11_leave 16 = .ok (.ireturn, 1) := by decide +kernel
theorem dX11_leave_17 : decode cX11_leave 17 = .ok (.aload_n 0, 1) := by decide +kernel
theorem dX11_leave_18 : decode cX11_leave 18 = .ok (.getfield 19, 3) := by decide +kernel
theorem dX11_leave_21 : decode cX11_leave 21 = .ok (.getfield 144, 3) := by decide +kernel
theorem dX11_leave_24 : decode cX11_leave 24 = .ok (.iload_n 1, 1) := by decide +kernel
theorem dX11_leave_25 : decode cX11_leave 25 = .ok (.baload, 1) := by decide +kernel
theorem dX11_leave_26 : decode cX11_leave 26 = .ok (.ifCond .ne 10, 3) := by decide +kernel
theorem dX11_leave_29 : decode cX11_leave 29 = .ok (.aload_n 0, 1) := by decide +kernel
theorem dX11_leave_30 : decode cX11_leave 30 = .ok (.bipush (-3), 2) := by decide +kernel
theorem dX11_leave_32 : decode cX11_leave 32 = .ok (.invokevirtual 103, 3) := by decide +kernel
theorem dX11_leave_35 : decode cX11_leave 35 = .ok (.ireturn, 1) := by decide +kernel
theorem dX11_leave_36 : decode cX11_leave 36 = .ok (.aload_n 0, 1) := by decide +kernel
theorem dX11_leave_37 : decode cX11_leave 37 = .ok (.getfield 19, 3) := by decide +kernel
theorem dX11_leave_40 : decode cX11_leave 40 = .ok (.getfield 144, 3) := by decide +kernel
theorem dX11_leave_43 : decode cX11_leave 43 = .ok (.iload_n 1, 1) := by decide +kernel
theorem dX11_leave_44 : decode cX11_leave 44 = .ok (.iconst 0, 1) := by decide +kernel
theorem dX11_leave_45 : decode cX11_leave 45 = .ok (.bastore, 1) := by decide +kernel
theorem dX11_leave_46 : decode cX11_leave 46 = .ok (.aload_n 0, 1) := by decide +kernel
theorem dX11_leave_47 : decode cX11_leave 47 = .ok (.getfield 64, 3) := by decide +kernel
theorem dX11_leave_50 : decode cX11_leave 50 = .ok (.invokevirtual 134, 3) := by decide +kernel
theorem dX11_leave_53 : decode cX11_leave 53 = .ok (.iconst 1, 1) := by decide +kernel
theorem dX11_leave_54 : decode cX11_leave 54 = .ok (.ireturn, 1) := by decide +kernel
theorem dX11_feed_0 : decode cX11_feed 0 = .ok (.iload_n 1, 1) := by decide +kernel
theorem dX11_feed_1 : decode cX11_feed 1 = .ok (.iconst 1, 1) := by decide +kernel
theorem dX11_feed_2 : decode cX11_feed 2 = .ok (.if_icmp .ge 10, 3) := by decide +kernel
theorem dX11_feed_5 : decode cX11_feed 5 = .ok (.aload_n 0, 1) := by decide +kernel
theorem dX11_feed_6 : decode cX11_feed 6 = .ok (.bipush (-4), 2) := by decide +kernel
theorem dX11_feed_8 : decode cX11_feed 8 = .ok (.invokevirtual 103, 3) := by decide +kernel
theorem dX11_feed_11 : decode cX11_feed 11 = .ok (.ireturn, 1) := by decide +kernel
theorem dX11_feed_12 : decode cX11_feed 12 = .ok (.iload_n 1, 1) := by decide +kernel
theorem dX11_feed_13 : decode cX11_feed 13 = .ok (.bipush 8, 2) := by decide +kernel
theorem dX11_feed_15 : decode cX11_feed 15 = .ok (.if_icmp .gt 17, 3) := by decide +kernel
theorem dX11_feed_18 : decode cX11_feed 18 = .ok (.aload_n 0, 1) := by decide +kernel
theorem dX11_feed_19 : decode cX11_feed 19 = .ok (.getfield 26, 3) := by decide +kernel
theorem dX11_feed_22 : decode cX11_feed 22 = .ok (.invokevirtual 148, 3) := by decide +kernel
theorem dX11_feed_25 : decode cX11_feed 25 = .ok (.iload_n 1, 1) := by decide +kernel
theorem dX11_feed_26 : decode cX11_feed 26 = .ok (.iadd, 1) := by decide +kernel
theorem dX11_feed_27 : decode cX11_feed 27 = .ok (.bipush 60, 2) := by decide +kernel
theorem dX11_feed_29 : decode cX11_feed 29 = .ok (.if_icmp .le 10, 3) := by decide +kernel
theorem dX11_feed_32 : decode cX11_feed 32 = .ok (.aload_n 0, 1) := by decide +kernel
theorem dX11_feed_33 : decode cX11_feed 33 = .ok (.bipush (-6), 2) := by decide +kernel
theorem dX11_feed_35 : decode cX11_feed 35 = .ok (.invokevirtual 103, 3) := by decide +kernel
theorem dX11_feed_38 : decode cX11_feed 38 = .ok (.ireturn, 1) := by decide +kernel
theorem dX11_feed_39 : decode cX11_feed 39 = .ok (.aload_n 0, 1) := by decide +kernel
theorem dX11_feed_40 : decode cX11_feed 40 = .ok (.getfield 26, 3) := by decide +kernel
theorem dX11_feed_43 : decode cX11_feed 43 = .ok (.iload_n 1, 1) := by decide +kernel
theorem dX11_feed_44 : decode cX11_feed 44 = .ok (.lload_n 2, 1) := by decide +kernel
theorem dX11_feed_45 : decode cX11_feed 45 = .ok (.invokevirtual 152, 3) := by decide +kernel
theorem dX11_feed_48 : decode cX11_feed 48 = .ok (.ireturn, 1) := by decide +kernel
theorem dX11_act_0 : decode cX11_act 0 = .ok (.iload_n 1, 1) := by decide +kernel
theorem dX11_act_1 : decode cX11_act 1 = .ok (.aload_n 0, 1) := by decide +kernel
theorem dX11_act_2 : decode cX11_act 2 = .ok (.getfield 10, 3) := by decide +kernel
theorem dX11_act_5 : decode cX11_act 5 = .ok (.getfield 107, 3) := by decide +kernel
theorem dX11_act_8 : decode cX11_act 8 = .ok (.sipush 1000, 3) := by decide +kernel
theorem dX11_act_11 : decode cX11_act 11 = .ok (.invokestatic 110, 3) := by decide +kernel
theorem dX11_act_14 : decode cX11_act 14 = .ok (.aload_n 0, 1) := by decide +kernel
theorem dX11_act_15 : decode cX11_act 15 = .ok (.getfield 26, 3) := by decide +kernel
theorem dX11_act_18 : decode cX11_act 18 = .ok (.getfield 156, 3) := by decide +kernel
theorem dX11_act_21 : decode cX11_act 21 = .ok (.bipush 24, 2) := by decide +kernel
theorem dX11_act_23 : decode cX11_act 23 = .ok (.invokestatic 131, 3) := by decide +kernel
theorem dX11_act_26 : decode cX11_act 26 = .ok (.invokestatic 118, 3) := by decide +kernel
theorem dX11_act_29 : decode cX11_act 29 = .ok (.istore_n 2, 1) := by decide +kernel
theorem dX11_act_30 : decode cX11_act 30 = .ok (.iload_n 2, 1) := by decide +kernel
theorem dX11_act_31 : decode cX11_act 31 = .ok (.ifCond .eq 9, 3) := by decide +kernel
theorem dX11_act_34 : decode cX11_act 34 = .ok (.aload_n 0, 1) := by decide +kernel
theorem dX11_act_35 : decode cX11_act 35 = .ok (.iload_n 2, 1) := by decide +kernel
theorem dX11_act_36 : decode cX11_act 36 = .ok (.invokevirtual 103, 3) := by decide +kernel
theorem dX11_act_39 : decode cX11_act 39 = .ok (.ireturn, 1) := by decide +kernel
theorem dX11_act_40 : decode cX11_act 40 = .ok (.aload_n 0, 1) := by decide +kernel
theorem dX11_act_41 : decode cX11_act 41 = .ok (.getfield 26, 3) := by decide +kernel
theorem dX11_act_44 : decode cX11_act 44 = .ok (.invokevirtual 157, 3) := by decide +kernel
theorem dX11_act_47 : decode cX11_act 47 = .ok (.istore_n 3, 1) := by decide +kernel
theorem dX11_act_48 : decode cX11_act 48 = .ok (.iload_n 3, 1) := by decide +kernel
theorem dX11_act_49 : decode cX11_act 49 = .ok (.bipush (-9), 2) := by decide +kernel
theorem dX11_act_51 : decode cX11_act 51 = .ok (.if_icmp .eq 15, 3) := by decide +kernel
theorem dX11_act_54 : decode cX11_act 54 = .ok (.aload_n 0, 1) := by decide +kernel
theorem dX11_act_55 : decode cX11_act 55 = .ok (.getfield 26, 3) := by decide +kernel
theorem dX11_act_58 : decode cX11_act 58 = .ok (.invokevirtual 160, 3) := by decide +kernel
theorem dX11_act_61 : decode cX11_act 61 = .ok (.bipush (-20), 2) := by decide +kernel
theorem dX11_act_63 : decode cX11_act 63 = .ok (.iload_n 3, 1) := by decide +kernel
theorem dX11_act_64 : decode cX11_act 64 = .ok (.isub, 1) := by decide +kernel
theorem dX11_act_65 : decode cX11_act 65 = .ok (.ireturn, 1) := by decide +kernel
theorem dX11_act_66 : decode cX11_act 66 = .ok (.aload_n 0, 1) := by decide +kernel
theorem dX11_act_67 : decode cX11_act 67 = .ok (.getfield 26, 3) := by decide +kernel
theorem dX11_act_70 : decode cX11_act 70 = .ok (.iload_n 1, 1) := by decide +kernel
theorem dX11_act_71 : decode cX11_act 71 = .ok (.invokevirtual 163, 3) := by decide +kernel
theorem dX11_act_74 : decode cX11_act 74 = .ok (.ireturn, 1) := by decide +kernel
theorem dX11_strike_0 : decode cX11_strike 0 = .ok (.iload_n 1, 1) := by decide +kernel
theorem dX11_strike_1 : decode cX11_strike 1 = .ok (.ifCond .lt 14, 3) := by decide +kernel
theorem dX11_strike_4 : decode cX11_strike 4 = .ok (.iload_n 1, 1) := by decide +kernel
theorem dX11_strike_5 : decode cX11_strike 5 = .ok (.aload_n 0, 1) := by decide +kernel
theorem dX11_strike_6 : decode cX11_strike 6 = .ok (.getfield 26, 3) := by decide +kernel
theorem dX11_strike_9 : decode cX11_strike 9 = .ok (.getfield 156, 3) := by decide +kernel
theorem dX11_strike_12 : decode cX11_strike 12 = .ok (.if_icmp .lt 9, 3) := by decide +kernel
theorem dX11_strike_15 : decode cX11_strike 15 = .ok (.aload_n 0, 1) := by decide +kernel
theorem dX11_strike_16 : decode cX11_strike 16 = .ok (.iconst (-1), 1) := by decide +kernel
theorem dX11_strike_17 : decode cX11_strike 17 = .ok (.invokevirtual 103, 3) := by decide +kernel
theorem dX11_strike_20 : decode cX11_strike 20 = .ok (.ireturn, 1) := by decide +kernel
theorem dX11_strike_21 : decode cX11_strike 21 = .ok (.aload_n 0, 1) := by decide +kernel
theorem dX11_strike_22 : decode cX11_strike 22 = .ok (.getfield 26, 3) := by decide +kernel
theorem dX11_strike_25 : decode cX11_strike 25 = .ok (.getfield 166, 3) := by decide +kernel
theorem dX11_strike_28 : decode cX11_strike 28 = .ok (.iload_n 1, 1) := by decide +kernel
theorem dX11_strike_29 : decode cX11_strike 29 = .ok (.iaload, 1) := by decide +kernel
theorem dX11_strike_30 : decode cX11_strike 30 = .ok (.ldc 169, 2) := by decide +kernel
theorem dX11_strike_32 : decode cX11_strike 32 = .ok (.if_icmp .eq 10, 3) := by decide +kernel
theorem dX11_strike_35 : decode cX11_strike 35 = .ok (.aload_n 0, 1) := by decide +kernel
theorem dX11_strike_36 : decode cX11_strike 36 = .ok (.bipush (-3), 2) := by decide +kernel
theorem dX11_strike_38 : decode cX11_strike 38 = .ok (.invokevirtual 103, 3) := by decide +kernel
theorem dX11_strike_41 : decode cX11_strike 41 = .ok (.ireturn, 1) := by decide +kernel
theorem dX11_strike_42 : decode cX11_strike 42 = .ok (.iload_n 2, 1) := by decide +kernel
theorem dX11_strike_43 : decode cX11_strike 43 = .ok (.aload_n 0, 1) := by decide +kernel
theorem dX11_strike_44 : decode cX11_strike 44 = .ok (.getfield 10, 3) := by decide +kernel
theorem dX11_strike_47 : decode cX11_strike 47 = .ok (.getfield 107, 3) := by decide +kernel
theorem dX11_strike_50 : decode cX11_strike 50 = .ok (.sipush 1000, 3) := by decide +kernel
theorem dX11_strike_53 : decode cX11_strike 53 = .ok (.invokestatic 110, 3) := by decide +kernel
theorem dX11_strike_56 : decode cX11_strike 56 = .ok (.istore_n 3, 1) := by decide +kernel
theorem dX11_strike_57 : decode cX11_strike 57 = .ok (.iload_n 3, 1) := by decide +kernel
theorem dX11_strike_58 : decode cX11_strike 58 = .ok (.ifCond .eq 9, 3) := by decide +kernel
theorem dX11_strike_61 : decode cX11_strike 61 = .ok (.aload_n 0, 1) := by decide +kernel
theorem dX11_strike_62 : decode cX11_strike 62 = .ok (.iload_n 3, 1) := by decide +kernel
theorem dX11_strike_63 : decode cX11_strike 63 = .ok (.invokevirtual 103, 3) := by decide +kernel
theorem dX11_strike_66 : decode cX11_strike 66 = .ok (.ireturn, 1) := by decide +kernel
theorem dX11_strike_67 : decode cX11_strike 67 = .ok (.aload_n 0, 1) := by decide +kernel
theorem dX11_strike_68 : decode cX11_strike 68 = .ok (.getfield 26, 3) := by decide +kernel
theorem dX11_strike_71 : decode cX11_strike 71 = .ok (.getfield 166, 3) := by decide +kernel
theorem dX11_strike_74 : decode cX11_strike 74 = .ok (.iload_n 1, 1) := by decide +kernel
theorem dX11_strike_75 : decode cX11_strike 75 = .ok (.iload_n 2, 1) := by decide +kernel
theorem dX11_strike_76 : decode cX11_strike 76 = .ok (.iastore, 1) := by decide +kernel
theorem dX11_strike_77 : decode cX11_strike 77 = .ok (.iconst 1, 1) := by decide +kernel
theorem dX11_strike_78 : decode cX11_strike 78 = .ok (.ireturn, 1) := by decide +kernel
theorem dX11_kind_0 : decode cX11_kind 0 = .ok (.iload_n 1, 1) := by decide +kernel
theorem dX11_kind_1 : decode cX11_kind 1 = .ok (.invokestatic 170, 3) := by decide +kernel
theorem dX11_kind_4 : decode cX11_kind 4 = .ok (.ifCond .eq 14, 3) := by decide +kernel
theorem dX11_kind_7 : decode cX11_kind 7 = .ok (.iload 5, 2) := by decide +kernel
theorem dX11_kind_9 : decode cX11_kind 9 = .ok (.ifCond .lt 9, 3) := by decide +kernel
theorem dX11_kind_12 : decode cX11_kind 12 = .ok (.iload 5, 2) := by decide +kernel
theorem dX11_kind_14 : decode cX11_kind 14 = .ok (.iconst 3, 1) := by decide +kernel
theorem dX11_kind_15 : decode cX11_kind 15 = .ok (.if_icmp .le 10, 3) := by decide +kernel
theorem dX11_kind_18 : decode cX11_kind 18 = .ok (.aload_n 0, 1) := by decide +kernel
theorem dX11_kind_19 : decode cX11_kind 19 = .ok (.bipush (-2), 2) := by decide +kernel
theorem dX11_kind_21 : decode cX11_kind 21 = .ok (.invokevirtual 103, 3) := by decide +kernel
theorem dX11_kind_24 : decode cX11_kind 24 = .ok (.ireturn, 1) := by decide +kernel
theorem dX11_kind_25 : decode cX11_kind 25 = .ok (.iload_n 2, 1) := by decide +kernel
theorem dX11_kind_26 : decode cX11_kind 26 = .ok (.iload_n 3, 1) := by decide +kernel
theorem dX11_kind_27 : decode cX11_kind 27 = .ok (.invokestatic 173, 3) := by decide +kernel
theorem dX11_kind_30 : decode cX11_kind 30 = .ok (.istore 6, 2) := by decide +kernel
theorem dX11_kind_32 : decode cX11_kind 32 = .ok (.iload 6, 2) := by decide +kernel
theorem dX11_kind_34 : decode cX11_kind 34 = .ok (.ifCond .eq 10, 3) := by decide +kernel
theorem dX11_kind_37 : decode cX11_kind 37 = .ok (.aload_n 0, 1) := by decide +kernel
theorem dX11_kind_38 : decode cX11_kind 38 = .ok (.iload 6, 2) := by decide +kernel
theorem dX11_kind_40 : decode cX11_kind 40 = .ok (.invokevirtual 103, 3) := by decide +kernel
theorem dX11_kind_43 : decode cX11_kind 43 = .ok (.ireturn, 1) := by decide +kernel
theorem dX11_kind_44 : decode cX11_kind 44 = .ok (.aload_n 0, 1) := by decide +kernel
theorem dX11_kind_45 : decode cX11_kind 45 = .ok (.iload_n 2, 1) := by decide +kernel
theorem dX11_kind_46 : decode cX11_kind 46 = .ok (.iload_n 3, 1) := by decide +kernel
theorem dX11_kind_47 : decode cX11_kind 47 = .ok (.iload 4, 2) := by decide +kernel
theorem dX11_kind_49 : decode cX11_kind 49 = .ok (.invokevirtual 176, 3) := by decide +kernel
theorem dX11_kind_52 : decode cX11_kind 52 = .ok (.aload_n 0, 1) := by decide +kernel
theorem dX11_kind_53 : decode cX11_kind 53 = .ok (.getfield 26, 3) := by decide +kernel
theorem dX11_kind_56 : decode cX11_kind 56 = .ok (.iload_n 1, 1) := by decide +kernel
theorem dX11_kind_57 : decode cX11_kind 57 = .ok (.aload_n 0, 1) := by decide +kernel
theorem dX11_kind_58 : decode cX11_kind 58 = .ok (.getfield 10, 3) := by decide +kernel
theorem dX11_kind_61 : decode cX11_kind 61 = .ok (.getfield 107, 3) := by decide +kernel
theorem dX11_kind_64 : decode cX11_kind 64 = .ok (.invokevirtual 180, 3) := by decide +kernel
theorem dX11_kind_67 : decode cX11_kind 67 = .ok (.istore 7, 2) := by decide +kernel
theorem dX11_kind_69 : decode cX11_kind 69 = .ok (.iload 5, 2) := by decide +kernel
theorem dX11_kind_71 : decode cX11_kind 71 = .ok (.iconst 2, 1) := by decide +kernel
theorem dX11_kind_72 : decode cX11_kind 72 = .ok (.if_icmp .lt 24, 3) := by decide +kernel
theorem dX11_kind_75 : decode cX11_kind 75 = .ok (.aload_n 0, 1) := by decide +kernel
theorem dX11_kind_76 : decode cX11_kind 76 = .ok (.getfield 26, 3) := by decide +kernel
theorem dX11_kind_79 : decode cX11_kind 79 = .ok (.iload 7, 2) := by decide +kernel
theorem dX11_kind_81 : decode cX11_kind 81 = .ok (.iload 5, 2) := by decide +kernel
theorem dX11_kind_83 : decode cX11_kind 83 = .ok (.iconst 2, 1) := by decide +kernel
theorem dX11_kind_84 : decode cX11_kind 84 = .ok (.if_icmp .ne 7, 3) := by decide +kernel
theorem dX11_kind_87 : decode cX11_kind 87 = .ok (.iconst 1, 1) := by decide +kernel
theorem dX11_kind_88 : decode cX11_kind 88 = .ok (.goto 4, 3) := by decide +kernel
theorem dX11_kind_91 : decode cX11_kind 91 = .ok (.iconst 0, 1) := by decide +kernel
theorem dX11_kind_92 : decode cX11_kind 92 = .ok (.invokevirtual 183, 3) := by decide +kernel
theorem dX11_kind_95 : decode cX11_kind 95 = .ok (.ireturn, 1) := by decide +kernel
theorem dX11_kind_96 : decode cX11_kind 96 = .ok (.aload_n 0, 1) := by decide +kernel
theorem dX11_kind_97 : decode cX11_kind 97 = .ok (.getfield 26, 3) := by decide +kernel
theorem dX11_kind_100 : decode cX11_kind 100 = .ok (.iload 7, 2) := by decide +kernel
theorem dX11_kind_102 : decode cX11_kind 102 = .ok (.invokevirtual 187, 3) := by decide +kernel
theorem dX11_kind_105 : decode cX11_kind 105 = .ok (.istore 8, 2) := by decide +kernel
theorem dX11_kind_107 : decode cX11_kind 107 = .ok (.iload 5, 2) := by decide +kernel
theorem dX11_kind_109 : decode cX11_kind 109 = .ok (.iconst 1, 1) := by decide +kernel
theorem dX11_kind_110 : decode cX11_kind 110 = .ok (.if_icmp .ne 8, 3) := by decide +kernel
theorem dX11_kind_113 : decode cX11_kind 113 = .ok (.iload 8, 2) := by decide +kernel
theorem dX11_kind_115 : decode cX11_kind 115 = .ok (.goto 12, 3) := by decide +kernel
theorem dX11_kind_118 : decode cX11_kind 118 = .ok (.aload_n 0, 1) := by decide +kernel
theorem dX11_kind_119 : decode cX11_kind 119 = .ok (.getfield 26, 3) := by decide +kernel
theorem dX11_kind_122 : decode cX11_kind 122 = .ok (.iload 8, 2) := by decide +kernel
theorem dX11_kind_124 : decode cX11_kind 124 = .ok (.invokevirtual 190, 3) := by decide +kernel
theorem dX11_kind_127 : decode cX11_kind 127 = .ok (.ireturn, 1) := by decide +kernel
theorem dX11_term_0 : decode cX11_term 0 = .ok (.iload_n 1, 1) := by decide +kernel
theorem dX11_term_1 : decode cX11_term 1 = .ok (.ifCond .lt 17, 3) := by decide +kernel
theorem dX11_term_4 : decode cX11_term 4 = .ok (.iload_n 1, 1) := by decide +kernel
theorem dX11_term_5 : decode cX11_term 5 = .ok (.iconst 5, 1) := by decide +kernel
theorem dX11_term_6 : decode cX11_term 6 = .ok (.if_icmp .ge 12, 3) := by decide +kernel
theorem dX11_term_9 : decode cX11_term 9 = .ok (.iload_n 2, 1) := by decide +kernel
theorem dX11_term_10 : decode cX11_term 10 = .ok (.ifCond .lt 8, 3) := by decide +kernel
theorem dX11_term_13 : decode cX11_term 13 = .ok (.iload_n 2, 1) := by decide +kernel
theorem dX11_term_14 : decode cX11_term 14 = .ok (.iconst 2, 1) := by decide +kernel
theorem dX11_term_15 : decode cX11_term 15 = .ok (.if_icmp .le 10, 3) := by decide +kernel
theorem dX11_term_18 : decode cX11_term 18 = .ok (.aload_n 0, 1) := by decide +kernel
theorem dX11_term_19 : decode cX11_term 19 = .ok (.bipush (-2), 2) := by decide +kernel
theorem dX11_term_21 : decode cX11_term 21 = .ok (.invokevirtual 103, 3) := by decide +kernel
theorem dX11_term_24 : decode cX11_term 24 = .ok (.ireturn, 1) := by decide +kernel
theorem dX11_term_25 : decode cX11_term 25 = .ok (.iload_n 3, 1) := by decide +kernel
theorem dX11_term_26 : decode cX11_term 26 = .ok (.iconst 0, 1) := by decide +kernel
theorem dX11_term_27 : decode cX11_term 27 = .ok (.getstatic 193, 3) := by decide +kernel
theorem dX11_term_30 : decode cX11_term 30 = .ok (.iload_n 2, 1) := by decide +kernel
theorem dX11_term_31 : decode cX11_term 31 = .ok (.iaload, 1) := by decide +kernel
theorem dX11_term_32 : decode cX11_term 32 = .ok (.invokestatic 110, 3) := by decide +kernel
theorem dX11_term_35 : decode cX11_term 35 = .ok (.istore 4, 2) := by decide +kernel
theorem dX11_term_37 : decode cX11_term 37 = .ok (.iload 4, 2) := by decide +kernel
theorem dX11_term_39 : decode cX11_term 39 = .ok (.ifCond .eq 10, 3) := by decide +kernel
theorem dX11_term_42 : decode cX11_term 42 = .ok (.aload_n 0, 1) := by decide +kernel
theorem dX11_term_43 : decode cX11_term 43 = .ok (.iload 4, 2) := by decide +kernel
theorem dX11_term_45 : decode cX11_term 45 = .ok (.invokevirtual 103, 3) := by decide +kernel
theorem dX11_term_48 : decode cX11_term 48 = .ok (.ireturn, 1) := by decide +kernel
theorem dX11_term_49 : decode cX11_term 49 = .ok (.aload_n 0, 1) := by decide +kernel
theorem dX11_term_50 : decode cX11_term 50 = .ok (.getfield 84, 3) := by decide +kernel
theorem dX11_term_53 : decode cX11_term 53 = .ok (.iload_n 1, 1) := by decide +kernel
theorem dX11_term_54 : decode cX11_term 54 = .ok (.aaload, 1) := by decide +kernel
theorem dX11_term_55 : decode cX11_term 55 = .ok (.iload_n 2, 1) := by decide +kernel
theorem dX11_term_56 : decode cX11_term 56 = .ok (.iaload, 1) := by decide +kernel
theorem dX11_term_57 : decode cX11_term 57 = .ok (.istore 5, 2) := by decide +kernel
theorem dX11_term_59 : decode cX11_term 59 = .ok (.aload_n 0, 1) := by decide +kernel
theorem dX11_term_60 : decode cX11_term 60 = .ok (.getfield 84, 3) := by decide +kernel
theorem dX11_term_63 : decode cX11_term 63 = .ok (.iload_n 1, 1) := by decide +kernel
theorem dX11_term_64 : decode cX11_term 64 = .ok (.aaload, 1) := by decide +kernel
theorem dX11_term_65 : decode cX11_term 65 = .ok (.iload_n 2, 1) := by decide +kernel
theorem dX11_term_66 : decode cX11_term 66 = .ok (.iload_n 3, 1) := by decide +kernel
theorem dX11_term_67 : decode cX11_term 67 = .ok (.iastore, 1) := by decide +kernel
theorem dX11_term_68 : decode cX11_term 68 = .ok (.iload 5, 2) := by decide +kernel
theorem dX11_term_70 : decode cX11_term 70 = .ok (.ireturn, 1) := by decide +kernel
theorem dX11_open_0 : decode cX11_open 0 = .ok (.iload_n 1, 1) := by decide +kernel
theorem dX11_open_1 : decode cX11_open 1 = .ok (.invokestatic 170, 3) := by decide +kernel
theorem dX11_open_4 : decode cX11_open 4 = .ok (.ifCond .ne 10, 3) := by decide +kernel
theorem dX11_open_7 : decode cX11_open 7 = .ok (.aload_n 0, 1) := by decide +kernel
theorem dX11_open_8 : decode cX11_open 8 = .ok (.bipush (-2), 2) := by decide +kernel
theorem dX11_open_10 : decode cX11_open 10 = .ok (.invokevirtual 103, 3) := by decide +kernel
theorem dX11_open_13 : decode cX11_open 13 = .ok (.ireturn, 1) := by decide +kernel
theorem dX11_open_14 : decode cX11_open 14 = .ok (.iload_n 2, 1) := by decide +kernel
theorem dX11_open_15 : decode cX11_open 15 = .ok (.iload_n 3, 1) := by decide +kernel
theorem dX11_open_16 : decode cX11_open 16 = .ok (.invokestatic 173, 3) := by decide +kernel
theorem dX11_open_19 : decode cX11_open 19 = .ok (.aload_n 0, 1) := by decide +kernel
theorem dX11_open_20 : decode cX11_open 20 = .ok (.getfield 43, 3) := by decide +kernel
theorem dX11_open_23 : decode cX11_open 23 = .ok (.bipush 40, 2) := by decide +kernel
theorem dX11_open_25 : decode cX11_open 25 = .ok (.invokestatic 131, 3) := by decide +kernel
theorem dX11_open_28 : decode cX11_open 28 = .ok (.invokestatic 118, 3) := by decide +kernel
theorem dX11_open_31 : decode cX11_open 31 = .ok (.istore 5, 2) := by decide +kernel
theorem dX11_open_33 : decode cX11_open 33 = .ok (.iload 5, 2) := by decide +kernel
theorem dX11_open_35 : decode cX11_open 35 = .ok (.ifCond .eq 10, 3) := by decide +kernel
theorem dX11_open_38 : decode cX11_open 38 = .ok (.aload_n 0, 1) := by decide +kernel
theorem dX11_open_39 : decode cX11_open 39 = .ok (.iload 5, 2) := by decide +kernel
theorem dX11_open_41 : decode cX11_open 41 = .ok (.invokevirtual 103, 3) := by decide +kernel
theorem dX11_open_44 : decode cX11_open 44 = .ok (.ireturn, 1) := by decide +kernel
theorem dX11_open_45 : decode cX11_open 45 = .ok (.aload_n 0, 1) := by decide +kernel
theorem dX11_open_46 : decode cX11_open 46 = .ok (.iload_n 2, 1) := by decide +kernel
theorem dX11_open_47 : decode cX11_open 47 = .ok (.iload_n 3, 1) := by decide +kernel
theorem dX11_open_48 : decode cX11_open 48 = .ok (.iload 4, 2) := by decide +kernel
theorem dX11_open_50 : decode cX11_open 50 = .ok (.invokevirtual 176, 3) := by decide +kernel
theorem dX11_open_53 : decode cX11_open 53 = .ok (.aload_n 0, 1) := by decide +kernel
theorem dX11_open_54 : decode cX11_open 54 = .ok (.getfield 26, 3) := by decide +kernel
theorem dX11_open_57 : decode cX11_open 57 = .ok (.aload_n 0, 1) := by decide +kernel
theorem dX11_open_58 : decode cX11_open 58 = .ok (.getfield 26, 3) := by decide +kernel
theorem dX11_open_61 : decode cX11_open 61 = .ok (.iload_n 1, 1) := by decide +kernel
theorem dX11_open_62 : decode cX11_open 62 = .ok (.aload_n 0, 1) := by decide +kernel
theorem dX11_open_63 : decode cX11_open 63 = .ok (.getfield 10, 3) := by decide +kernel
theorem dX11_open_66 : decode cX11_open 66 = .ok (.getfield 107, 3) := by decide +kernel
theorem dX11_open_69 : decode cX11_open 69 = .ok (.invokevirtual 180, 3) := by decide +kernel
theorem dX11_open_72 : decode cX11_open 72 = .ok (.invokevirtual 187, 3) := by decide +kernel
theorem dX11_open_75 : decode cX11_open 75 = .ok (.istore 6, 2) := by decide +kernel
theorem dX11_open_77 : decode cX11_open 77 = .ok (.aload_n 0, 1) := by decide +kernel
theorem dX11_open_78 : decode cX11_open 78 = .ok (.getfield 26, 3) := by decide +kernel
theorem dX11_open_81 : decode cX11_open 81 = .ok (.iload 6, 2) := by decide +kernel
theorem dX11_open_83 : decode cX11_open 83 = .ok (.invokevirtual 190, 3) := by decide +kernel
theorem dX11_open_86 : decode cX11_open 86 = .ok (.istore 7, 2) := by decide +kernel
theorem dX11_open_88 : decode cX11_open 88 = .ok (.aload_n 0, 1) := by decide +kernel
theorem dX11_open_89 : decode cX11_open 89 = .ok (.getfield 39, 3) := by decide +kernel
theorem dX11_open_92 : decode cX11_open 92 = .ok (.aload_n 0, 1) := by decide +kernel
theorem dX11_open_93 : decode cX11_open 93 = .ok (.getfield 43, 3) := by decide +kernel
theorem dX11_open_96 : decode cX11_open 96 = .ok (.aaload, 1) := by decide +kernel
theorem dX11_open_97 : decode cX11_open 97 = .ok (.iload_n 1, 1) := by decide +kernel
theorem dX11_open_98 : decode cX11_open 98 = .ok (.iload_n 2, 1) := by decide +kernel
theorem dX11_open_99 : decode cX11_open 99 = .ok (.iload_n 3, 1) := by decide +kernel
theorem dX11_open_100 : decode cX11_open 100 = .ok (.iload 6, 2) := by decide +kernel
theorem dX11_open_102 : decode cX11_open 102 = .ok (.invokevirtual 196, 3) := by decide +kernel
theorem dX11_open_105 : decode cX11_open 105 = .ok (.aload_n 0, 1) := by decide +kernel
theorem dX11_open_106 : decode cX11_open 106 = .ok (.getfield 39, 3) := by decide +kernel
theorem dX11_open_109 : decode cX11_open 109 = .ok (.aload_n 0, 1) := by decide +kernel
theorem dX11_open_110 : decode cX11_open 110 = .ok (.getfield 43, 3) := by decide +kernel
theorem dX11_open_113 : decode cX11_open 113 = .ok (.aaload, 1) := by decide +kernel
theorem dX11_open_114 : decode cX11_open 114 = .ok (.iload 7, 2) := by decide +kernel
theorem dX11_open_116 : decode cX11_open 116 = .ok (.aload_n 0, 1) := by decide +kernel
theorem dX11_open_117 : decode cX11_open 117 = .ok (.getfield 84, 3) := by decide +kernel
theorem dX11_open_120 : decode cX11_open 120 = .ok (.iload 7, 2) := by decide +kernel
theorem dX11_open_122 : decode cX11_open 122 = .ok (.aaload, 1) := by decide +kernel
theorem dX11_open_123 : decode cX11_open 123 = .ok (.iconst 0, 1) := by decide +kernel
theorem dX11_open_124 : decode cX11_open 124 = .ok (.iaload, 1) := by decide +kernel
theorem dX11_open_125 : decode cX11_open 125 = .ok (.aload_n 0, 1) := by decide +kernel
theorem dX11_open_126 : decode cX11_open 126 = .ok (.getfield 84, 3) := by decide +kernel
theorem dX11_open_129 : decode cX11_open 129 = .ok (.iload 7, 2) := by decide +kernel
theorem dX11_open_131 : decode cX11_open 131 = .ok (.aaload, 1) := by decide +kernel
theorem dX11_open_132 : decode cX11_open 132 = .ok (.iconst 1, 1) := by decide +kernel
theorem dX11_open_133 : decode cX11_open 133 = .ok (.iaload, 1) := by decide +kernel
theorem dX11_open_134 : decode cX11_open 134 = .ok (.aload_n 0, 1) := by decide +kernel
theorem dX11_open_135 : decode cX11_open 135 = .ok (.getfield 84, 3) := by decide +kernel
theorem dX11_open_138 : decode cX11_open 138 = .ok (.iload 7, 2) := by decide +kernel
theorem dX11_open_140 : decode cX11_open 140 = .ok (.aaload, 1) := by decide +kernel
theorem dX11_open_141 : decode cX11_open 141 = .ok (.iconst 2, 1) := by decide +kernel
theorem dX11_open_142 : decode cX11_open 142 = .ok (.iaload, 1) := by decide +kernel
theorem dX11_open_143 : decode cX11_open 143 = .ok (.iconst 1, 1) := by decide +kernel
theorem dX11_open_144 : decode cX11_open 144 = .ok (.if_icmp .ne 7, 3) := by decide +kernel
theorem dX11_open_147 : decode cX11_open 147 = .ok (.iconst 1, 1) := by decide +kernel
theorem dX11_open_148 : decode cX11_open 148 = .ok (.goto 4, 3) := by decide +kernel
theorem dX11_open_151 : decode cX11_open 151 = .ok (.iconst 0, 1) := by decide +kernel
theorem dX11_open_152 : decode cX11_open 152 = .ok (.invokevirtual 200, 3) := by decide +kernel
theorem dX11_open_155 : decode cX11_open 155 = .ok (.aload_n 0, 1) := by decide +kernel
theorem dX11_open_156 : decode cX11_open 156 = .ok (.dup, 1) := by decide +kernel
theorem dX11_open_157 : decode cX11_open 157 = .ok (.getfield 43, 3) := by decide +kernel
theorem dX11_open_160 : decode cX11_open 160 = .ok (.iconst 1, 1) := by decide +kernel
theorem dX11_open_161 : decode cX11_open 161 = .ok (.iadd, 1) := by decide +kernel
theorem dX11_open_162 : decode cX11_open 162 = .ok (.putfield 43, 3) := by decide +kernel
theorem dX11_open_165 : decode cX11_open 165 = .ok (.aload_n 0, 1) := by decide +kernel
theorem dX11_open_166 : decode cX11_open 166 = .ok (.getfield 43, 3) := by decide +kernel
theorem dX11_open_169 : decode cX11_open 169 = .ok (.iconst 1, 1) := by decide +kernel
theorem dX11_open_170 : decode cX11_open 170 = .ok (.isub, 1) := by decide +kernel
theorem dX11_open_171 : decode cX11_open 171 = .ok (.ireturn, 1) := by decide +kernel
theorem dX11_paper_0 : decode cX11_paper 0 = .ok (.aload_n 0, 1) := by decide +kernel
theorem dX11_paper_1 : decode cX11_paper 1 = .ok (.iload_n 1, 1) := by decide +kernel
theorem dX11_paper_2 : decode cX11_paper 2 = .ok (.invokevirtual 204, 3) := by decide +kernel
theorem dX11_paper_5 : decode cX11_paper 5 = .ok (.ifCond .eq 13, 3) := by decide +kernel
theorem dX11_paper_8 : decode cX11_paper 8 = .ok (.iload_n 2, 1) := by decide +kernel
theorem dX11_paper_9 : decode cX11_paper 9 = .ok (.ifCond .lt 9, 3) := by decide +kernel
theorem dX11_paper_12 : decode cX11_paper 12 = .ok (.iload_n 2, 1) := by decide +kernel
theorem dX11_paper_13 : decode cX11_paper 13 = .ok (.bipush 8, 2) := by decide +kernel
theorem dX11_paper_15 : decode cX11_paper 15 = .ok (.if_icmp .lt 9, 3) := by decide +kernel
theorem dX11_paper_18 : decode cX11_paper 18 = .ok (.aload_n 0, 1) := by decide +kernel
theorem dX11_paper_19 : decode cX11_paper 19 = .ok (.iconst (-1), 1) := by decide +kernel
theorem dX11_paper_20 : decode cX11_paper 20 = .ok (.invokevirtual 103, 3) := by decide +kernel
theorem dX11_paper_23 : decode cX11_paper 23 = .ok (.ireturn, 1) := by decide +kernel
theorem dX11_paper_24 : decode cX11_paper 24 = .ok (.aload_n 0, 1) := by decide +kernel
theorem dX11_paper_25 : decode cX11_paper 25 = .ok (.getfield 39, 3) := by decide +kernel
theorem dX11_paper_28 : decode cX11_paper 28 = .ok (.iload_n 1, 1) := by decide +kernel
theorem dX11_paper_29 : decode cX11_paper 29 = .ok (.aaload, 1) := by decide +kernel
theorem dX11_paper_30 : decode cX11_paper 30 = .ok (.astore 4, 2) := by decide +kernel
theorem dX11_paper_32 : decode cX11_paper 32 = .ok (.aload 4, 2) := by decide +kernel
theorem dX11_paper_34 : decode cX11_paper 34 = .ok (.aload_n 0, 1) := by decide +kernel
theorem dX11_paper_35 : decode cX11_paper 35 = .ok (.getfield 10, 3) := by decide +kernel
theorem dX11_paper_38 : decode cX11_paper 38 = .ok (.getfield 107, 3) := by decide +kernel
theorem dX11_paper_41 : decode cX11_paper 41 = .ok (.invokevirtual 207, 3) := by decide +kernel
theorem dX11_paper_44 : decode cX11_paper 44 = .ok (.ifCond .eq 10, 3) := by decide +kernel
theorem dX11_paper_47 : decode cX11_paper 47 = .ok (.aload_n 0, 1) := by decide +kernel
theorem dX11_paper_48 : decode cX11_paper 48 = .ok (.bipush (-3), 2) := by decide +kernel
theorem dX11_paper_50 : decode cX11_paper 50 = .ok (.invokevirtual 103, 3) := by decide +kernel
theorem dX11_paper_53 : decode cX11_paper 53 = .ok (.ireturn, 1) := by decide +kernel
theorem dX11_paper_54 : decode cX11_paper 54 = .ok (.iload_n 3, 1) := by decide +kernel
theorem dX11_paper_55 : decode cX11_paper 55 = .ok (.ifCond .ne 35, 3) := by decide +kernel
theorem dX11_paper_58 : decode cX11_paper 58 = .ok (.aload 4, 2) := by decide +kernel
theorem dX11_paper_60 : decode cX11_paper 60 = .ok (.iload_n 2, 1) := by decide +kernel
theorem dX11_paper_61 : decode cX11_paper 61 = .ok (.aload_n 0, 1) := by decide +kernel
theorem dX11_paper_62 : decode cX11_paper 62 = .ok (.getfield 10, 3) := by decide +kernel
theorem dX11_paper_65 : decode cX11_paper 65 = .ok (.getfield 107, 3) := by decide +kernel
theorem dX11_paper_68 : decode cX11_paper 68 = .ok (.aload_n 0, 1) := by decide +kernel
theorem dX11_paper_69 : decode cX11_paper 69 = .ok (.getfield 10, 3) := by decide +kernel
theorem dX11_paper_72 : decode cX11_paper 72 = .ok (.getfield 107, 3) := by decide +kernel
theorem dX11_paper_75 : decode cX11_paper 75 = .ok (.invokevirtual 210, 3) := by decide +kernel
theorem dX11_paper_78 : decode cX11_paper 78 = .ok (.bipush (-9), 2) := by decide +kernel
theorem dX11_paper_80 : decode cX11_paper 80 = .ok (.if_icmp .ne 10, 3) := by decide +kernel
theorem dX11_paper_83 : decode cX11_paper 83 = .ok (.aload_n 0, 1) := by decide +kernel
theorem dX11_paper_84 : decode cX11_paper 84 = .ok (.bipush (-3), 2) := by decide +kernel
theorem dX11_paper_86 : decode cX11_paper 86 = .ok (.invokevirtual 103, 3) := by decide +kernel
theorem dX11_paper_89 : decode cX11_paper 89 = .ok (.ireturn, 1) := by decide +kernel
theorem dX11_paper_90 : decode cX11_paper 90 = .ok (.aload 4, 2) := by decide +kernel
theorem dX11_paper_92 : decode cX11_paper 92 = .ok (.invokevirtual 213, 3) := by decide +kernel
theorem dX11_paper_95 : decode cX11_paper 95 = .ok (.ifCond .eq 10, 3) := by decide +kernel
theorem dX11_paper_98 : decode cX11_paper 98 = .ok (.aload_n 0, 1) := by decide +kernel
theorem dX11_paper_99 : decode cX11_paper 99 = .ok (.bipush (-6), 2) := by decide +kernel
theorem dX11_paper_101 : decode cX11_paper 101 = .ok (.invokevirtual 103, 3) := by decide +kernel
theorem dX11_paper_104 : decode cX11_paper 104 = .ok (.ireturn, 1) := by decide +kernel
theorem dX11_paper_105 : decode cX11_paper 105 = .ok (.aload 4, 2) := by decide +kernel
theorem dX11_paper_107 : decode cX11_paper 107 = .ok (.iload_n 3, 1) := by decide +kernel
theorem dX11_paper_108 : decode cX11_paper 108 = .ok (.ifCond .eq 7, 3) := by decide +kernel
theorem dX11_paper_111 : decode cX11_paper 111 = .ok (.iconst 0, 1) := by decide +kernel
theorem dX11_paper_112 : decode cX11_paper 112 = .ok (.goto 4, 3) := by decide +kernel
theorem dX11_paper_115 : decode cX11_paper 115 = .ok (.iconst 1, 1) := by decide +kernel
theorem dX11_paper_116 : decode cX11_paper 116 = .ok (.iload_n 2, 1) := by decide +kernel
theorem dX11_paper_117 : decode cX11_paper 117 = .ok (.invokevirtual 217, 3) := by decide +kernel
theorem dX11_paper_120 : decode cX11_paper 120 = .ok (.ireturn, 1) := by decide +kernel
theorem dX11_withdraw_0 : decode cX11_withdraw 0 = .ok (.aload_n 0, 1) := by decide +kernel
theorem dX11_withdraw_1 : decode cX11_withdraw 1 = .ok (.iload_n 1, 1) := by decide +kernel
theorem dX11_withdraw_2 : decode cX11_withdraw 2 = .ok (.invokevirtual 204, 3) := by decide +kernel
theorem dX11_withdraw_5 : decode cX11_withdraw 5 = .ok (.ifCond .ne 9, 3) := by decide +kernel
theorem dX11_withdraw_8 : decode cX11_withdraw 8 = .ok (.aload_n 0, 1) := by decide +kernel
theorem dX11_withdraw_9 : decode cX11_withdraw 9 = .ok (.iconst (-1), 1) := by decide +kernel
theorem dX11_withdraw_10 : decode cX11_withdraw 10 = .ok (.invokevirtual 103, 3) := by decide +kernel
theorem dX11_withdraw_13 : decode cX11_withdraw 13 = .ok (.ireturn, 1) := by decide +kernel
theorem dX11_withdraw_14 : decode cX11_withdraw 14 = .ok (.aload_n 0, 1) := by decide +kernel
theorem dX11_withdraw_15 : decode cX11_withdraw 15 = .ok (.getfield 39, 3) := by decide +kernel
theorem dX11_withdraw_18 : decode cX11_withdraw 18 = .ok (.iload_n 1, 1) := by decide +kernel
theorem dX11_withdraw_19 : decode cX11_withdraw 19 = .ok (.aaload, 1) := by decide +kernel
theorem dX11_withdraw_20 : decode cX11_withdraw 20 = .ok (.astore_n 2, 1) := by decide +kernel
theorem dX11_withdraw_21 : decode cX11_withdraw 21 = .ok (.aload_n 2, 1) := by decide +kernel
theorem dX11_withdraw_22 : decode cX11_withdraw 22 = .ok (.aload_n 0, 1) := by decide +kernel
theorem dX11_withdraw_23 : decode cX11_withdraw 23 = .ok (.getfield 10, 3) := by decide +kernel
theorem dX11_withdraw_26 : decode cX11_withdraw 26 = .ok (.getfield 107, 3) := by decide +kernel
theorem dX11_withdraw_29 : decode cX11_withdraw 29 = .ok (.invokevirtual 207, 3) := by decide +kernel
theorem dX11_withdraw_32 : decode cX11_withdraw 32 = .ok (.ifCond .eq 10, 3) := by decide +kernel
theorem dX11_withdraw_35 : decode cX11_withdraw 35 = .ok (.aload_n 0, 1) := by decide +kernel
theorem dX11_withdraw_36 : decode cX11_withdraw 36 = .ok (.bipush (-3), 2) := by decide +kernel
theorem dX11_withdraw_38 : decode cX11_withdraw 38 = .ok (.invokevirtual 103, 3) := by decide +kernel
theorem dX11_withdraw_41 : decode cX11_withdraw 41 = .ok (.ireturn, 1) := by decide +kernel
theorem dX11_withdraw_42 : decode cX11_withdraw 42 = .ok (.aload_n 2, 1) := by decide +kernel
theorem dX11_withdraw_43 : decode cX11_withdraw 43 = .ok (.invokevirtual 213, 3) := by decide +kernel
theorem dX11_withdraw_46 : decode cX11_withdraw 46 = .ok (.ifCond .eq 10, 3) := by decide +kernel
theorem dX11_withdraw_49 : decode cX11_withdraw 49 = .ok (.aload_n 0, 1) := by decide +kernel
theorem dX11_withdraw_50 : decode cX11_withdraw 50 = .ok (.bipush (-6), 2) := by decide +kernel
theorem dX11_withdraw_52 : decode cX11_withdraw 52 = .ok (.invokevirtual 103, 3) := by decide +kernel
theorem dX11_withdraw_55 : decode cX11_withdraw 55 = .ok (.ireturn, 1) := by decide +kernel
theorem dX11_withdraw_56 : decode cX11_withdraw 56 = .ok (.aload_n 2, 1) := by decide +kernel
theorem dX11_withdraw_57 : decode cX11_withdraw 57 = .ok (.iconst 2, 1) := by decide +kernel
theorem dX11_withdraw_58 : decode cX11_withdraw 58 = .ok (.iconst 0, 1) := by decide +kernel
theorem dX11_withdraw_59 : decode cX11_withdraw 59 = .ok (.invokevirtual 217, 3) := by decide +kernel
theorem dX11_withdraw_62 : decode cX11_withdraw 62 = .ok (.pop, 1) := by decide +kernel
theorem dX11_withdraw_63 : decode cX11_withdraw 63 = .ok (.iconst 1, 1) := by decide +kernel
theorem dX11_withdraw_64 : decode cX11_withdraw 64 = .ok (.ireturn, 1) := by decide +kernel
theorem dX11_state_0 : decode cX11_state 0 = .ok (.aload_n 0, 1) := by decide +kernel
theorem dX11_state_1 : decode cX11_state 1 = .ok (.iload_n 1, 1) := by decide +kernel
theorem dX11_state_2 : decode cX11_state 2 = .ok (.invokevirtual 204, 3) := by decide +kernel
theorem dX11_state_5 : decode cX11_state 5 = .ok (.ifCond .ne 9, 3) := by decide +kernel
theorem dX11_state_8 : decode cX11_state 8 = .ok (.aload_n 0, 1) := by decide +kernel
theorem dX11_state_9 : decode cX11_state 9 = .ok (.iconst (-1), 1) := by decide +kernel
theorem dX11_state_10 : decode cX11_state 10 = .ok (.invokevirtual 103, 3) := by decide +kernel
theorem dX11_state_13 : decode cX11_state 13 = .ok (.ireturn, 1) := by decide +kernel
theorem dX11_state_14 : decode cX11_state 14 = .ok (.iload_n 2, 1) := by decide +kernel
theorem dX11_state_15 : decode cX11_state 15 = .ok (.ifCond .lt 7, 3) := by decide +kernel
theorem dX11_state_18 : decode cX11_state 18 = .ok (.iload_n 3, 1) := by decide +kernel
theorem dX11_state_19 : decode cX11_state 19 = .ok (.ifCond .ge 10, 3) := by decide +kernel
theorem dX11_state_22 : decode cX11_state 22 = .ok (.aload_n 0, 1) := by decide +kernel
theorem dX11_state_23 : decode cX11_state 23 = .ok (.bipush (-4), 2) := by decide +kernel
theorem dX11_state_25 : decode cX11_state 25 = .ok (.invokevirtual 103, 3) := by decide +kernel
theorem dX11_state_28 : decode cX11_state 28 = .ok (.ireturn, 1) := by decide +kernel
theorem dX11_state_29 : decode cX11_state 29 = .ok (.iload_n 2, 1) := by decide +kernel
theorem dX11_state_30 : decode cX11_state 30 = .ok (.aload_n 0, 1) := by decide +kernel
theorem dX11_state_31 : decode cX11_state 31 = .ok (.getfield 39, 3) := by decide +kernel
theorem dX11_state_34 : decode cX11_state 34 = .ok (.iload_n 1, 1) := by decide +kernel
theorem dX11_state_35 : decode cX11_state 35 = .ok (.aaload, 1) := by decide +kernel
theorem dX11_state_36 : decode cX11_state 36 = .ok (.getfield 220, 3) := by decide +kernel
theorem dX11_state_39 : decode cX11_state 39 = .ok (.if_icmp .lt 19, 3) := by decide +kernel
theorem dX11_state_42 : decode cX11_state 42 = .ok (.iload_n 2, 1) := by decide +kernel
theorem dX11_state_43 : decode cX11_state 43 = .ok (.iload_n 3, 1) := by decide +kernel
theorem dX11_state_44 : decode cX11_state 44 = .ok (.if_icmp .gt 14, 3) := by decide +kernel
theorem dX11_state_47 : decode cX11_state 47 = .ok (.iload_n 3, 1) := by decide +kernel
theorem dX11_state_48 : decode cX11_state 48 = .ok (.aload_n 0, 1) := by decide +kernel
theorem dX11_state_49 : decode cX11_state 49 = .ok (.getfield 10, 3) := by decide +kernel
theorem dX11_state_52 : decode cX11_state 52 = .ok (.getfield 107, 3) := by decide +kernel
theorem dX11_state_55 : decode cX11_state 55 = .ok (.if_icmp .le 10, 3) := by decide +kernel
theorem dX11_state_58 : decode cX11_state 58 = .ok (.aload_n 0, 1) := by decide +kernel
theorem dX11_state_59 : decode cX11_state 59 = .ok (.bipush (-3), 2) := by decide +kernel
theorem dX11_state_61 : decode cX11_state 61 = .ok (.invokevirtual 103, 3) := by decide +kernel
theorem dX11_state_64 : decode cX11_state 64 = .ok (.ireturn, 1) := by decide +kernel
theorem dX11_state_65 : decode cX11_state 65 = .ok (.aload_n 0, 1) := by decide +kernel
theorem dX11_state_66 : decode cX11_state 66 = .ok (.getfield 39, 3) := by decide +kernel
theorem dX11_state_69 : decode cX11_state 69 = .ok (.iload_n 1, 1) := by decide +kernel
theorem dX11_state_70 : decode cX11_state 70 = .ok (.aaload, 1) := by decide +kernel
theorem dX11_state_71 : decode cX11_state 71 = .ok (.iload_n 2, 1) := by decide +kernel
theorem dX11_state_72 : decode cX11_state 72 = .ok (.iload_n 3, 1) := by decide +kernel
theorem dX11_state_73 : decode cX11_state 73 = .ok (.invokevirtual 221, 3) := by decide +kernel
theorem dX11_state_76 : decode cX11_state 76 = .ok (.ireturn, 1) := by decide +kernel
theorem dX11_matterOf_0 : decode cX11_matterOf 0 = .ok (.aload_n 0, 1) := by decide +kernel
theorem dX11_matterOf_1 : decode cX11_matterOf 1 = .ok (.iload_n 1, 1) := by decide +kernel
theorem dX11_matterOf_2 : decode cX11_matterOf 2 = .ok (.invokevirtual 204, 3) := by decide +kernel
theorem dX11_matterOf_5 : decode cX11_matterOf 5 = .ok (.ifCond .ne 9, 3) := by decide +kernel
theorem dX11_matterOf_8 : decode cX11_matterOf 8 = .ok (.aload_n 0, 1) := by decide +kernel
theorem dX11_matterOf_9 : decode cX11_matterOf 9 = .ok (.iconst (-1), 1) := by decide +kernel
theorem dX11_matterOf_10 : decode cX11_matterOf 10 = .ok (.invokevirtual 103, 3) := by decide +kernel
theorem dX11_matterOf_13 : decode cX11_matterOf 13 = .ok (.ireturn, 1) := by decide +kernel
theorem dX11_matterOf_14 : decode cX11_matterOf 14 = .ok (.aload_n 0, 1) := by decide +kernel
theorem dX11_matterOf_15 : decode cX11_matterOf 15 = .ok (.getfield 39, 3) := by decide +kernel
theorem dX11_matterOf_18 : decode cX11_matterOf 18 = .ok (.iload_n 1, 1) := by decide +kernel
theorem dX11_matterOf_19 : decode cX11_matterOf 19 = .ok (.aaload, 1) := by decide +kernel
theorem dX11_matterOf_20 : decode cX11_matterOf 20 = .ok (.astore_n 3, 1) := by decide +kernel
theorem dX11_matterOf_21 : decode cX11_matterOf 21 = .ok (.iload_n 2, 1) := by decide +kernel
theorem dX11_matterOf_22 : decode cX11_matterOf 22 = .ok (.tableswitch 97 0 5 #[38, 43, 48, 67, 87, 92], 38) := by decide +kernel
theorem dX11_matterOf_60 : decode cX11_matterOf 60 = .ok (.aload_n 3, 1) := by decide +kernel
theorem dX11_matterOf_61 : decode cX11_matterOf 61 = .ok (.getfield 224, 3) := by decide +kernel
theorem dX11_matterOf_64 : decode cX11_matterOf 64 = .ok (.ireturn, 1) := by decide +kernel
theorem dX11_matterOf_65 : decode cX11_matterOf 65 = .ok (.aload_n 3, 1) := by decide +kernel
theorem dX11_matterOf_66 : decode cX11_matterOf 66 = .ok (.getfield 220, 3) := by decide +kernel
theorem dX11_matterOf_69 : decode cX11_matterOf 69 = .ok (.ireturn, 1) := by decide +kernel
theorem dX11_matterOf_70 : decode cX11_matterOf 70 = .ok (.aload_n 3, 1) := by decide +kernel
theorem dX11_matterOf_71 : decode cX11_matterOf 71 = .ok (.aload_n 0, 1) := by decide +kernel
theorem dX11_matterOf_72 : decode cX11_matterOf 72 = .ok (.getfield 10, 3) := by decide +kernel
theorem dX11_matterOf_75 : decode cX11_matterOf 75 = .ok (.getfield 107, 3) := by decide +kernel
theorem dX11_matterOf_78 : decode cX11_matterOf 78 = .ok (.aload_n 0, 1) := by decide +kernel
theorem dX11_matterOf_79 : decode cX11_matterOf 79 = .ok (.getfield 10, 3) := by decide +kernel
theorem dX11_matterOf_82 : decode cX11_matterOf 82 = .ok (.getfield 107, 3) := by decide +kernel
theorem dX11_matterOf_85 : decode cX11_matterOf 85 = .ok (.invokevirtual 227, 3) := by decide +kernel
theorem dX11_matterOf_88 : decode cX11_matterOf 88 = .ok (.ireturn, 1) := by decide +kernel
theorem dX11_matterOf_89 : decode cX11_matterOf 89 = .ok (.aload_n 3, 1) := by decide +kernel
theorem dX11_matterOf_90 : decode cX11_matterOf 90 = .ok (.aload_n 0, 1) := by decide +kernel
theorem dX11_matterOf_91 : decode cX11_matterOf 91 = .ok (.getfield 10, 3) := by decide +kernel
theorem dX11_matterOf_94 : decode cX11_matterOf 94 = .ok (.getfield 107, 3) := by decide +kernel
theorem dX11_matterOf_97 : decode cX11_matterOf 97 = .ok (.invokevirtual 230, 3) := by decide +kernel
theorem dX11_matterOf_100 : decode cX11_matterOf 100 = .ok (.ifCond .eq 7, 3) := by decide +kernel
theorem dX11_matterOf_103 : decode cX11_matterOf 103 = .ok (.iconst 1, 1) := by decide +kernel
theorem dX11_matterOf_104 : decode cX11_matterOf 104 = .ok (.goto 4, 3) := by decide +kernel
theorem dX11_matterOf_107 : decode cX11_matterOf 107 = .ok (.iconst 0, 1) := by decide +kernel
theorem dX11_matterOf_108 : decode cX11_matterOf 108 = .ok (.ireturn, 1) := by decide +kernel
theorem dX11_matterOf_109 : decode cX11_matterOf 109 = .ok (.aload_n 3, 1) := by decide +kernel
theorem dX11_matterOf_110 : decode cX11_matterOf 110 = .ok (.getfield 233, 3) := by decide +kernel
theorem dX11_matterOf_113 : decode cX11_matterOf 113 = .ok (.ireturn, 1) := by decide +kernel
theorem dX11_matterOf_114 : decode cX11_matterOf 114 = .ok (.aload_n 3, 1) := by decide +kernel
theorem dX11_matterOf_115 : decode cX11_matterOf 115 = .ok (.getfield 236, 3) := by decide +kernel
theorem dX11_matterOf_118 : decode cX11_matterOf 118 = .ok (.ireturn, 1) := by decide +kernel
theorem dX11_matterOf_119 : decode cX11_matterOf 119 = .ok (.aload_n 0, 1) := by decide +kernel
theorem dX11_matterOf_120 : decode cX11_matterOf 120 = .ok (.bipush (-2), 2) := by decide +kernel
theorem dX11_matterOf_122 : decode cX11_matterOf 122 = .ok (.invokevirtual 103, 3) := by decide +kernel
theorem dX11_matterOf_125 : decode cX11_matterOf 125 = .ok (.ireturn, 1) := by decide +kernel
theorem dX11_votes_0 : decode cX11_votes 0 = .ok (.iload_n 1, 1) := by decide +kernel
theorem dX11_votes_1 : decode cX11_votes 1 = .ok (.invokestatic 125, 3) := by decide +kernel
theorem dX11_votes_4 : decode cX11_votes 4 = .ok (.ifCond .ne 9, 3) := by decide +kernel
theorem dX11_votes_7 : decode cX11_votes 7 = .ok (.aload_n 0, 1) := by decide +kernel
theorem dX11_votes_8 : decode cX11_votes 8 = .ok (.iconst (-1), 1) := by decide +kernel
theorem dX11_votes_9 : decode cX11_votes 9 = .ok (.invokevirtual 103, 3) := by decide +kernel
theorem dX11_votes_12 : decode cX11_votes 12 = .ok (.ireturn, 1) := by decide +kernel
theorem dX11_votes_13 : decode cX11_votes 13 = .ok (.iload_n 2, 1) := by decide +kernel
theorem dX11_votes_14 : decode cX11_votes 14 = .ok (.iconst 0, 1) := by decide +kernel
theorem dX11_votes_15 : decode cX11_votes 15 = .ok (.sipush 999, 3) := by decide +kernel
theorem dX11_votes_18 : decode cX11_votes 18 = .ok (.invokestatic 110, 3) := by decide +kernel
theorem dX11_votes_21 : decode cX11_votes 21 = .ok (.istore_n 3, 1) := by decide +kernel
theorem dX11_votes_22 : decode cX11_votes 22 = .ok (.iload_n 3, 1) := by decide +kernel
theorem dX11_votes_23 : decode cX11_votes 23 = .ok (.ifCond .eq 9, 3) := by decide +kernel
theorem dX11_votes_26 : decode cX11_votes 26 = .ok (.aload_n 0, 1) := by decide +kernel
theorem dX11_votes_27 : decode cX11_votes 27 = .ok (.iload_n 3, 1) := by decide +kernel
theorem dX11_votes_28 : decode cX11_votes 28 = .ok (.invokevirtual 103, 3) := by decide +kernel
theorem dX11_votes_31 : decode cX11_votes 31 = .ok (.ireturn, 1) := by decide +kernel
theorem dX11_votes_32 : decode cX11_votes 32 = .ok (.aload_n 0, 1) := by decide +kernel
theorem dX11_votes_33 : decode cX11_votes 33 = .ok (.getfield 33, 3) := by decide +kernel
theorem dX11_votes_36 : decode cX11_votes 36 = .ok (.getfield 239, 3) := by decide +kernel
theorem dX11_votes_39 : decode cX11_votes 39 = .ok (.iload_n 1, 1) := by decide +kernel
theorem dX11_votes_40 : decode cX11_votes 40 = .ok (.iaload, 1) := by decide +kernel
theorem dX11_votes_41 : decode cX11_votes 41 = .ok (.istore 4, 2) := by decide +kernel
theorem dX11_votes_43 : decode cX11_votes 43 = .ok (.aload_n 0, 1) := by decide +kernel
theorem dX11_votes_44 : decode cX11_votes 44 = .ok (.getfield 33, 3) := by decide +kernel
theorem dX11_votes_47 : decode cX11_votes 47 = .ok (.getfield 239, 3) := by decide +kernel
theorem dX11_votes_50 : decode cX11_votes 50 = .ok (.iload_n 1, 1) := by decide +kernel
theorem dX11_votes_51 : decode cX11_votes 51 = .ok (.iload_n 2, 1) := by decide +kernel
theorem dX11_votes_52 : decode cX11_votes 52 = .ok (.iastore, 1) := by decide +kernel
theorem dX11_votes_53 : decode cX11_votes 53 = .ok (.iload 4, 2) := by decide +kernel
theorem dX11_votes_55 : decode cX11_votes 55 = .ok (.ireturn, 1) := by decide +kernel
theorem dX11_elect_0 : decode cX11_elect 0 = .ok (.iload_n 1, 1) := by decide +kernel
theorem dX11_elect_1 : decode cX11_elect 1 = .ok (.iconst 1, 1) := by decide +kernel
theorem dX11_elect_2 : decode cX11_elect 2 = .ok (.bipush 9, 2) := by decide +kernel
theorem dX11_elect_4 : decode cX11_elect 4 = .ok (.invokestatic 110, 3) := by decide +kernel
theorem dX11_elect_7 : decode cX11_elect 7 = .ok (.istore_n 2, 1) := by decide +kernel
theorem dX11_elect_8 : decode cX11_elect 8 = .ok (.iload_n 2, 1) := by decide +kernel
theorem dX11_elect_9 : decode cX11_elect 9 = .ok (.ifCond .eq 9, 3) := by decide +kernel
theorem dX11_elect_12 : decode cX11_elect 12 = .ok (.aload_n 0, 1) := by decide +kernel
theorem dX11_elect_13 : decode cX11_elect 13 = .ok (.iload_n 2, 1) := by decide +kernel
theorem dX11_elect_14 : decode cX11_elect 14 = .ok (.invokevirtual 103, 3) := by decide +kernel
theorem dX11_elect_17 : decode cX11_elect 17 = .ok (.ireturn, 1) := by decide +kernel
theorem dX11_elect_18 : decode cX11_elect 18 = .ok (.aload_n 0, 1) := by decide +kernel
theorem dX11_elect_19 : decode cX11_elect 19 = .ok (.getfield 33, 3) := by decide +kernel
theorem dX11_elect_22 : decode cX11_elect 22 = .ok (.iload_n 1, 1) := by decide +kernel
theorem dX11_elect_23 : decode cX11_elect 23 = .ok (.invokevirtual 242, 3) := by decide +kernel
theorem dX11_elect_26 : decode cX11_elect 26 = .ok (.ireturn, 1) := by decide +kernel
theorem dX11_seat_0 : decode cX11_seat 0 = .ok (.aload_n 0, 1) := by decide +kernel
theorem dX11_seat_1 : decode cX11_seat 1 = .ok (.getfield 33, 3) := by decide +kernel
theorem dX11_seat_4 : decode cX11_seat 4 = .ok (.iload_n 1, 1) := by decide +kernel
theorem dX11_seat_5 : decode cX11_seat 5 = .ok (.invokevirtual 245, 3) := by decide +kernel
theorem dX11_seat_8 : decode cX11_seat 8 = .ok (.ifCond .ne 9, 3) := by decide +kernel
theorem dX11_seat_11 : decode cX11_seat 11 = .ok (.aload_n 0, 1) := by decide +kernel
theorem dX11_seat_12 : decode cX11_seat 12 = .ok (.iconst (-1), 1) := by decide +kernel
theorem dX11_seat_13 : decode cX11_seat 13 = .ok (.invokevirtual 103, 3) := by decide +kernel
theorem dX11_seat_16 : decode cX11_seat 16 = .ok (.ireturn, 1) := by decide +kernel
theorem dX11_seat_17 : decode cX11_seat 17 = .ok (.iload_n 2, 1) := by decide +kernel
theorem dX11_seat_18 : decode cX11_seat 18 = .ok (.ifCond .lt 8, 3) := by decide +kernel
theorem dX11_seat_21 : decode cX11_seat 21 = .ok (.iload_n 2, 1) := by decide +kernel
theorem dX11_seat_22 : decode cX11_seat 22 = .ok (.iconst 1, 1) := by decide +kernel
theorem dX11_seat_23 : decode cX11_seat 23 = .ok (.if_icmp .le 10, 3) := by decide +kernel
theorem dX11_seat_26 : decode cX11_seat 26 = .ok (.aload_n 0, 1) := by decide +kernel
theorem dX11_seat_27 : decode cX11_seat 27 = .ok (.bipush (-2), 2) := by decide +kernel
theorem dX11_seat_29 : decode cX11_seat 29 = .ok (.invokevirtual 103, 3) := by decide +kernel
theorem dX11_seat_32 : decode cX11_seat 32 = .ok (.ireturn, 1) := by decide +kernel
theorem dX11_seat_33 : decode cX11_seat 33 = .ok (.iload_n 2, 1) := by decide +kernel
theorem dX11_seat_34 : decode cX11_seat 34 = .ok (.ifCond .ne 15, 3) := by decide +kernel
theorem dX11_seat_37 : decode cX11_seat 37 = .ok (.aload_n 0, 1) := by decide +kernel
theorem dX11_seat_38 : decode cX11_seat 38 = .ok (.getfield 33, 3) := by decide +kernel
theorem dX11_seat_41 : decode cX11_seat 41 = .ok (.getfield 248, 3) := by decide +kernel
theorem dX11_seat_44 : decode cX11_seat 44 = .ok (.iload_n 1, 1) := by decide +kernel
theorem dX11_seat_45 : decode cX11_seat 45 = .ok (.iaload, 1) := by decide +kernel
theorem dX11_seat_46 : decode cX11_seat 46 = .ok (.goto 12, 3) := by decide +kernel
theorem dX11_seat_49 : decode cX11_seat 49 = .ok (.aload_n 0, 1) := by decide +kernel
theorem dX11_seat_50 : decode cX11_seat 50 = .ok (.getfield 33, 3) := by decide +kernel
theorem dX11_seat_53 : decode cX11_seat 53 = .ok (.getfield 251, 3) := by decide +kernel
theorem dX11_seat_56 : decode cX11_seat 56 = .ok (.iload_n 1, 1) := by decide +kernel
theorem dX11_seat_57 : decode cX11_seat 57 = .ok (.iaload, 1) := by decide +kernel
theorem dX11_seat_58 : decode cX11_seat 58 = .ok (.ireturn, 1) := by decide +kernel
theorem dX11_sit_0 : decode cX11_sit 0 = .ok (.aload_n 0, 1) := by decide +kernel
theorem dX11_sit_1 : decode cX11_sit 1 = .ok (.getfield 33, 3) := by decide +kernel
theorem dX11_sit_4 : decode cX11_sit 4 = .ok (.iload_n 1, 1) := by decide +kernel
theorem dX11_sit_5 : decode cX11_sit 5 = .ok (.invokevirtual 245, 3) := by decide +kernel
theorem dX11_sit_8 : decode cX11_sit 8 = .ok (.ifCond .eq 14, 3) := by decide +kernel
theorem dX11_sit_11 : decode cX11_sit 11 = .ok (.aload_n 0, 1) := by decide +kernel
theorem dX11_sit_12 : decode cX11_sit 12 = .ok (.getfield 19, 3) := by decide +kernel
theorem dX11_sit_15 : decode cX11_sit 15 = .ok (.iload_n 2, 1) := by decide +kernel
theorem dX11_sit_16 : decode cX11_sit 16 = .ok (.invokevirtual 141, 3) := by decide +kernel
theorem dX11_sit_19 : decode cX11_sit 19 = .ok (.ifCond .ne 9, 3) := by decide +kernel
theorem dX11_sit_22 : decode cX11_sit 22 = .ok (.aload_n 0, 1) := by decide +kernel
theorem dX11_sit_23 : decode cX11_sit 23 = .ok (.iconst (-1), 1) := by decide +kernel
theorem dX11_sit_24 : decode cX11_sit 24 = .ok (.invokevirtual 103, 3) := by decide +kernel
theorem dX11_sit_27 : decode cX11_sit 27 = .ok (.ireturn, 1) := by decide +kernel
theorem dX11_sit_28 : decode cX11_sit 28 = .ok (.aload_n 0, 1) := by decide +kernel
theorem dX11_sit_29 : decode cX11_sit 29 = .ok (.getfield 19, 3) := by decide +kernel
theorem dX11_sit_32 : decode cX11_sit 32 = .ok (.getfield 144, 3) := by decide +kernel
theorem dX11_sit_35 : decode cX11_sit 35 = .ok (.iload_n 2, 1) := by decide +kernel
theorem dX11_sit_36 : decode cX11_sit 36 = .ok (.baload, 1) := by decide +kernel
theorem dX11_sit_37 : decode cX11_sit 37 = .ok (.ifCond .eq 36, 3) := by decide +kernel
theorem dX11_sit_40 : decode cX11_sit 40 = .ok (.aload_n 0, 1) := by decide +kernel
theorem dX11_sit_41 : decode cX11_sit 41 = .ok (.getfield 19, 3) := by decide +kernel
theorem dX11_sit_44 : decode cX11_sit 44 = .ok (.getfield 254, 3) := by decide +kernel
theorem dX11_sit_47 : decode cX11_sit 47 = .ok (.iload_n 2, 1) := by decide +kernel
theorem dX11_sit_48 : decode cX11_sit 48 = .ok (.iaload, 1) := by decide +kernel
theorem dX11_sit_49 : decode cX11_sit 49 = .ok (.aload_n 0, 1) := by decide +kernel
theorem dX11_sit_50 : decode cX11_sit 50 = .ok (.getfield 33, 3) := by decide +kernel
theorem dX11_sit_53 : decode cX11_sit 53 = .ok (.getfield 248, 3) := by decide +kernel
theorem dX11_sit_56 : decode cX11_sit 56 = .ok (.iload_n 1, 1) := by decide +kernel
theorem dX11_sit_57 : decode cX11_sit 57 = .ok (.iaload, 1) := by decide +kernel
theorem dX11_sit_58 : decode cX11_sit 58 = .ok (.if_icmp .ne 15, 3) := by decide +kernel
theorem dX11_sit_61 : decode cX11_sit 61 = .ok (.aload_n 0, 1) := by decide +kernel
theorem dX11_sit_62 : decode cX11_sit 62 = .ok (.getfield 33, 3) := by decide +kernel
theorem dX11_sit_65 : decode cX11_sit 65 = .ok (.iload_n 2, 1) := by decide +kernel
theorem dX11_sit_66 : decode cX11_sit 66 = .ok (.iload_n 1, 1) := by decide +kernel
theorem dX11_sit_67 : decode cX11_sit 67 = .ok (.invokevirtual 257, 3) := by decide +kernel
theorem dX11_sit_70 : decode cX11_sit 70 = .ok (.ifCond .eq 10, 3) := by decide +kernel
theorem dX11_sit_73 : decode cX11_sit 73 = .ok (.aload_n 0, 1) := by decide +kernel
theorem dX11_sit_74 : decode cX11_sit 74 = .ok (.bipush (-3), 2) := by decide +kernel
theorem dX11_sit_76 : decode cX11_sit 76 = .ok (.invokevirtual 103, 3) := by decide +kernel
theorem dX11_sit_79 : decode cX11_sit 79 = .ok (.ireturn, 1) := by decide +kernel
theorem dX11_sit_80 : decode cX11_sit 80 = .ok (.aload_n 0, 1) := by decide +kernel
theorem dX11_sit_81 : decode cX11_sit 81 = .ok (.getfield 33, 3) := by decide +kernel
theorem dX11_sit_84 : decode cX11_sit 84 = .ok (.getfield 251, 3) := by decide +kernel
theorem dX11_sit_87 : decode cX11_sit 87 = .ok (.iload_n 1, 1) := by decide +kernel
theorem dX11_sit_88 : decode cX11_sit 88 = .ok (.iload_n 2, 1) := by decide +kernel
theorem dX11_sit_89 : decode cX11_sit 89 = .ok (.iastore, 1) := by decide +kernel
theorem dX11_sit_90 : decode cX11_sit 90 = .ok (.iconst 1, 1) := by decide +kernel
theorem dX11_sit_91 : decode cX11_sit 91 = .ok (.ireturn, 1) := by decide +kernel
theorem dX11_session_0 : decode cX11_session 0 = .ok (.iload_n 1, 1) := by decide +kernel
theorem dX11_session_1 : decode cX11_session 1 = .ok (.ifCond .lt 7, 3) := by decide +kernel
theorem dX11_session_4 : decode cX11_session 4 = .ok (.iload_n 2, 1) := by decide +kernel
theorem dX11_session_5 : decode cX11_session 5 = .ok (.ifCond .ge 10, 3) := by decide +kernel
theorem dX11_session_8 : decode cX11_session 8 = .ok (.aload_n 0, 1) := by decide +kernel
theorem dX11_session_9 : decode cX11_session 9 = .ok (.bipush (-4), 2) := by decide +kernel
theorem dX11_session_11 : decode cX11_session 11 = .ok (.invokevirtual 103, 3) := by decide +kernel
theorem dX11_session_14 : decode cX11_session 14 = .ok (.ireturn, 1) := by decide +kernel
theorem dX11_session_15 : decode cX11_session 15 = .ok (.iload_n 1, 1) := by decide +kernel
theorem dX11_session_16 : decode cX11_session 16 = .ok (.aload_n 0, 1) := by decide +kernel
theorem dX11_session_17 : decode cX11_session 17 = .ok (.getfield 10, 3) := by decide +kernel
theorem dX11_session_20 : decode cX11_session 20 = .ok (.getfield 107, 3) := by decide +kernel
theorem dX11_session_23 : decode cX11_session 23 = .ok (.if_icmp .gt 11, 3) := by decide +kernel
theorem dX11_session_26 : decode cX11_session 26 = .ok (.aload_n 0, 1) := by decide +kernel
theorem dX11_session_27 : decode cX11_session 27 = .ok (.iload_n 2, 1) := by decide +kernel
theorem dX11_session_28 : decode cX11_session 28 = .ok (.invokevirtual 261, 3) := by decide +kernel
theorem dX11_session_31 : decode cX11_session 31 = .ok (.ifCond .ne 10, 3) := by decide +kernel
theorem dX11_session_34 : decode cX11_session 34 = .ok (.aload_n 0, 1) := by decide +kernel
theorem dX11_session_35 : decode cX11_session 35 = .ok (.bipush (-3), 2) := by decide +kernel
theorem dX11_session_37 : decode cX11_session 37 = .ok (.invokevirtual 103, 3) := by decide +kernel
theorem dX11_session_40 : decode cX11_session 40 = .ok (.ireturn, 1) := by decide +kernel
theorem dX11_session_41 : decode cX11_session 41 = .ok (.aload_n 0, 1) := by decide +kernel
theorem dX11_session_42 : decode cX11_session 42 = .ok (.getfield 33, 3) := by decide +kernel
theorem dX11_session_45 : decode cX11_session 45 = .ok (.getfield 264, 3) := by decide +kernel
theorem dX11_session_48 : decode cX11_session 48 = .ok (.bipush 30, 2) := by decide +kernel
theorem dX11_session_50 : decode cX11_session 50 = .ok (.if_icmp .lt 10, 3) := by decide +kernel
theorem dX11_session_53 : decode cX11_session 53 = .ok (.aload_n 0, 1) := by decide +kernel
theorem dX11_session_54 : decode cX11_session 54 = .ok (.bipush (-6), 2) := by decide +kernel
theorem dX11_session_56 : decode cX11_session 56 = .ok (.invokevirtual 103, 3) := by decide +kernel
theorem dX11_session_59 : decode cX11_session 59 = .ok (.ireturn, 1) := by decide +kernel
theorem dX11_session_60 : decode cX11_session 60 = .ok (.aload_n 0, 1) := by decide +kernel
theorem dX11_session_61 : decode cX11_session 61 = .ok (.getfield 33, 3) := by decide +kernel
theorem dX11_session_64 : decode cX11_session 64 = .ok (.aload_n 0, 1) := by decide +kernel
theorem dX11_session_65 : decode cX11_session 65 = .ok (.getfield 10, 3) := by decide +kernel
theorem dX11_session_68 : decode cX11_session 68 = .ok (.getfield 107, 3) := by decide +kernel
theorem dX11_session_71 : decode cX11_session 71 = .ok (.iload_n 2, 1) := by decide +kernel
theorem dX11_session_72 : decode cX11_session 72 = .ok (.aload_n 0, 1) := by decide +kernel
theorem dX11_session_73 : decode cX11_session 73 = .ok (.getfield 10, 3) := by decide +kernel
theorem dX11_session_76 : decode cX11_session 76 = .ok (.getfield 107, 3) := by decide +kernel
theorem dX11_session_79 : decode cX11_session 79 = .ok (.iload_n 1, 1) := by decide +kernel
theorem dX11_session_80 : decode cX11_session 80 = .ok (.isub, 1) := by decide +kernel
theorem dX11_session_81 : decode cX11_session 81 = .ok (.aload_n 0, 1) := by decide +kernel
theorem dX11_session_82 : decode cX11_session 82 = .ok (.getfield 87, 3) := by decide +kernel
theorem dX11_session_85 : decode cX11_session 85 = .ok (.iconst 0, 1) := by decide +kernel
theorem dX11_session_86 : decode cX11_session 86 = .ok (.iaload, 1) := by decide +kernel
theorem dX11_session_87 : decode cX11_session 87 = .ok (.if_icmp .lt 7, 3) := by decide +kernel
theorem dX11_session_90 : decode cX11_session 90 = .ok (.iconst 1, 1) := by decide +kernel
theorem dX11_session_91 : decode cX11_session 91 = .ok (.goto 4, 3) := by decide +kernel
theorem dX11_session_94 : decode cX11_session 94 = .ok (.iconst 0, 1) := by decide +kernel
theorem dX11_session_95 : decode cX11_session 95 = .ok (.invokevirtual 267, 3) := by decide +kernel
theorem dX11_session_98 : decode cX11_session 98 = .ok (.ireturn, 1) := by decide +kernel
theorem dX11_vote_0 : decode cX11_vote 0 = .ok (.aload_n 0, 1) := by decide +kernel
theorem dX11_vote_1 : decode cX11_vote 1 = .ok (.iload_n 1, 1) := by decide +kernel
theorem dX11_vote_2 : decode cX11_vote 2 = .ok (.invokevirtual 204, 3) := by decide +kernel
theorem dX11_vote_5 : decode cX11_vote 5 = .ok (.ifCond .ne 9, 3) := by decide +kernel
theorem dX11_vote_8 : decode cX11_vote 8 = .ok (.aload_n 0, 1) := by decide +kernel
theorem dX11_vote_9 : decode cX11_vote 9 = .ok (.iconst (-1), 1) := by decide +kernel
theorem dX11_vote_10 : decode cX11_vote 10 = .ok (.invokevirtual 103, 3) := by decide +kernel
theorem dX11_vote_13 : decode cX11_vote 13 = .ok (.ireturn, 1) := by decide +kernel
theorem dX11_vote_14 : decode cX11_vote 14 = .ok (.aload_n 0, 1) := by decide +kernel
theorem dX11_vote_15 : decode cX11_vote 15 = .ok (.getfield 39, 3) := by decide +kernel
theorem dX11_vote_18 : decode cX11_vote 18 = .ok (.iload_n 1, 1) := by decide +kernel
theorem dX11_vote_19 : decode cX11_vote 19 = .ok (.aaload, 1) := by decide +kernel
theorem dX11_vote_20 : decode cX11_vote 20 = .ok (.astore 4, 2) := by decide +kernel
theorem dX11_vote_22 : decode cX11_vote 22 = .ok (.aload_n 0, 1) := by decide +kernel
theorem dX11_vote_23 : decode cX11_vote 23 = .ok (.getfield 33, 3) := by decide +kernel
theorem dX11_vote_26 : decode cX11_vote 26 = .ok (.getfield 264, 3) := by decide +kernel
theorem dX11_vote_29 : decode cX11_vote 29 = .ok (.iconst 1, 1) := by decide +kernel
theorem dX11_vote_30 : decode cX11_vote 30 = .ok (.isub, 1) := by decide +kernel
theorem dX11_vote_31 : decode cX11_vote 31 = .ok (.istore 5, 2) := by decide +kernel
theorem dX11_vote_33 : decode cX11_vote 33 = .ok (.aload_n 0, 1) := by decide +kernel
theorem dX11_vote_34 : decode cX11_vote 34 = .ok (.getfield 33, 3) := by decide +kernel
theorem dX11_vote_37 : decode cX11_vote 37 = .ok (.iload 5, 2) := by decide +kernel
theorem dX11_vote_39 : decode cX11_vote 39 = .ok (.invokevirtual 271, 3) := by decide +kernel
theorem dX11_vote_42 : decode cX11_vote 42 = .ok (.ifCond .eq 32, 3) := by decide +kernel
theorem dX11_vote_45 : decode cX11_vote 45 = .ok (.aload_n 0, 1) := by decide +kernel
theorem dX11_vote_46 : decode cX11_vote 46 = .ok (.getfield 33, 3) := by decide +kernel
theorem dX11_vote_49 : decode cX11_vote 49 = .ok (.getfield 274, 3) := by decide +kernel
theorem dX11_vote_52 : decode cX11_vote 52 = .ok (.iload 5, 2) := by decide +kernel
theorem dX11_vote_54 : decode cX11_vote 54 = .ok (.iaload, 1) := by decide +kernel
theorem dX11_vote_55 : decode cX11_vote 55 = .ok (.aload_n 0, 1) := by decide +kernel
theorem dX11_vote_56 : decode cX11_vote 56 = .ok (.getfield 10, 3) := by decide +kernel
theorem dX11_vote_59 : decode cX11_vote 59 = .ok (.getfield 107, 3) := by decide +kernel
theorem dX11_vote_62 : decode cX11_vote 62 = .ok (.if_icmp .ne 12, 3) := by decide +kernel
theorem dX11_vote_65 : decode cX11_vote 65 = .ok (.aload 4, 2) := by decide +kernel
theorem dX11_vote_67 : decode cX11_vote 67 = .ok (.getfield 224, 3) := by decide +kernel
theorem dX11_vote_70 : decode cX11_vote 70 = .ok (.iconst 2, 1) := by decide +kernel
theorem dX11_vote_71 : decode cX11_vote 71 = .ok (.if_icmp .ge 10, 3) := by decide +kernel
theorem dX11_vote_74 : decode cX11_vote 74 = .ok (.aload_n 0, 1) := by decide +kernel
theorem dX11_vote_75 : decode cX11_vote 75 = .ok (.bipush (-3), 2) := by decide +kernel
theorem dX11_vote_77 : decode cX11_vote 77 = .ok (.invokevirtual 103, 3) := by decide +kernel
theorem dX11_vote_80 : decode cX11_vote 80 = .ok (.ireturn, 1) := by decide +kernel
theorem dX11_vote_81 : decode cX11_vote 81 = .ok (.aload 4, 2) := by decide +kernel
theorem dX11_vote_83 : decode cX11_vote 83 = .ok (.aload_n 0, 1) := by decide +kernel
theorem dX11_vote_84 : decode cX11_vote 84 = .ok (.getfield 10, 3) := by decide +kernel
theorem dX11_vote_87 : decode cX11_vote 87 = .ok (.getfield 107, 3) := by decide +kernel
theorem dX11_vote_90 : decode cX11_vote 90 = .ok (.aload_n 0, 1) := by decide +kernel
theorem dX11_vote_91 : decode cX11_vote 91 = .ok (.getfield 10, 3) := by decide +kernel
theorem dX11_vote_94 : decode cX11_vote 94 = .ok (.getfield 107, 3) := by decide +kernel
theorem dX11_vote_97 : decode cX11_vote 97 = .ok (.invokevirtual 221, 3) := by decide +kernel
theorem dX11_vote_100 : decode cX11_vote 100 = .ok (.istore 6, 2) := by decide +kernel
theorem dX11_vote_102 : decode cX11_vote 102 = .ok (.aload_n 0, 1) := by decide +kernel
theorem dX11_vote_103 : decode cX11_vote 103 = .ok (.getfield 33, 3) := by decide +kernel
theorem dX11_vote_106 : decode cX11_vote 106 = .ok (.getfield 277, 3) := by decide +kernel
theorem dX11_vote_109 : decode cX11_vote 109 = .ok (.iload 5, 2) := by decide +kernel
theorem dX11_vote_111 : decode cX11_vote 111 = .ok (.iaload, 1) := by decide +kernel
theorem dX11_vote_112 : decode cX11_vote 112 = .ok (.istore 7, 2) := by decide +kernel
theorem dX11_vote_114 : decode cX11_vote 114 = .ok (.iload 6, 2) := by decide +kernel
theorem dX11_vote_116 : decode cX11_vote 116 = .ok (.iconst 2, 1) := by decide +kernel
theorem dX11_vote_117 : decode cX11_vote 117 = .ok (.if_icmp .eq 9, 3) := by decide +kernel
theorem dX11_vote_120 : decode cX11_vote 120 = .ok (.iload 6, 2) := by decide +kernel
theorem dX11_vote_122 : decode cX11_vote 122 = .ok (.iconst 3, 1) := by decide +kernel
theorem dX11_vote_123 : decode cX11_vote 123 = .ok (.if_icmp .ne 20, 3) := by decide +kernel
theorem dX11_vote_126 : decode cX11_vote 126 = .ok (.iload_n 2, 1) := by decide +kernel
theorem dX11_vote_127 : decode cX11_vote 127 = .ok (.iload_n 3, 1) := by decide +kernel
theorem dX11_vote_128 : decode cX11_vote 128 = .ok (.ior, 1) := by decide +kernel
theorem dX11_vote_129 : decode cX11_vote 129 = .ok (.iload 7, 2) := by decide +kernel
theorem dX11_vote_131 : decode cX11_vote 131 = .ok (.iconst (-1), 1) := by decide +kernel
theorem dX11_vote_132 : decode cX11_vote 132 = .ok (.ixor, 1) := by decide +kernel
theorem dX11_vote_133 : decode cX11_vote 133 = .ok (.iand, 1) := by decide +kernel
theorem dX11_vote_134 : decode cX11_vote 134 = .ok (.ifCond .ne 9, 3) := by decide +kernel
theorem dX11_vote_137 : decode cX11_vote 137 = .ok (.iload_n 2, 1) := by decide +kernel
theorem dX11_vote_138 : decode cX11_vote 138 = .ok (.iload_n 3, 1) := by decide +kernel
theorem dX11_vote_139 : decode cX11_vote 139 = .ok (.iand, 1) := by decide +kernel
theorem dX11_vote_140 : decode cX11_vote 140 = .ok (.ifCond .eq 10, 3) := by decide +kernel
theorem dX11_vote_143 : decode cX11_vote 143 = .ok (.aload_n 0, 1) := by decide +kernel
theorem dX11_vote_144 : decode cX11_vote 144 = .ok (.bipush (-3), 2) := by decide +kernel
theorem dX11_vote_146 : decode cX11_vote 146 = .ok (.invokevirtual 103, 3) := by decide +kernel
theorem dX11_vote_149 : decode cX11_vote 149 = .ok (.ireturn, 1) := by decide +kernel
theorem dX11_vote_150 : decode cX11_vote 150 = .ok (.aload 4, 2) := by decide +kernel
theorem dX11_vote_152 : decode cX11_vote 152 = .ok (.invokevirtual 213, 3) := by decide +kernel
theorem dX11_vote_155 : decode cX11_vote 155 = .ok (.ifCond .eq 10, 3) := by decide +kernel
theorem dX11_vote_158 : decode cX11_vote 158 = .ok (.aload_n 0, 1) := by decide +kernel
theorem dX11_vote_159 : decode cX11_vote 159 = .ok (.bipush (-6), 2) := by decide +kernel
theorem dX11_vote_161 : decode cX11_vote 161 = .ok (.invokevirtual 103, 3) := by decide +kernel
theorem dX11_vote_164 : decode cX11_vote 164 = .ok (.ireturn, 1) := by decide +kernel
theorem dX11_vote_165 : decode cX11_vote 165 = .ok (.iconst 2, 1) := by decide +kernel
theorem dX11_vote_166 : decode cX11_vote 166 = .ok (.iload_n 2, 1) := by decide +kernel
theorem dX11_vote_167 : decode cX11_vote 167 = .ok (.invokestatic 280, 3) := by decide +kernel
theorem dX11_vote_170 : decode cX11_vote 170 = .ok (.imul, 1) := by decide +kernel
theorem dX11_vote_171 : decode cX11_vote 171 = .ok (.iload 7, 2) := by decide +kernel
theorem dX11_vote_173 : decode cX11_vote 173 = .ok (.invokestatic 280, 3) := by decide +kernel
theorem dX11_vote_176 : decode cX11_vote 176 = .ok (.if_icmp .le 7, 3) := by decide +kernel
theorem dX11_vote_179 : decode cX11_vote 179 = .ok (.iconst 1, 1) := by decide +kernel
theorem dX11_vote_180 : decode cX11_vote 180 = .ok (.goto 4, 3) := by decide +kernel
theorem dX11_vote_183 : decode cX11_vote 183 = .ok (.iconst 0, 1) := by decide +kernel
theorem dX11_vote_184 : decode cX11_vote 184 = .ok (.istore 8, 2) := by decide +kernel
theorem dX11_vote_186 : decode cX11_vote 186 = .ok (.aload 4, 2) := by decide +kernel
theorem dX11_vote_188 : decode cX11_vote 188 = .ok (.iconst 3, 1) := by decide +kernel
theorem dX11_vote_189 : decode cX11_vote 189 = .ok (.iconst 2, 1) := by decide +kernel
theorem dX11_vote_190 : decode cX11_vote 190 = .ok (.iload 5, 2) := by decide +kernel
theorem dX11_vote_192 : decode cX11_vote 192 = .ok (.imul, 1) := by decide +kernel
theorem dX11_vote_193 : decode cX11_vote 193 = .ok (.iload 8, 2) := by decide +kernel
theorem dX11_vote_195 : decode cX11_vote 195 = .ok (.iadd, 1) := by decide +kernel
theorem dX11_vote_196 : decode cX11_vote 196 = .ok (.invokevirtual 217, 3) := by decide +kernel
theorem dX11_vote_199 : decode cX11_vote 199 = .ok (.pop, 1) := by decide +kernel
theorem dX11_vote_200 : decode cX11_vote 200 = .ok (.aload_n 0, 1) := by decide +kernel
theorem dX11_vote_201 : decode cX11_vote 201 = .ok (.getfield 33, 3) := by decide +kernel
theorem dX11_vote_204 : decode cX11_vote 204 = .ok (.getfield 285, 3) := by decide +kernel
theorem dX11_vote_207 : decode cX11_vote 207 = .ok (.iload 5, 2) := by decide +kernel
theorem dX11_vote_209 : decode cX11_vote 209 = .ok (.dup2, 1) := by decide +kernel
theorem dX11_vote_210 : decode cX11_vote 210 = .ok (.iaload, 1) := by decide +kernel
theorem dX11_vote_211 : decode cX11_vote 211 = .ok (.iconst 1, 1) := by decide +kernel
theorem dX11_vote_212 : decode cX11_vote 212 = .ok (.iadd, 1) := by decide +kernel
theorem dX11_vote_213 : decode cX11_vote 213 = .ok (.iastore, 1) := by decide +kernel
theorem dX11_vote_214 : decode cX11_vote 214 = .ok (.iload 8, 2) := by decide +kernel
theorem dX11_vote_216 : decode cX11_vote 216 = .ok (.ireturn, 1) := by decide +kernel
theorem dX11_sessionOf_0 : decode cX11_sessionOf 0 = .ok (.aload_n 0, 1) := by decide +kernel
theorem dX11_sessionOf_1 : decode cX11_sessionOf 1 = .ok (.getfield 33, 3) := by decide +kernel
theorem dX11_sessionOf_4 : decode cX11_sessionOf 4 = .ok (.iload_n 1, 1) := by decide +kernel
theorem dX11_sessionOf_5 : decode cX11_sessionOf 5 = .ok (.invokevirtual 271, 3) := by decide +kernel
theorem dX11_sessionOf_8 : decode cX11_sessionOf 8 = .ok (.ifCond .ne 9, 3) := by decide +kernel
theorem dX11_sessionOf_11 : decode cX11_sessionOf 11 = .ok (.aload_n 0, 1) := by decide +kernel
theorem dX11_sessionOf_12 : decode cX11_sessionOf 12 = .ok (.iconst (-1), 1) := by decide +kernel
theorem dX11_sessionOf_13 : decode cX11_sessionOf 13 = .ok (.invokevirtual 103, 3) := by decide +kernel
theorem dX11_sessionOf_16 : decode cX11_sessionOf 16 = .ok (.ireturn, 1) := by decide +kernel
theorem dX11_sessionOf_17 : decode cX11_sessionOf 17 = .ok (.iload_n 2, 1) := by decide +kernel
theorem dX11_sessionOf_18 : decode cX11_sessionOf 18 = .ok (.tableswitch 88 0 3 #[30, 40, 50, 68], 30) := by decide +kernel
theorem dX11_sessionOf_48 : decode cX11_sessionOf 48 = .ok (.aload_n 0, 1) := by decide +kernel
theorem dX11_sessionOf_49 : decode cX11_sessionOf 49 = .ok (.getfield 33, 3) := by decide +kernel
theorem dX11_sessionOf_52 : decode cX11_sessionOf 52 = .ok (.getfield 274, 3) := by decide +kernel
theorem dX11_sessionOf_55 : decode cX11_sessionOf 55 = .ok (.iload_n 1, 1) := by decide +kernel
theorem dX11_sessionOf_56 : decode cX11_sessionOf 56 = .ok (.iaload, 1) := by decide +kernel
theorem dX11_sessionOf_57 : decode cX11_sessionOf 57 = .ok (.ireturn, 1) := by decide +kernel
theorem dX11_sessionOf_58 : decode cX11_sessionOf 58 = .ok (.aload_n 0, 1) := by decide +kernel
theorem dX11_sessionOf_59 : decode cX11_sessionOf 59 = .ok (.getfield 33, 3) := by decide +kernel
theorem dX11_sessionOf_62 : decode cX11_sessionOf 62 = .ok (.getfield 277, 3) := by decide +kernel
theorem dX11_sessionOf_65 : decode cX11_sessionOf 65 = .ok (.iload_n 1, 1) := by decide +kernel
theorem dX11_sessionOf_66 : decode cX11_sessionOf 66 = .ok (.iaload, 1) := by decide +kernel
theorem dX11_sessionOf_67 : decode cX11_sessionOf 67 = .ok (.ireturn, 1) := by decide +kernel
theorem dX11_sessionOf_68 : decode cX11_sessionOf 68 = .ok (.aload_n 0, 1) := by decide +kernel
theorem dX11_sessionOf_69 : decode cX11_sessionOf 69 = .ok (.getfield 33, 3) := by decide +kernel
theorem dX11_sessionOf_72 : decode cX11_sessionOf 72 = .ok (.getfield 288, 3) := by decide +kernel
theorem dX11_sessionOf_75 : decode cX11_sessionOf 75 = .ok (.iload_n 1, 1) := by decide +kernel
theorem dX11_sessionOf_76 : decode cX11_sessionOf 76 = .ok (.baload, 1) := by decide +kernel
theorem dX11_sessionOf_77 : decode cX11_sessionOf 77 = .ok (.ifCond .eq 7, 3) := by decide +kernel
theorem dX11_sessionOf_80 : decode cX11_sessionOf 80 = .ok (.iconst 1, 1) := by decide +kernel
theorem dX11_sessionOf_81 : decode cX11_sessionOf 81 = .ok (.goto 4, 3) := by decide +kernel
theorem dX11_sessionOf_84 : decode cX11_sessionOf 84 = .ok (.iconst 0, 1) := by decide +kernel
theorem dX11_sessionOf_85 : decode cX11_sessionOf 85 = .ok (.ireturn, 1) := by decide +kernel
theorem dX11_sessionOf_86 : decode cX11_sessionOf 86 = .ok (.aload_n 0, 1) := by decide +kernel
theorem dX11_sessionOf_87 : decode cX11_sessionOf 87 = .ok (.getfield 33, 3) := by decide +kernel
theorem dX11_sessionOf_90 : decode cX11_sessionOf 90 = .ok (.getfield 291, 3) := by decide +kernel
theorem dX11_sessionOf_93 : decode cX11_sessionOf 93 = .ok (.iload_n 1, 1) := by decide +kernel
theorem dX11_sessionOf_94 : decode cX11_sessionOf 94 = .ok (.iaload, 1) := by decide +kernel
theorem dX11_sessionOf_95 : decode cX11_sessionOf 95 = .ok (.ldc 169, 2) := by decide +kernel
theorem dX11_sessionOf_97 : decode cX11_sessionOf 97 = .ok (.if_icmp .eq 7, 3) := by decide +kernel
theorem dX11_sessionOf_100 : decode cX11_sessionOf 100 = .ok (.iconst 1, 1) := by decide +kernel
theorem dX11_sessionOf_101 : decode cX11_sessionOf 101 = .ok (.goto 4, 3) := by decide +kernel
theorem dX11_sessionOf_104 : decode cX11_sessionOf 104 = .ok (.iconst 0, 1) := by decide +kernel
theorem dX11_sessionOf_105 : decode cX11_sessionOf 105 = .ok (.ireturn, 1) := by decide +kernel
theorem dX11_sessionOf_106 : decode cX11_sessionOf 106 = .ok (.aload_n 0, 1) := by decide +kernel
theorem dX11_sessionOf_107 : decode cX11_sessionOf 107 = .ok (.bipush (-2), 2) := by decide +kernel
theorem dX11_sessionOf_109 : decode cX11_sessionOf 109 = .ok (.invokevirtual 103, 3) := by decide +kernel
theorem dX11_sessionOf_112 : decode cX11_sessionOf 112 = .ok (.ireturn, 1) := by decide +kernel
theorem dX11_voids_0 : decode cX11_voids 0 = .ok (.aload_n 0, 1) := by decide +kernel
theorem dX11_voids_1 : decode cX11_voids 1 = .ok (.getfield 33, 3) := by decide +kernel
theorem dX11_voids_4 : decode cX11_voids 4 = .ok (.iload_n 1, 1) := by decide +kernel
theorem dX11_voids_5 : decode cX11_voids 5 = .ok (.invokevirtual 271, 3) := by decide +kernel
theorem dX11_voids_8 : decode cX11_voids 8 = .ok (.ifCond .ne 9, 3) := by decide +kernel
theorem dX11_voids_11 : decode cX11_voids 11 = .ok (.aload_n 0, 1) := by decide +kernel
theorem dX11_voids_12 : decode cX11_voids 12 = .ok (.iconst (-1), 1) := by decide +kernel
theorem dX11_voids_13 : decode cX11_voids 13 = .ok (.invokevirtual 103, 3) := by decide +kernel
theorem dX11_voids_16 : decode cX11_voids 16 = .ok (.ireturn, 1) := by decide +kernel
theorem dX11_voids_17 : decode cX11_voids 17 = .ok (.aload_n 0, 1) := by decide +kernel
theorem dX11_voids_18 : decode cX11_voids 18 = .ok (.getfield 33, 3) := by decide +kernel
theorem dX11_voids_21 : decode cX11_voids 21 = .ok (.getfield 288, 3) := by decide +kernel
theorem dX11_voids_24 : decode cX11_voids 24 = .ok (.iload_n 1, 1) := by decide +kernel
theorem dX11_voids_25 : decode cX11_voids 25 = .ok (.baload, 1) := by decide +kernel
theorem dX11_voids_26 : decode cX11_voids 26 = .ok (.ifCond .ne 17, 3) := by decide +kernel
theorem dX11_voids_29 : decode cX11_voids 29 = .ok (.aload_n 0, 1) := by decide +kernel
theorem dX11_voids_30 : decode cX11_voids 30 = .ok (.getfield 33, 3) := by decide +kernel
theorem dX11_voids_33 : decode cX11_voids 33 = .ok (.getfield 291, 3) := by decide +kernel
theorem dX11_voids_36 : decode cX11_voids 36 = .ok (.iload_n 1, 1) := by decide +kernel
theorem dX11_voids_37 : decode cX11_voids 37 = .ok (.iaload, 1) := by decide +kernel
theorem dX11_voids_38 : decode cX11_voids 38 = .ok (.ldc 169, 2) := by decide +kernel
theorem dX11_voids_40 : decode cX11_voids 40 = .ok (.if_icmp .eq 10, 3) := by decide +kernel
theorem dX11_voids_43 : decode cX11_voids 43 = .ok (.aload_n 0, 1) := by decide +kernel
theorem dX11_voids_44 : decode cX11_voids 44 = .ok (.bipush (-3), 2) := by decide +kernel
theorem dX11_voids_46 : decode cX11_voids 46 = .ok (.invokevirtual 103, 3) := by decide +kernel
theorem dX11_voids_49 : decode cX11_voids 49 = .ok (.ireturn, 1) := by decide +kernel
theorem dX11_voids_50 : decode cX11_voids 50 = .ok (.aload_n 0, 1) := by decide +kernel
theorem dX11_voids_51 : decode cX11_voids 51 = .ok (.getfield 33, 3) := by decide +kernel
theorem dX11_voids_54 : decode cX11_voids 54 = .ok (.getfield 291, 3) := by decide +kernel
theorem dX11_voids_57 : decode cX11_voids 57 = .ok (.iload_n 1, 1) := by decide +kernel
theorem dX11_voids_58 : decode cX11_voids 58 = .ok (.aload_n 0, 1) := by decide +kernel
theorem dX11_voids_59 : decode cX11_voids 59 = .ok (.getfield 10, 3) := by decide +kernel
theorem dX11_voids_62 : decode cX11_voids 62 = .ok (.getfield 107, 3) := by decide +kernel
theorem dX11_voids_65 : decode cX11_voids 65 = .ok (.iastore, 1) := by decide +kernel
theorem dX11_voids_66 : decode cX11_voids 66 = .ok (.aload_n 0, 1) := by decide +kernel
theorem dX11_voids_67 : decode cX11_voids 67 = .ok (.getfield 33, 3) := by decide +kernel
theorem dX11_voids_70 : decode cX11_voids 70 = .ok (.getfield 285, 3) := by decide +kernel
theorem dX11_voids_73 : decode cX11_voids 73 = .ok (.iload_n 1, 1) := by decide +kernel
theorem dX11_voids_74 : decode cX11_voids 74 = .ok (.iaload, 1) := by decide +kernel
theorem dX11_voids_75 : decode cX11_voids 75 = .ok (.ireturn, 1) := by decide +kernel
theorem dX11_set_0 : decode cX11_set 0 = .ok (.iload_n 1, 1) := by decide +kernel
theorem dX11_set_1 : decode cX11_set 1 = .ok (.ifCond .lt 8, 3) := by decide +kernel
theorem dX11_set_4 : decode cX11_set 4 = .ok (.iload_n 1, 1) := by decide +kernel
theorem dX11_set_5 : decode cX11_set 5 = .ok (.iconst 4, 1) := by decide +kernel
theorem dX11_set_6 : decode cX11_set 6 = .ok (.if_icmp .le 10, 3) := by decide +kernel
theorem dX11_set_9 : decode cX11_set 9 = .ok (.aload_n 0, 1) := by decide +kernel
theorem dX11_set_10 : decode cX11_set 10 = .ok (.bipush (-2), 2) := by decide +kernel
theorem dX11_set_12 : decode cX11_set 12 = .ok (.invokevirtual 103, 3) := by decide +kernel
theorem dX11_set_15 : decode cX11_set 15 = .ok (.ireturn, 1) := by decide +kernel
theorem dX11_set_16 : decode cX11_set 16 = .ok (.iload_n 2, 1) := by decide +kernel
theorem dX11_set_17 : decode cX11_set 17 = .ok (.getstatic 294, 3) := by decide +kernel
theorem dX11_set_20 : decode cX11_set 20 = .ok (.iload_n 1, 1) := by decide +kernel
theorem dX11_set_21 : decode cX11_set 21 = .ok (.iaload, 1) := by decide +kernel
theorem dX11_set_22 : decode cX11_set 22 = .ok (.getstatic 297, 3) := by decide +kernel
theorem dX11_set_25 : decode cX11_set 25 = .ok (.iload_n 1, 1) := by decide +kernel
theorem dX11_set_26 : decode cX11_set 26 = .ok (.iaload, 1) := by decide +kernel
theorem dX11_set_27 : decode cX11_set 27 = .ok (.invokestatic 110, 3) := by decide +kernel
theorem dX11_set_30 : decode cX11_set 30 = .ok (.istore_n 3, 1) := by decide +kernel
theorem dX11_set_31 : decode cX11_set 31 = .ok (.iload_n 3, 1) := by decide +kernel
theorem dX11_set_32 : decode cX11_set 32 = .ok (.ifCond .eq 9, 3) := by decide +kernel
theorem dX11_set_35 : decode cX11_set 35 = .ok (.aload_n 0, 1) := by decide +kernel
theorem dX11_set_36 : decode cX11_set 36 = .ok (.iload_n 3, 1) := by decide +kernel
theorem dX11_set_37 : decode cX11_set 37 = .ok (.invokevirtual 103, 3) := by decide +kernel
theorem dX11_set_40 : decode cX11_set 40 = .ok (.ireturn, 1) := by decide +kernel
theorem dX11_set_41 : decode cX11_set 41 = .ok (.aload_n 0, 1) := by decide +kernel
theorem dX11_set_42 : decode cX11_set 42 = .ok (.getfield 87, 3) := by decide +kernel
theorem dX11_set_45 : decode cX11_set 45 = .ok (.iload_n 1, 1) := by decide +kernel
theorem dX11_set_46 : decode cX11_set 46 = .ok (.iaload, 1) := by decide +kernel
theorem dX11_set_47 : decode cX11_set 47 = .ok (.istore 4, 2) := by decide +kernel
theorem dX11_set_49 : decode cX11_set 49 = .ok (.aload_n 0, 1) := by decide +kernel
theorem dX11_set_50 : decode cX11_set 50 = .ok (.getfield 87, 3) := by decide +kernel
theorem dX11_set_53 : decode cX11_set 53 = .ok (.iload_n 1, 1) := by decide +kernel
theorem dX11_set_54 : decode cX11_set 54 = .ok (.iload_n 2, 1) := by decide +kernel
theorem dX11_set_55 : decode cX11_set 55 = .ok (.iastore, 1) := by decide +kernel
theorem dX11_set_56 : decode cX11_set 56 = .ok (.iload 4, 2) := by decide +kernel
theorem dX11_set_58 : decode cX11_set 58 = .ok (.ireturn, 1) := by decide +kernel
theorem dX11_agree_0 : decode cX11_agree 0 = .ok (.aload_n 0, 1) := by decide +kernel
theorem dX11_agree_1 : decode cX11_agree 1 = .ok (.iload_n 1, 1) := by decide +kernel
theorem dX11_agree_2 : decode cX11_agree 2 = .ok (.invokevirtual 204, 3) := by decide +kernel
theorem dX11_agree_5 : decode cX11_agree 5 = .ok (.ifCond .ne 9, 3) := by decide +kernel
theorem dX11_agree_8 : decode cX11_agree 8 = .ok (.aload_n 0, 1) := by decide +kernel
theorem dX11_agree_9 : decode cX11_agree 9 = .ok (.iconst (-1), 1) := by decide +kernel
theorem dX11_agree_10 : decode cX11_agree 10 = .ok (.invokevirtual 103, 3) := by decide +kernel
theorem dX11_agree_13 : decode cX11_agree 13 = .ok (.ireturn, 1) := by decide +kernel
theorem dX11_agree_14 : decode cX11_agree 14 = .ok (.aload_n 0, 1) := by decide +kernel
theorem dX11_agree_15 : decode cX11_agree 15 = .ok (.getfield 39, 3) := by decide +kernel
theorem dX11_agree_18 : decode cX11_agree 18 = .ok (.iload_n 1, 1) := by decide +kernel
theorem dX11_agree_19 : decode cX11_agree 19 = .ok (.aaload, 1) := by decide +kernel
theorem dX11_agree_20 : decode cX11_agree 20 = .ok (.getfield 224, 3) := by decide +kernel
theorem dX11_agree_23 : decode cX11_agree 23 = .ok (.iconst 3, 1) := by decide +kernel
theorem dX11_agree_24 : decode cX11_agree 24 = .ok (.if_icmp .ne 33, 3) := by decide +kernel
theorem dX11_agree_27 : decode cX11_agree 27 = .ok (.aload_n 0, 1) := by decide +kernel
theorem dX11_agree_28 : decode cX11_agree 28 = .ok (.getfield 39, 3) := by decide +kernel
theorem dX11_agree_31 : decode cX11_agree 31 = .ok (.iload_n 1, 1) := by decide +kernel
theorem dX11_agree_32 : decode cX11_agree 32 = .ok (.aaload, 1) := by decide +kernel
theorem dX11_agree_33 : decode cX11_agree 33 = .ok (.aload_n 0, 1) := by decide +kernel
theorem dX11_agree_34 : decode cX11_agree 34 = .ok (.getfield 10, 3) := by decide +kernel
theorem dX11_agree_37 : decode cX11_agree 37 = .ok (.getfield 107, 3) := by decide +kernel
theorem dX11_agree_40 : decode cX11_agree 40 = .ok (.invokevirtual 230, 3) := by decide +kernel
theorem dX11_agree_43 : decode cX11_agree 43 = .ok (.ifCond .eq 14, 3) := by decide +kernel
theorem dX11_agree_46 : decode cX11_agree 46 = .ok (.aload_n 0, 1) := by decide +kernel
theorem dX11_agree_47 : decode cX11_agree 47 = .ok (.getfield 50, 3) := by decide +kernel
theorem dX11_agree_50 : decode cX11_agree 50 = .ok (.iload_n 1, 1) := by decide +kernel
theorem dX11_agree_51 : decode cX11_agree 51 = .ok (.invokevirtual 300, 3) := by decide +kernel
theorem dX11_agree_54 : decode cX11_agree 54 = .ok (.ifCond .eq 10, 3) := by decide +kernel
theorem dX11_agree_57 : decode cX11_agree 57 = .ok (.aload_n 0, 1) := by decide +kernel
theorem dX11_agree_58 : decode cX11_agree 58 = .ok (.bipush (-3), 2) := by decide +kernel
theorem dX11_agree_60 : decode cX11_agree 60 = .ok (.invokevirtual 103, 3) := by decide +kernel
theorem dX11_agree_63 : decode cX11_agree 63 = .ok (.ireturn, 1) := by decide +kernel
theorem dX11_agree_64 : decode cX11_agree 64 = .ok (.iload_n 2, 1) := by decide +kernel
theorem dX11_agree_65 : decode cX11_agree 65 = .ok (.iconst 0, 1) := by decide +kernel
theorem dX11_agree_66 : decode cX11_agree 66 = .ok (.sipush 9999, 3) := by decide +kernel
theorem dX11_agree_69 : decode cX11_agree 69 = .ok (.invokestatic 110, 3) := by decide +kernel
theorem dX11_agree_72 : decode cX11_agree 72 = .ok (.iload_n 3, 1) := by decide +kernel
theorem dX11_agree_73 : decode cX11_agree 73 = .ok (.aload_n 0, 1) := by decide +kernel
theorem dX11_agree_74 : decode cX11_agree 74 = .ok (.getfield 10, 3) := by decide +kernel
theorem dX11_agree_77 : decode cX11_agree 77 = .ok (.getfield 107, 3) := by decide +kernel
theorem dX11_agree_80 : decode cX11_agree 80 = .ok (.sipush 1000, 3) := by decide +kernel
theorem dX11_agree_83 : decode cX11_agree 83 = .ok (.invokestatic 110, 3) := by decide +kernel
theorem dX11_agree_86 : decode cX11_agree 86 = .ok (.invokestatic 118, 3) := by decide +kernel
theorem dX11_agree_89 : decode cX11_agree 89 = .ok (.istore 5, 2) := by decide +kernel
theorem dX11_agree_91 : decode cX11_agree 91 = .ok (.iload 4, 2) := by decide +kernel
theorem dX11_agree_93 : decode cX11_agree 93 = .ok (.iconst (-1), 1) := by decide +kernel
theorem dX11_agree_94 : decode cX11_agree 94 = .ok (.if_icmp .eq 19, 3) := by decide +kernel
theorem dX11_agree_97 : decode cX11_agree 97 = .ok (.iload 5, 2) := by decide +kernel
theorem dX11_agree_99 : decode cX11_agree 99 = .ok (.iload 4, 2) := by decide +kernel
theorem dX11_agree_101 : decode cX11_agree 101 = .ok (.iload_n 3, 1) := by decide +kernel
theorem dX11_agree_102 : decode cX11_agree 102 = .ok (.sipush 1000, 3) := by decide +kernel
theorem dX11_agree_105 : decode cX11_agree 105 = .ok (.invokestatic 110, 3) := by decide +kernel
theorem dX11_agree_108 : decode cX11_agree 108 = .ok (.invokestatic 118, 3) := by decide +kernel
theorem dX11_agree_111 : decode cX11_agree 111 = .ok (.istore 5, 2) := by decide +kernel
theorem dX11_agree_113 : decode cX11_agree 113 = .ok (.iload 5, 2) := by decide +kernel
theorem dX11_agree_115 : decode cX11_agree 115 = .ok (.aload_n 0, 1) := by decide +kernel
theorem dX11_agree_116 : decode cX11_agree 116 = .ok (.getfield 50, 3) := by decide +kernel
theorem dX11_agree_119 : decode cX11_agree 119 = .ok (.getfield 303, 3) := by decide +kernel
theorem dX11_agree_122 : decode cX11_agree 122 = .ok (.bipush 30, 2) := by decide +kernel
theorem dX11_agree_124 : decode cX11_agree 124 = .ok (.invokestatic 131, 3) := by decide +kernel
theorem dX11_agree_127 : decode cX11_agree 127 = .ok (.invokestatic 118, 3) := by decide +kernel
theorem dX11_agree_130 : decode cX11_agree 130 = .ok (.istore 5, 2) := by decide +kernel
theorem dX11_agree_132 : decode cX11_agree 132 = .ok (.iload 5, 2) := by decide +kernel
theorem dX11_agree_134 : decode cX11_agree 134 = .ok (.ifCond .eq 10, 3) := by decide +kernel
theorem dX11_agree_137 : decode cX11_agree 137 = .ok (.aload_n 0, 1) := by decide +kernel
theorem dX11_agree_138 : decode cX11_agree 138 = .ok (.iload 5, 2) := by decide +kernel
theorem dX11_agree_140 : decode cX11_agree 140 = .ok (.invokevirtual 103, 3) := by decide +kernel
theorem dX11_agree_143 : decode cX11_agree 143 = .ok (.ireturn, 1) := by decide +kernel
theorem dX11_agree_144 : decode cX11_agree 144 = .ok (.aload_n 0, 1) := by decide +kernel
theorem dX11_agree_145 : decode cX11_agree 145 = .ok (.getfield 50, 3) := by decide +kernel
theorem dX11_agree_148 : decode cX11_agree 148 = .ok (.iload_n 1, 1) := by decide +kernel
theorem dX11_agree_149 : decode cX11_agree 149 = .ok (.iload_n 2, 1) := by decide +kernel
theorem dX11_agree_150 : decode cX11_agree 150 = .ok (.iload_n 3, 1) := by decide +kernel
theorem dX11_agree_151 : decode cX11_agree 151 = .ok (.iload 4, 2) := by decide +kernel
theorem dX11_agree_153 : decode cX11_agree 153 = .ok (.iconst (-1), 1) := by decide +kernel
theorem dX11_agree_154 : decode cX11_agree 154 = .ok (.if_icmp .ne 8, 3) := by decide +kernel
theorem dX11_agree_157 : decode cX11_agree 157 = .ok (.ldc 169, 2) := by decide +kernel
theorem dX11_agree_159 : decode cX11_agree 159 = .ok (.goto 5, 3) := by decide +kernel
theorem dX11_agree_162 : decode cX11_agree 162 = .ok (.iload 4, 2) := by decide +kernel
theorem dX11_agree_164 : decode cX11_agree 164 = .ok (.aload_n 0, 1) := by decide +kernel
theorem dX11_agree_165 : decode cX11_agree 165 = .ok (.getfield 10, 3) := by decide +kernel
theorem dX11_agree_168 : decode cX11_agree 168 = .ok (.getfield 107, 3) := by decide +kernel
theorem dX11_agree_171 : decode cX11_agree 171 = .ok (.invokevirtual 304, 3) := by decide +kernel
theorem dX11_agree_174 : decode cX11_agree 174 = .ok (.ireturn, 1) := by decide +kernel
theorem dX11_cancel_0 : decode cX11_cancel 0 = .ok (.aload_n 0, 1) := by decide +kernel
theorem dX11_cancel_1 : decode cX11_cancel 1 = .ok (.getfield 50, 3) := by decide +kernel
theorem dX11_cancel_4 : decode cX11_cancel 4 = .ok (.iload_n 1, 1) := by decide +kernel
theorem dX11_cancel_5 : decode cX11_cancel 5 = .ok (.invokevirtual 305, 3) := by decide +kernel
theorem dX11_cancel_8 : decode cX11_cancel 8 = .ok (.ifCond .ne 9, 3) := by decide +kernel
theorem dX11_cancel_11 : decode cX11_cancel 11 = .ok (.aload_n 0, 1) := by decide +kernel
theorem dX11_cancel_12 : decode cX11_cancel 12 = .ok (.iconst (-1), 1) := by decide +kernel
theorem dX11_cancel_13 : decode cX11_cancel 13 = .ok (.invokevirtual 103, 3) := by decide +kernel
theorem dX11_cancel_16 : decode cX11_cancel 16 = .ok (.ireturn, 1) := by decide +kernel
theorem dX11_cancel_17 : decode cX11_cancel 17 = .ok (.aload_n 0, 1) := by decide +kernel
theorem dX11_cancel_18 : decode cX11_cancel 18 = .ok (.getfield 50, 3) := by decide +kernel
theorem dX11_cancel_21 : decode cX11_cancel 21 = .ok (.getfield 306, 3) := by decide +kernel
theorem dX11_cancel_24 : decode cX11_cancel 24 = .ok (.iload_n 1, 1) := by decide +kernel
theorem dX11_cancel_25 : decode cX11_cancel 25 = .ok (.baload, 1) := by decide +kernel
theorem dX11_cancel_26 : decode cX11_cancel 26 = .ok (.ifCond .eq 10, 3) := by decide +kernel
theorem dX11_cancel_29 : decode cX11_cancel 29 = .ok (.aload_n 0, 1) := by decide +kernel
theorem dX11_cancel_30 : decode cX11_cancel 30 = .ok (.bipush (-3), 2) := by decide +kernel
theorem dX11_cancel_32 : decode cX11_cancel 32 = .ok (.invokevirtual 103, 3) := by decide +kernel
theorem dX11_cancel_35 : decode cX11_cancel 35 = .ok (.ireturn, 1) := by decide +kernel
theorem dX11_cancel_36 : decode cX11_cancel 36 = .ok (.aload_n 0, 1) := by decide +kernel
theorem dX11_cancel_37 : decode cX11_cancel 37 = .ok (.getfield 50, 3) := by decide +kernel
theorem dX11_cancel_40 : decode cX11_cancel 40 = .ok (.iload_n 1, 1) := by decide +kernel
theorem dX11_cancel_41 : decode cX11_cancel 41 = .ok (.aload_n 0, 1) := by decide +kernel
theorem dX11_cancel_42 : decode cX11_cancel 42 = .ok (.getfield 10, 3) := by decide +kernel
theorem dX11_cancel_45 : decode cX11_cancel 45 = .ok (.getfield 107, 3) := by decide +kernel
theorem dX11_cancel_48 : decode cX11_cancel 48 = .ok (.aload_n 0, 1) := by decide +kernel
theorem dX11_cancel_49 : decode cX11_cancel 49 = .ok (.getfield 87, 3) := by decide +kernel
theorem dX11_cancel_52 : decode cX11_cancel 52 = .ok (.iconst 1, 1) := by decide +kernel
theorem dX11_cancel_53 : decode cX11_cancel 53 = .ok (.iaload, 1) := by decide +kernel
theorem dX11_cancel_54 : decode cX11_cancel 54 = .ok (.iadd, 1) := by decide +kernel
theorem dX11_cancel_55 : decode cX11_cancel 55 = .ok (.invokevirtual 309, 3) := by decide +kernel
theorem dX11_cancel_58 : decode cX11_cancel 58 = .ok (.ireturn, 1) := by decide +kernel
theorem dX11_agreementOf_0 : decode cX11_agreementOf 0 = .ok (.aload_n 0, 1) := by decide +kernel
theorem dX11_agreementOf_1 : decode cX11_agreementOf 1 = .ok (.getfield 50, 3) := by decide +kernel
theorem dX11_agreementOf_4 : decode cX11_agreementOf 4 = .ok (.iload_n 1, 1) := by decide +kernel
theorem dX11_agreementOf_5 : decode cX11_agreementOf 5 = .ok (.invokevirtual 305, 3) := by decide +kernel
theorem dX11_agreementOf_8 : decode cX11_agreementOf 8 = .ok (.ifCond .ne 9, 3) := by decide +kernel
theorem dX11_agreementOf_11 : decode cX11_agreementOf 11 = .ok (.aload_n 0, 1) := by decide +kernel
theorem dX11_agreementOf_12 : decode cX11_agreementOf 12 = .ok (.iconst (-1), 1) := by decide +kernel
theorem dX11_agreementOf_13 : decode cX11_agreementOf 13 = .ok (.invokevirtual 103, 3) := by decide +kernel
theorem dX11_agreementOf_16 : decode cX11_agreementOf 16 = .ok (.ireturn, 1) := by decide +kernel
theorem dX11_agreementOf_17 : decode cX11_agreementOf 17 = .ok (.iload_n 2, 1) := by decide +kernel
theorem dX11_agreementOf_18 : decode cX11_agreementOf 18 = .ok (.tableswitch 88 0 4 #[34, 44, 54, 64, 74], 34) := by decide +kernel
theorem dX11_agreementOf_52 : decode cX11_agreementOf 52 = .ok (.aload_n 0, 1) := by decide +kernel
theorem dX11_agreementOf_53 : decode cX11_agreementOf 53 = .ok (.getfield 50, 3) := by decide +kernel
theorem dX11_agreementOf_56 : decode cX11_agreementOf 56 = .ok (.getfield 312, 3) := by decide +kernel
theorem dX11_agreementOf_59 : decode cX11_agreementOf 59 = .ok (.iload_n 1, 1) := by decide +kernel
theorem dX11_agreementOf_60 : decode cX11_agreementOf 60 = .ok (.iaload, 1) := by decide +kernel
theorem dX11_agreementOf_61 : decode cX11_agreementOf 61 = .ok (.ireturn, 1) := by decide +kernel
theorem dX11_agreementOf_62 : decode cX11_agreementOf 62 = .ok (.aload_n 0, 1) := by decide +kernel
theorem dX11_agreementOf_63 : decode cX11_agreementOf 63 = .ok (.getfield 50, 3) := by decide +kernel
theorem dX11_agreementOf_66 : decode cX11_agreementOf 66 = .ok (.getfield 315, 3) := by decide +kernel
theorem dX11_agreementOf_69 : decode cX11_agreementOf 69 = .ok (.iload_n 1, 1) := by decide +kernel
theorem dX11_agreementOf_70 : decode cX11_agreementOf 70 = .ok (.iaload, 1) := by decide +kernel
theorem dX11_agreementOf_71 : decode cX11_agreementOf 71 = .ok (.ireturn, 1) := by decide +kernel
theorem dX11_agreementOf_72 : decode cX11_agreementOf 72 = .ok (.aload_n 0, 1) := by decide +kernel
theorem dX11_agreementOf_73 : decode cX11_agreementOf 73 = .ok (.getfield 50, 3) := by decide +kernel
theorem dX11_agreementOf_76 : decode cX11_agreementOf 76 = .ok (.getfield 318, 3) := by decide +kernel
theorem dX11_agreementOf_79 : decode cX11_agreementOf 79 = .ok (.iload_n 1, 1) := by decide +kernel
theorem dX11_agreementOf_80 : decode cX11_agreementOf 80 = .ok (.iaload, 1) := by decide +kernel
theorem dX11_agreementOf_81 : decode cX11_agreementOf 81 = .ok (.ireturn, 1) := by decide +kernel
theorem dX11_agreementOf_82 : decode cX11_agreementOf 82 = .ok (.aload_n 0, 1) := by decide +kernel
theorem dX11_agreementOf_83 : decode cX11_agreementOf 83 = .ok (.getfield 50, 3) := by decide +kernel
theorem dX11_agreementOf_86 : decode cX11_agreementOf 86 = .ok (.getfield 321, 3) := by decide +kernel
theorem dX11_agreementOf_89 : decode cX11_agreementOf 89 = .ok (.iload_n 1, 1) := by decide +kernel
theorem dX11_agreementOf_90 : decode cX11_agreementOf 90 = .ok (.iaload, 1) := by decide +kernel
theorem dX11_agreementOf_91 : decode cX11_agreementOf 91 = .ok (.ireturn, 1) := by decide +kernel
theorem dX11_agreementOf_92 : decode cX11_agreementOf 92 = .ok (.aload_n 0, 1) := by decide +kernel
theorem dX11_agreementOf_93 : decode cX11_agreementOf 93 = .ok (.iload_n 1, 1) := by decide +kernel
theorem dX11_agreementOf_94 : decode cX11_agreementOf 94 = .ok (.invokevirtual 324, 3) := by decide +kernel
theorem dX11_agreementOf_97 : decode cX11_agreementOf 97 = .ok (.ifCond .eq 7, 3) := by decide +kernel
theorem dX11_agreementOf_100 : decode cX11_agreementOf 100 = .ok (.iconst 1, 1) := by decide +kernel
theorem dX11_agreementOf_101 : decode cX11_agreementOf 101 = .ok (.goto 4, 3) := by decide +kernel
theorem dX11_agreementOf_104 : decode cX11_agreementOf 104 = .ok (.iconst 0, 1) := by decide +kernel
theorem dX11_agreementOf_105 : decode cX11_agreementOf 105 = .ok (.ireturn, 1) := by decide +kernel
theorem dX11_agreementOf_106 : decode cX11_agreementOf 106 = .ok (.aload_n 0, 1) := by decide +kernel
theorem dX11_agreementOf_107 : decode cX11_agreementOf 107 = .ok (.bipush (-2), 2) := by decide +kernel
theorem dX11_agreementOf_109 : decode cX11_agreementOf 109 = .ok (.invokevirtual 103, 3) := by decide +kernel
theorem dX11_agreementOf_112 : decode cX11_agreementOf 112 = .ok (.ireturn, 1) := by decide +kernel
theorem dX11_contract_0 : decode cX11_contract 0 = .ok (.iload_n 1, 1) := by decide +kernel
theorem dX11_contract_1 : decode cX11_contract 1 = .ok (.invokestatic 170, 3) := by decide +kernel
theorem dX11_contract_4 : decode cX11_contract 4 = .ok (.ifCond .eq 12, 3) := by decide +kernel
theorem dX11_contract_7 : decode cX11_contract 7 = .ok (.iload_n 3, 1) := by decide +kernel
theorem dX11_contract_8 : decode cX11_contract 8 = .ok (.ifCond .lt 8, 3) := by decide +kernel
theorem dX11_contract_11 : decode cX11_contract 11 = .ok (.iload_n 3, 1) := by decide +kernel
theorem dX11_contract_12 : decode cX11_contract 12 = .ok (.iconst 2, 1) := by decide +kernel
theorem dX11_contract_13 : decode cX11_contract 13 = .ok (.if_icmp .le 10, 3) := by decide +kernel
theorem dX11_contract_16 : decode cX11_contract 16 = .ok (.aload_n 0, 1) := by decide +kernel
theorem dX11_contract_17 : decode cX11_contract 17 = .ok (.bipush (-2), 2) := by decide +kernel
theorem dX11_contract_19 : decode cX11_contract 19 = .ok (.invokevirtual 327, 3) := by decide +kernel
theorem dX11_contract_22 : decode cX11_contract 22 = .ok (.ireturn, 1) := by decide +kernel
theorem dX11_contract_23 : decode cX11_contract 23 = .ok (.iload_n 2, 1) := by decide +kernel
theorem dX11_contract_24 : decode cX11_contract 24 = .ok (.iconst (-1), 1) := by decide +kernel
theorem dX11_contract_25 : decode cX11_contract 25 = .ok (.sipush 9999, 3) := by decide +kernel
theorem dX11_contract_28 : decode cX11_contract 28 = .ok (.invokestatic 110, 3) := by decide +kernel
theorem dX11_contract_31 : decode cX11_contract 31 = .ok (.istore 4, 2) := by decide +kernel
theorem dX11_contract_33 : decode cX11_contract 33 = .ok (.iload 4, 2) := by decide +kernel
theorem dX11_contract_35 : decode cX11_contract 35 = .ok (.ifCond .eq 10, 3) := by decide +kernel
theorem dX11_contract_38 : decode cX11_contract 38 = .ok (.aload_n 0, 1) := by decide +kernel
theorem dX11_contract_39 : decode cX11_contract 39 = .ok (.iload 4, 2) := by decide +kernel
theorem dX11_contract_41 : decode cX11_contract 41 = .ok (.invokevirtual 327, 3) := by decide +kernel
theorem dX11_contract_44 : decode cX11_contract 44 = .ok (.ireturn, 1) := by decide +kernel
theorem dX11_contract_45 : decode cX11_contract 45 = .ok (.aload_n 0, 1) := by decide +kernel
theorem dX11_contract_46 : decode cX11_contract 46 = .ok (.getfield 50, 3) := by decide +kernel
theorem dX11_contract_49 : decode cX11_contract 49 = .ok (.getfield 330, 3) := by decide +kernel
theorem dX11_contract_52 : decode cX11_contract 52 = .ok (.iload_n 1, 1) := by decide +kernel
theorem dX11_contract_53 : decode cX11_contract 53 = .ok (.iaload, 1) := by decide +kernel
theorem dX11_contract_54 : decode cX11_contract 54 = .ok (.istore 5, 2) := by decide +kernel
theorem dX11_contract_56 : decode cX11_contract 56 = .ok (.aload_n 0, 1) := by decide +kernel
theorem dX11_contract_57 : decode cX11_contract 57 = .ok (.getfield 50, 3) := by decide +kernel
theorem dX11_contract_60 : decode cX11_contract 60 = .ok (.getfield 330, 3) := by decide +kernel
theorem dX11_contract_63 : decode cX11_contract 63 = .ok (.iload_n 1, 1) := by decide +kernel
theorem dX11_contract_64 : decode cX11_contract 64 = .ok (.iload_n 2, 1) := by decide +kernel
theorem dX11_contract_65 : decode cX11_contract 65 = .ok (.iastore, 1) := by decide +kernel
theorem dX11_contract_66 : decode cX11_contract 66 = .ok (.aload_n 0, 1) := by decide +kernel
theorem dX11_contract_67 : decode cX11_contract 67 = .ok (.getfield 50, 3) := by decide +kernel
theorem dX11_contract_70 : decode cX11_contract 70 = .ok (.getfield 333, 3) := by decide +kernel
theorem dX11_contract_73 : decode cX11_contract 73 = .ok (.iload_n 1, 1) := by decide +kernel
theorem dX11_contract_74 : decode cX11_contract 74 = .ok (.iload_n 3, 1) := by decide +kernel
theorem dX11_contract_75 : decode cX11_contract 75 = .ok (.iastore, 1) := by decide +kernel
theorem dX11_contract_76 : decode cX11_contract 76 = .ok (.iload 5, 2) := by decide +kernel
theorem dX11_contract_78 : decode cX11_contract 78 = .ok (.ireturn, 1) := by decide +kernel
theorem dX11_after_0 : decode cX11_after 0 = .ok (.iload_n 1, 1) := by decide +kernel
theorem dX11_after_1 : decode cX11_after 1 = .ok (.invokestatic 170, 3) := by decide +kernel
theorem dX11_after_4 : decode cX11_after 4 = .ok (.ifCond .ne 10, 3) := by decide +kernel
theorem dX11_after_7 : decode cX11_after 7 = .ok (.aload_n 0, 1) := by decide +kernel
theorem dX11_after_8 : decode cX11_after 8 = .ok (.bipush (-2), 2) := by decide +kernel
theorem dX11_after_10 : decode cX11_after 10 = .ok (.invokevirtual 103, 3) := by decide +kernel
theorem dX11_after_13 : decode cX11_after 13 = .ok (.ireturn, 1) := by decide +kernel
theorem dX11_after_14 : decode cX11_after 14 = .ok (.aload_n 0, 1) := by decide +kernel
theorem dX11_after_15 : decode cX11_after 15 = .ok (.getfield 50, 3) := by decide +kernel
theorem dX11_after_18 : decode cX11_after 18 = .ok (.getfield 336, 3) := by decide +kernel
theorem dX11_after_21 : decode cX11_after 21 = .ok (.iload_n 1, 1) := by decide +kernel
theorem dX11_after_22 : decode cX11_after 22 = .ok (.baload, 1) := by decide +kernel
theorem dX11_after_23 : decode cX11_after 23 = .ok (.iload_n 2, 1) := by decide +kernel
theorem dX11_after_24 : decode cX11_after 24 = .ok (.if_icmp .eq 7, 3) := by decide +kernel
theorem dX11_after_27 : decode cX11_after 27 = .ok (.iconst 1, 1) := by decide +kernel
theorem dX11_after_28 : decode cX11_after 28 = .ok (.goto 4, 3) := by decide +kernel
theorem dX11_after_31 : decode cX11_after 31 = .ok (.iconst 0, 1) := by decide +kernel
theorem dX11_after_32 : decode cX11_after 32 = .ok (.istore_n 3, 1) := by decide +kernel
theorem dX11_after_33 : decode cX11_after 33 = .ok (.aload_n 0, 1) := by decide +kernel
theorem dX11_after_34 : decode cX11_after 34 = .ok (.getfield 50, 3) := by decide +kernel
theorem dX11_after_37 : decode cX11_after 37 = .ok (.getfield 336, 3) := by decide +kernel
theorem dX11_after_40 : decode cX11_after 40 = .ok (.iload_n 1, 1) := by decide +kernel
theorem dX11_after_41 : decode cX11_after 41 = .ok (.iload_n 2, 1) := by decide +kernel
theorem dX11_after_42 : decode cX11_after 42 = .ok (.bastore, 1) := by decide +kernel
theorem dX11_after_43 : decode cX11_after 43 = .ok (.iload_n 3, 1) := by decide +kernel
theorem dX11_after_44 : decode cX11_after 44 = .ok (.ifCond .eq 7, 3) := by decide +kernel
theorem dX11_after_47 : decode cX11_after 47 = .ok (.iconst 1, 1) := by decide +kernel
theorem dX11_after_48 : decode cX11_after 48 = .ok (.goto 4, 3) := by decide +kernel
theorem dX11_after_51 : decode cX11_after 51 = .ok (.iconst 0, 1) := by decide +kernel
theorem dX11_after_52 : decode cX11_after 52 = .ok (.ireturn, 1) := by decide +kernel
theorem dX11_worth_0 : decode cX11_worth 0 = .ok (.iload_n 1, 1) := by decide +kernel
theorem dX11_worth_1 : decode cX11_worth 1 = .ok (.invokestatic 125, 3) := by decide +kernel
theorem dX11_worth_4 : decode cX11_worth 4 = .ok (.ifCond .ne 9, 3) := by decide +kernel
theorem dX11_worth_7 : decode cX11_worth 7 = .ok (.aload_n 0, 1) := by decide +kernel
theorem dX11_worth_8 : decode cX11_worth 8 = .ok (.iconst (-1), 1) := by decide +kernel
theorem dX11_worth_9 : decode cX11_worth 9 = .ok (.invokevirtual 103, 3) := by decide +kernel
theorem dX11_worth_12 : decode cX11_worth 12 = .ok (.ireturn, 1) := by decide +kernel
theorem dX11_worth_13 : decode cX11_worth 13 = .ok (.iload_n 2, 1) := by decide +kernel
theorem dX11_worth_14 : decode cX11_worth 14 = .ok (.invokestatic 170, 3) := by decide +kernel
theorem dX11_worth_17 : decode cX11_worth 17 = .ok (.ifCond .eq 14, 3) := by decide +kernel
theorem dX11_worth_20 : decode cX11_worth 20 = .ok (.iload 4, 2) := by decide +kernel
theorem dX11_worth_22 : decode cX11_worth 22 = .ok (.ifCond .lt 9, 3) := by decide +kernel
theorem dX11_worth_25 : decode cX11_worth 25 = .ok (.iload 4, 2) := by decide +kernel
theorem dX11_worth_27 : decode cX11_worth 27 = .ok (.iconst 1, 1) := by decide +kernel
theorem dX11_worth_28 : decode cX11_worth 28 = .ok (.if_icmp .le 10, 3) := by decide +kernel
theorem dX11_worth_31 : decode cX11_worth 31 = .ok (.aload_n 0, 1) := by decide +kernel
theorem dX11_worth_32 : decode cX11_worth 32 = .ok (.bipush (-2), 2) := by decide +kernel
theorem dX11_worth_34 : decode cX11_worth 34 = .ok (.invokevirtual 103, 3) := by decide +kernel
theorem dX11_worth_37 : decode cX11_worth 37 = .ok (.ireturn, 1) := by decide +kernel
theorem dX11_worth_38 : decode cX11_worth 38 = .ok (.iload_n 3, 1) := by decide +kernel
theorem dX11_worth_39 : decode cX11_worth 39 = .ok (.iconst 0, 1) := by decide +kernel
theorem dX11_worth_40 : decode cX11_worth 40 = .ok (.sipush 1000, 3) := by decide +kernel
theorem dX11_worth_43 : decode cX11_worth 43 = .ok (.invokestatic 110, 3) := by decide +kernel
theorem dX11_worth_46 : decode cX11_worth 46 = .ok (.istore 5, 2) := by decide +kernel
theorem dX11_worth_48 : decode cX11_worth 48 = .ok (.iload 5, 2) := by decide +kernel
theorem dX11_worth_50 : decode cX11_worth 50 = .ok (.ifCond .eq 10, 3) := by decide +kernel
theorem dX11_worth_53 : decode cX11_worth 53 = .ok (.aload_n 0, 1) := by decide +kernel
theorem dX11_worth_54 : decode cX11_worth 54 = .ok (.iload 5, 2) := by decide +kernel
theorem dX11_worth_56 : decode cX11_worth 56 = .ok (.invokevirtual 103, 3) := by decide +kernel
theorem dX11_worth_59 : decode cX11_worth 59 = .ok (.ireturn, 1) := by decide +kernel
theorem dX11_worth_60 : decode cX11_worth 60 = .ok (.aload_n 0, 1) := by decide +kernel
theorem dX11_worth_61 : decode cX11_worth 61 = .ok (.iload_n 1, 1) := by decide +kernel
theorem dX11_worth_62 : decode cX11_worth 62 = .ok (.iload_n 2, 1) := by decide +kernel
theorem dX11_worth_63 : decode cX11_worth 63 = .ok (.iload_n 3, 1) := by decide +kernel
theorem dX11_worth_64 : decode cX11_worth 64 = .ok (.invokevirtual 339, 3) := by decide +kernel
theorem dX11_worth_67 : decode cX11_worth 67 = .ok (.istore 6, 2) := by decide +kernel
theorem dX11_worth_69 : decode cX11_worth 69 = .ok (.iload 6, 2) := by decide +kernel
theorem dX11_worth_71 : decode cX11_worth 71 = .ok (.bipush (-9), 2) := by decide +kernel
theorem dX11_worth_73 : decode cX11_worth 73 = .ok (.if_icmp .ne 24, 3) := by decide +kernel
theorem dX11_worth_76 : decode cX11_worth 76 = .ok (.aload_n 0, 1) := by decide +kernel
theorem dX11_worth_77 : decode cX11_worth 77 = .ok (.getfield 50, 3) := by decide +kernel
theorem dX11_worth_80 : decode cX11_worth 80 = .ok (.getfield 336, 3) := by decide +kernel
theorem dX11_worth_83 : decode cX11_worth 83 = .ok (.iload_n 2, 1) := by decide +kernel
theorem dX11_worth_84 : decode cX11_worth 84 = .ok (.baload, 1) := by decide +kernel
theorem dX11_worth_85 : decode cX11_worth 85 = .ok (.ifCond .eq 12, 3) := by decide +kernel
theorem dX11_worth_88 : decode cX11_worth 88 = .ok (.aload_n 0, 1) := by decide +kernel
theorem dX11_worth_89 : decode cX11_worth 89 = .ok (.iload_n 1, 1) := by decide +kernel
theorem dX11_worth_90 : decode cX11_worth 90 = .ok (.iload_n 2, 1) := by decide +kernel
theorem dX11_worth_91 : decode cX11_worth 91 = .ok (.iload_n 3, 1) := by decide +kernel
theorem dX11_worth_92 : decode cX11_worth 92 = .ok (.invokevirtual 342, 3) := by decide +kernel
theorem dX11_worth_95 : decode cX11_worth 95 = .ok (.istore 6, 2) := by decide +kernel
theorem dX11_worth_97 : decode cX11_worth 97 = .ok (.iload 4, 2) := by decide +kernel
theorem dX11_worth_99 : decode cX11_worth 99 = .ok (.iconst 1, 1) := by decide +kernel
theorem dX11_worth_100 : decode cX11_worth 100 = .ok (.if_icmp .ne 8, 3) := by decide +kernel
theorem dX11_worth_103 : decode cX11_worth 103 = .ok (.iload 6, 2) := by decide +kernel
theorem dX11_worth_105 : decode cX11_worth 105 = .ok (.goto 13, 3) := by decide +kernel
theorem dX11_worth_108 : decode cX11_worth 108 = .ok (.aload_n 0, 1) := by decide +kernel
theorem dX11_worth_109 : decode cX11_worth 109 = .ok (.getfield 50, 3) := by decide +kernel
theorem dX11_worth_112 : decode cX11_worth 112 = .ok (.iload_n 2, 1) := by decide +kernel
theorem dX11_worth_113 : decode cX11_worth 113 = .ok (.iload 6, 2) := by decide +kernel
theorem dX11_worth_115 : decode cX11_worth 115 = .ok (.invokevirtual 345, 3) := by decide +kernel
theorem dX11_worth_118 : decode cX11_worth 118 = .ok (.ireturn, 1) := by decide +kernel
theorem dX11_board_0 : decode cX11_board 0 = .ok (.aload_n 0, 1) := by decide +kernel
theorem dX11_board_1 : decode cX11_board 1 = .ok (.iload_n 1, 1) := by decide +kernel
theorem dX11_board_2 : decode cX11_board 2 = .ok (.invokevirtual 204, 3) := by decide +kernel
theorem dX11_board_5 : decode cX11_board 5 = .ok (.ifCond .ne 9, 3) := by decide +kernel
theorem dX11_board_8 : decode cX11_board 8 = .ok (.aload_n 0, 1) := by decide +kernel
theorem dX11_board_9 : decode cX11_board 9 = .ok (.iconst (-1), 1) := by decide +kernel
theorem dX11_board_10 : decode cX11_board 10 = .ok (.invokevirtual 103, 3) := by decide +kernel
theorem dX11_board_13 : decode cX11_board 13 = .ok (.ireturn, 1) := by decide +kernel
theorem dX11_board_14 : decode cX11_board 14 = .ok (.aload_n 0, 1) := by decide +kernel
theorem dX11_board_15 : decode cX11_board 15 = .ok (.getfield 39, 3) := by decide +kernel
theorem dX11_board_18 : decode cX11_board 18 = .ok (.iload_n 1, 1) := by decide +kernel
theorem dX11_board_19 : decode cX11_board 19 = .ok (.aaload, 1) := by decide +kernel
theorem dX11_board_20 : decode cX11_board 20 = .ok (.astore 5, 2) := by decide +kernel
theorem dX11_board_22 : decode cX11_board 22 = .ok (.aload 5, 2) := by decide +kernel
theorem dX11_board_24 : decode cX11_board 24 = .ok (.aload_n 0, 1) := by decide +kernel
theorem dX11_board_25 : decode cX11_board 25 = .ok (.getfield 10, 3) := by decide +kernel
theorem dX11_board_28 : decode cX11_board 28 = .ok (.getfield 107, 3) := by decide +kernel
theorem dX11_board_31 : decode cX11_board 31 = .ok (.aload_n 0, 1) := by decide +kernel
theorem dX11_board_32 : decode cX11_board 32 = .ok (.getfield 10, 3) := by decide +kernel
theorem dX11_board_35 : decode cX11_board 35 = .ok (.getfield 107, 3) := by decide +kernel
theorem dX11_board_38 : decode cX11_board 38 = .ok (.invokevirtual 221, 3) := by decide +kernel
theorem dX11_board_41 : decode cX11_board 41 = .ok (.istore 6, 2) := by decide +kernel
theorem dX11_board_43 : decode cX11_board 43 = .ok (.aload 5, 2) := by decide +kernel
theorem dX11_board_45 : decode cX11_board 45 = .ok (.getfield 224, 3) := by decide +kernel
theorem dX11_board_48 : decode cX11_board 48 = .ok (.iconst 3, 1) := by decide +kernel
theorem dX11_board_49 : decode cX11_board 49 = .ok (.if_icmp .lt 16, 3) := by decide +kernel
theorem dX11_board_52 : decode cX11_board 52 = .ok (.iload 6, 2) := by decide +kernel
theorem dX11_board_54 : decode cX11_board 54 = .ok (.iconst 5, 1) := by decide +kernel
theorem dX11_board_55 : decode cX11_board 55 = .ok (.if_icmp .eq 17, 3) := by decide +kernel
theorem dX11_board_58 : decode cX11_board 58 = .ok (.iload 6, 2) := by decide +kernel
theorem dX11_board_60 : decode cX11_board 60 = .ok (.bipush 7, 2) := by decide +kernel
theorem dX11_board_62 : decode cX11_board 62 = .ok (.if_icmp .eq 10, 3) := by decide +kernel
theorem dX11_board_65 : decode cX11_board 65 = .ok (.aload_n 0, 1) := by decide +kernel
theorem dX11_board_66 : decode cX11_board 66 = .ok (.bipush (-3), 2) := by decide +kernel
theorem dX11_board_68 : decode cX11_board 68 = .ok (.invokevirtual 103, 3) := by decide +kernel
theorem dX11_board_71 : decode cX11_board 71 = .ok (.ireturn, 1) := by decide +kernel
theorem dX11_board_72 : decode cX11_board 72 = .ok (.iload_n 2, 1) := by decide +kernel
theorem dX11_board_73 : decode cX11_board 73 = .ok (.iconst 0, 1) := by decide +kernel
theorem dX11_board_74 : decode cX11_board 74 = .ok (.iconst 2, 1) := by decide +kernel
theorem dX11_board_75 : decode cX11_board 75 = .ok (.invokestatic 110, 3) := by decide +kernel
theorem dX11_board_78 : decode cX11_board 78 = .ok (.iload_n 3, 1) := by decide +kernel
theorem dX11_board_79 : decode cX11_board 79 = .ok (.iconst 0, 1) := by decide +kernel
theorem dX11_board_80 : decode cX11_board 80 = .ok (.iconst 2, 1) := by decide +kernel
theorem dX11_board_81 : decode cX11_board 81 = .ok (.invokestatic 110, 3) := by decide +kernel
theorem dX11_board_84 : decode cX11_board 84 = .ok (.invokestatic 118, 3) := by decide +kernel
theorem dX11_board_87 : decode cX11_board 87 = .ok (.istore 7, 2) := by decide +kernel
theorem dX11_board_89 : decode cX11_board 89 = .ok (.iload 7, 2) := by decide +kernel
theorem dX11_board_91 : decode cX11_board 91 = .ok (.aload 5, 2) := by decide +kernel
theorem dX11_board_93 : decode cX11_board 93 = .ok (.getfield 233, 3) := by decide +kernel
theorem dX11_board_96 : decode cX11_board 96 = .ok (.bipush 30, 2) := by decide +kernel
theorem dX11_board_98 : decode cX11_board 98 = .ok (.invokestatic 131, 3) := by decide +kernel
theorem dX11_board_101 : decode cX11_board 101 = .ok (.invokestatic 118, 3) := by decide +kernel
theorem dX11_board_104 : decode cX11_board 104 = .ok (.istore 7, 2) := by decide +kernel
theorem dX11_board_106 : decode cX11_board 106 = .ok (.iload 7, 2) := by decide +kernel
theorem dX11_board_108 : decode cX11_board 108 = .ok (.ifCond .eq 10, 3) := by decide +kernel
theorem dX11_board_111 : decode cX11_board 111 = .ok (.aload_n 0, 1) := by decide +kernel
theorem dX11_board_112 : decode cX11_board 112 = .ok (.iload 7, 2) := by decide +kernel
theorem dX11_board_114 : decode cX11_board 114 = .ok (.invokevirtual 103, 3) := by decide +kernel
theorem dX11_board_117 : decode cX11_board 117 = .ok (.ireturn, 1) := by decide +kernel
theorem dX11_board_118 : decode cX11_board 118 = .ok (.iload_n 2, 1) := by decide +kernel
theorem dX11_board_119 : decode cX11_board 119 = .ok (.iload_n 3, 1) := by decide +kernel
theorem dX11_board_120 : decode cX11_board 120 = .ok (.iadd, 1) := by decide +kernel
theorem dX11_board_121 : decode cX11_board 121 = .ok (.iload 4, 2) := by decide +kernel
theorem dX11_board_123 : decode cX11_board 123 = .ok (.ifCond .eq 7, 3) := by decide +kernel
theorem dX11_board_126 : decode cX11_board 126 = .ok (.iconst 1, 1) := by decide +kernel
theorem dX11_board_127 : decode cX11_board 127 = .ok (.goto 4, 3) := by decide +kernel
theorem dX11_board_130 : decode cX11_board 130 = .ok (.iconst 0, 1) := by decide +kernel
theorem dX11_board_131 : decode cX11_board 131 = .ok (.iadd, 1) := by decide +kernel
theorem dX11_board_132 : decode cX11_board 132 = .ok (.iconst 3, 1) := by decide +kernel
theorem dX11_board_133 : decode cX11_board 133 = .ok (.if_icmp .lt 7, 3) := by decide +kernel
theorem dX11_board_136 : decode cX11_board 136 = .ok (.iconst 1, 1) := by decide +kernel
theorem dX11_board_137 : decode cX11_board 137 = .ok (.goto 4, 3) := by decide +kernel
theorem dX11_board_140 : decode cX11_board 140 = .ok (.iconst 0, 1) := by decide +kernel
theorem dX11_board_141 : decode cX11_board 141 = .ok (.istore 8, 2) := by decide +kernel
theorem dX11_board_143 : decode cX11_board 143 = .ok (.aload 5, 2) := by decide +kernel
theorem dX11_board_145 : decode cX11_board 145 = .ok (.iconst 4, 1) := by decide +kernel
theorem dX11_board_146 : decode cX11_board 146 = .ok (.iload 8, 2) := by decide +kernel
theorem dX11_board_148 : decode cX11_board 148 = .ok (.invokevirtual 217, 3) := by decide +kernel
theorem dX11_board_151 : decode cX11_board 151 = .ok (.pop, 1) := by decide +kernel
theorem dX11_board_152 : decode cX11_board 152 = .ok (.iload 8, 2) := by decide +kernel
theorem dX11_board_154 : decode cX11_board 154 = .ok (.ireturn, 1) := by decide +kernel
theorem dX11_court_0 : decode cX11_court 0 = .ok (.aload_n 0, 1) := by decide +kernel
theorem dX11_court_1 : decode cX11_court 1 = .ok (.iload_n 1, 1) := by decide +kernel
theorem dX11_court_2 : decode cX11_court 2 = .ok (.invokevirtual 204, 3) := by decide +kernel
theorem dX11_court_5 : decode cX11_court 5 = .ok (.ifCond .ne 9, 3) := by decide +kernel
theorem dX11_court_8 : decode cX11_court 8 = .ok (.aload_n 0, 1) := by decide +kernel
theorem dX11_court_9 : decode cX11_court 9 = .ok (.iconst (-1), 1) := by decide +kernel
theorem dX11_court_10 : decode cX11_court 10 = .ok (.invokevirtual 103, 3) := by decide +kernel
theorem dX11_court_13 : decode cX11_court 13 = .ok (.ireturn, 1) := by decide +kernel
theorem dX11_court_14 : decode cX11_court 14 = .ok (.aload_n 0, 1) := by decide +kernel
theorem dX11_court_15 : decode cX11_court 15 = .ok (.getfield 39, 3) := by decide +kernel
theorem dX11_court_18 : decode cX11_court 18 = .ok (.iload_n 1, 1) := by decide +kernel
theorem dX11_court_19 : decode cX11_court 19 = .ok (.aaload, 1) := by decide +kernel
theorem dX11_court_20 : decode cX11_court 20 = .ok (.astore_n 2, 1) := by decide +kernel
theorem dX11_court_21 : decode cX11_court 21 = .ok (.aload_n 2, 1) := by decide +kernel
theorem dX11_court_22 : decode cX11_court 22 = .ok (.aload_n 0, 1) := by decide +kernel
theorem dX11_court_23 : decode cX11_court 23 = .ok (.getfield 10, 3) := by decide +kernel
theorem dX11_court_26 : decode cX11_court 26 = .ok (.getfield 107, 3) := by decide +kernel
theorem dX11_court_29 : decode cX11_court 29 = .ok (.aload_n 0, 1) := by decide +kernel
theorem dX11_court_30 : decode cX11_court 30 = .ok (.getfield 10, 3) := by decide +kernel
theorem dX11_court_33 : decode cX11_court 33 = .ok (.getfield 107, 3) := by decide +kernel
theorem dX11_court_36 : decode cX11_court 36 = .ok (.invokevirtual 348, 3) := by decide +kernel
theorem dX11_court_39 : decode cX11_court 39 = .ok (.bipush (-9), 2) := by decide +kernel
theorem dX11_court_41 : decode cX11_court 41 = .ok (.if_icmp .ne 10, 3) := by decide +kernel
theorem dX11_court_44 : decode cX11_court 44 = .ok (.aload_n 0, 1) := by decide +kernel
theorem dX11_court_45 : decode cX11_court 45 = .ok (.bipush (-3), 2) := by decide +kernel
theorem dX11_court_47 : decode cX11_court 47 = .ok (.invokevirtual 103, 3) := by decide +kernel
theorem dX11_court_50 : decode cX11_court 50 = .ok (.ireturn, 1) := by decide +kernel
theorem dX11_court_51 : decode cX11_court 51 = .ok (.aload_n 2, 1) := by decide +kernel
theorem dX11_court_52 : decode cX11_court 52 = .ok (.invokevirtual 213, 3) := by decide +kernel
theorem dX11_court_55 : decode cX11_court 55 = .ok (.ifCond .eq 10, 3) := by decide +kernel
theorem dX11_court_58 : decode cX11_court 58 = .ok (.aload_n 0, 1) := by decide +kernel
theorem dX11_court_59 : decode cX11_court 59 = .ok (.bipush (-6), 2) := by decide +kernel
theorem dX11_court_61 : decode cX11_court 61 = .ok (.invokevirtual 103, 3) := by decide +kernel
theorem dX11_court_64 : decode cX11_court 64 = .ok (.ireturn, 1) := by decide +kernel
theorem dX11_court_65 : decode cX11_court 65 = .ok (.aload_n 2, 1) := by decide +kernel
theorem dX11_court_66 : decode cX11_court 66 = .ok (.iconst 5, 1) := by decide +kernel
theorem dX11_court_67 : decode cX11_court 67 = .ok (.iconst 0, 1) := by decide +kernel
theorem dX11_court_68 : decode cX11_court 68 = .ok (.invokevirtual 217, 3) := by decide +kernel
theorem dX11_court_71 : decode cX11_court 71 = .ok (.pop, 1) := by decide +kernel
theorem dX11_court_72 : decode cX11_court 72 = .ok (.iconst 1, 1) := by decide +kernel
theorem dX11_court_73 : decode cX11_court 73 = .ok (.ireturn, 1) := by decide +kernel
theorem dX11_deed_0 : decode cX11_deed 0 = .ok (.iload_n 1, 1) := by decide +kernel
theorem dX11_deed_1 : decode cX11_deed 1 = .ok (.iconst (-1), 1) := by decide +kernel
theorem dX11_deed_2 : decode cX11_deed 2 = .ok (.if_icmp .eq 17, 3) := by decide +kernel
theorem dX11_deed_5 : decode cX11_deed 5 = .ok (.aload_n 0, 1) := by decide +kernel
theorem dX11_deed_6 : decode cX11_deed 6 = .ok (.iload_n 1, 1) := by decide +kernel
theorem dX11_deed_7 : decode cX11_deed 7 = .ok (.invokevirtual 204, 3) := by decide +kernel
theorem dX11_deed_10 : decode cX11_deed 10 = .ok (.ifCond .ne 9, 3) := by decide +kernel
theorem dX11_deed_13 : decode cX11_deed 13 = .ok (.aload_n 0, 1) := by decide +kernel
theorem dX11_deed_14 : decode cX11_deed 14 = .ok (.iconst (-1), 1) := by decide +kernel
theorem dX11_deed_15 : decode cX11_deed 15 = .ok (.invokevirtual 103, 3) := by decide +kernel
theorem dX11_deed_18 : decode cX11_deed 18 = .ok (.ireturn, 1) := by decide +kernel
theorem dX11_deed_19 : decode cX11_deed 19 = .ok (.iload_n 2, 1) := by decide +kernel
theorem dX11_deed_20 : decode cX11_deed 20 = .ok (.invokestatic 170, 3) := by decide +kernel
theorem dX11_deed_23 : decode cX11_deed 23 = .ok (.ifCond .ne 10, 3) := by decide +kernel
theorem dX11_deed_26 : decode cX11_deed 26 = .ok (.aload_n 0, 1) := by decide +kernel
theorem dX11_deed_27 : decode cX11_deed 27 = .ok (.bipush (-2), 2) := by decide +kernel
theorem dX11_deed_29 : decode cX11_deed 29 = .ok (.invokevirtual 103, 3) := by decide +kernel
theorem dX11_deed_32 : decode cX11_deed 32 = .ok (.ireturn, 1) := by decide +kernel
theorem dX11_deed_33 : decode cX11_deed 33 = .ok (.aload_n 0, 1) := by decide +kernel
theorem dX11_deed_34 : decode cX11_deed 34 = .ok (.iload_n 1, 1) := by decide +kernel
theorem dX11_deed_35 : decode cX11_deed 35 = .ok (.invokevirtual 204, 3) := by decide +kernel
theorem dX11_deed_38 : decode cX11_deed 38 = .ok (.ifCond .eq 23, 3) := by decide +kernel
theorem dX11_deed_41 : decode cX11_deed 41 = .ok (.aload_n 0, 1) := by decide +kernel
theorem dX11_deed_42 : decode cX11_deed 42 = .ok (.getfield 39, 3) := by decide +kernel
theorem dX11_deed_45 : decode cX11_deed 45 = .ok (.iload_n 1, 1) := by decide +kernel
theorem dX11_deed_46 : decode cX11_deed 46 = .ok (.aaload, 1) := by decide +kernel
theorem dX11_deed_47 : decode cX11_deed 47 = .ok (.getfield 351, 3) := by decide +kernel
theorem dX11_deed_50 : decode cX11_deed 50 = .ok (.iload_n 2, 1) := by decide +kernel
theorem dX11_deed_51 : decode cX11_deed 51 = .ok (.if_icmp .eq 10, 3) := by decide +kernel
theorem dX11_deed_54 : decode cX11_deed 54 = .ok (.aload_n 0, 1) := by decide +kernel
theorem dX11_deed_55 : decode cX11_deed 55 = .ok (.bipush (-3), 2) := by decide +kernel
theorem dX11_deed_57 : decode cX11_deed 57 = .ok (.invokevirtual 103, 3) := by decide +kernel
theorem dX11_deed_60 : decode cX11_deed 60 = .ok (.ireturn, 1) := by decide +kernel
theorem dX11_deed_61 : decode cX11_deed 61 = .ok (.iload_n 3, 1) := by decide +kernel
theorem dX11_deed_62 : decode cX11_deed 62 = .ok (.iload 4, 2) := by decide +kernel
theorem dX11_deed_64 : decode cX11_deed 64 = .ok (.invokestatic 173, 3) := by decide +kernel
theorem dX11_deed_67 : decode cX11_deed 67 = .ok (.aload_n 0, 1) := by decide +kernel
theorem dX11_deed_68 : decode cX11_deed 68 = .ok (.getfield 57, 3) := by decide +kernel
theorem dX11_deed_71 : decode cX11_deed 71 = .ok (.getfield 354, 3) := by decide +kernel
theorem dX11_deed_74 : decode cX11_deed 74 = .ok (.bipush 60, 2) := by decide +kernel
theorem dX11_deed_76 : decode cX11_deed 76 = .ok (.invokestatic 131, 3) := by decide +kernel
theorem dX11_deed_79 : decode cX11_deed 79 = .ok (.invokestatic 118, 3) := by decide +kernel
theorem dX11_deed_82 : decode cX11_deed 82 = .ok (.istore 5, 2) := by decide +kernel
theorem dX11_deed_84 : decode cX11_deed 84 = .ok (.iload 5, 2) := by decide +kernel
theorem dX11_deed_86 : decode cX11_deed 86 = .ok (.ifCond .eq 10, 3) := by decide +kernel
theorem dX11_deed_89 : decode cX11_deed 89 = .ok (.aload_n 0, 1) := by decide +kernel
theorem dX11_deed_90 : decode cX11_deed 90 = .ok (.iload 5, 2) := by decide +kernel
theorem dX11_deed_92 : decode cX11_deed 92 = .ok (.invokevirtual 103, 3) := by decide +kernel
theorem dX11_deed_95 : decode cX11_deed 95 = .ok (.ireturn, 1) := by decide +kernel
theorem dX11_deed_96 : decode cX11_deed 96 = .ok (.aload_n 0, 1) := by decide +kernel
theorem dX11_deed_97 : decode cX11_deed 97 = .ok (.iload_n 3, 1) := by decide +kernel
theorem dX11_deed_98 : decode cX11_deed 98 = .ok (.iload 4, 2) := by decide +kernel
theorem dX11_deed_100 : decode cX11_deed 100 = .ok (.iconst 0, 1) := by decide +kernel
theorem dX11_deed_101 : decode cX11_deed 101 = .ok (.invokevirtual 176, 3) := by decide +kernel
theorem dX11_deed_104 : decode cX11_deed 104 = .ok (.aload_n 0, 1) := by decide +kernel
theorem dX11_deed_105 : decode cX11_deed 105 = .ok (.getfield 26, 3) := by decide +kernel
theorem dX11_deed_108 : decode cX11_deed 108 = .ok (.aload_n 0, 1) := by decide +kernel
theorem dX11_deed_109 : decode cX11_deed 109 = .ok (.getfield 26, 3) := by decide +kernel
theorem dX11_deed_112 : decode cX11_deed 112 = .ok (.aload_n 0, 1) := by decide +kernel
theorem dX11_deed_113 : decode cX11_deed 113 = .ok (.getfield 26, 3) := by decide +kernel
theorem dX11_deed_116 : decode cX11_deed 116 = .ok (.iload_n 2, 1) := by decide +kernel
theorem dX11_deed_117 : decode cX11_deed 117 = .ok (.aload_n 0, 1) := by decide +kernel
theorem dX11_deed_118 : decode cX11_deed 118 = .ok (.getfield 10, 3) := by decide +kernel
theorem dX11_deed_121 : decode cX11_deed 121 = .ok (.getfield 107, 3) := by decide +kernel
theorem dX11_deed_124 : decode cX11_deed 124 = .ok (.invokevirtual 180, 3) := by decide +kernel
theorem dX11_deed_127 : decode cX11_deed 127 = .ok (.invokevirtual 187, 3) := by decide +kernel
theorem dX11_deed_130 : decode cX11_deed 130 = .ok (.invokevirtual 190, 3) := by decide +kernel
theorem dX11_deed_133 : decode cX11_deed 133 = .ok (.ifCond .le 7, 3) := by decide +kernel
theorem dX11_deed_136 : decode cX11_deed 136 = .ok (.iconst 1, 1) := by decide +kernel
theorem dX11_deed_137 : decode cX11_deed 137 = .ok (.goto 4, 3) := by decide +kernel
theorem dX11_deed_140 : decode cX11_deed 140 = .ok (.iconst 0, 1) := by decide +kernel
theorem dX11_deed_141 : decode cX11_deed 141 = .ok (.istore 6, 2) := by decide +kernel
theorem dX11_deed_143 : decode cX11_deed 143 = .ok (.aload_n 0, 1) := by decide +kernel
theorem dX11_deed_144 : decode cX11_deed 144 = .ok (.getfield 57, 3) := by decide +kernel
theorem dX11_deed_147 : decode cX11_deed 147 = .ok (.iload_n 1, 1) := by decide +kernel
theorem dX11_deed_148 : decode cX11_deed 148 = .ok (.aload_n 0, 1) := by decide +kernel
theorem dX11_deed_149 : decode cX11_deed 149 = .ok (.getfield 10, 3) := by decide +kernel
theorem dX11_deed_152 : decode cX11_deed 152 = .ok (.getfield 107, 3) := by decide +kernel
theorem dX11_deed_155 : decode cX11_deed 155 = .ok (.iload_n 3, 1) := by decide +kernel
theorem dX11_deed_156 : decode cX11_deed 156 = .ok (.iload 4, 2) := by decide +kernel
theorem dX11_deed_158 : decode cX11_deed 158 = .ok (.iload 6, 2) := by decide +kernel
theorem dX11_deed_160 : decode cX11_deed 160 = .ok (.invokevirtual 355, 3) := by decide +kernel
theorem dX11_deed_163 : decode cX11_deed 163 = .ok (.ireturn, 1) := by decide +kernel
theorem dX11_deedOf_0 : decode cX11_deedOf 0 = .ok (.aload_n 0, 1) := by decide +kernel
theorem dX11_deedOf_1 : decode cX11_deedOf 1 = .ok (.getfield 57, 3) := by decide +kernel
theorem dX11_deedOf_4 : decode cX11_deedOf 4 = .ok (.iload_n 1, 1) := by decide +kernel
theorem dX11_deedOf_5 : decode cX11_deedOf 5 = .ok (.invokevirtual 358, 3) := by decide +kernel
theorem dX11_deedOf_8 : decode cX11_deedOf 8 = .ok (.ifCond .ne 9, 3) := by decide +kernel
theorem dX11_deedOf_11 : decode cX11_deedOf 11 = .ok (.aload_n 0, 1) := by decide +kernel
theorem dX11_deedOf_12 : decode cX11_deedOf 12 = .ok (.iconst (-1), 1) := by decide +kernel
theorem dX11_deedOf_13 : decode cX11_deedOf 13 = .ok (.invokevirtual 327, 3) := by decide +kernel
theorem dX11_deedOf_16 : decode cX11_deedOf 16 = .ok (.ireturn, 1) := by decide +kernel
theorem dX11_deedOf_17 : decode cX11_deedOf 17 = .ok (.iload_n 2, 1) := by decide +kernel
theorem dX11_deedOf_18 : decode cX11_deedOf 18 = .ok (.tableswitch 96 0 4 #[34, 44, 54, 60, 70], 34) := by decide +kernel
theorem dX11_deedOf_52 : decode cX11_deedOf 52 = .ok (.aload_n 0, 1) := by decide +kernel
theorem dX11_deedOf_53 : decode cX11_deedOf 53 = .ok (.getfield 57, 3) := by decide +kernel
theorem dX11_deedOf_56 : decode cX11_deedOf 56 = .ok (.getfield 359, 3) := by decide +kernel
theorem dX11_deedOf_59 : decode cX11_deedOf 59 = .ok (.iload_n 1, 1) := by decide +kernel
theorem dX11_deedOf_60 : decode cX11_deedOf 60 = .ok (.iaload, 1) := by decide +kernel
theorem dX11_deedOf_61 : decode cX11_deedOf 61 = .ok (.ireturn, 1) := by decide +kernel
theorem dX11_deedOf_62 : decode cX11_deedOf 62 = .ok (.aload_n 0, 1) := by decide +kernel
theorem dX11_deedOf_63 : decode cX11_deedOf 63 = .ok (.getfield 57, 3) := by decide +kernel
theorem dX11_deedOf_66 : decode cX11_deedOf 66 = .ok (.getfield 360, 3) := by decide +kernel
theorem dX11_deedOf_69 : decode cX11_deedOf 69 = .ok (.iload_n 1, 1) := by decide +kernel
theorem dX11_deedOf_70 : decode cX11_deedOf 70 = .ok (.iaload, 1) := by decide +kernel
theorem dX11_deedOf_71 : decode cX11_deedOf 71 = .ok (.ireturn, 1) := by decide +kernel
theorem dX11_deedOf_72 : decode cX11_deedOf 72 = .ok (.aload_n 0, 1) := by decide +kernel
theorem dX11_deedOf_73 : decode cX11_deedOf 73 = .ok (.iload_n 1, 1) := by decide +kernel
theorem dX11_deedOf_74 : decode cX11_deedOf 74 = .ok (.invokevirtual 361, 3) := by decide +kernel
theorem dX11_deedOf_77 : decode cX11_deedOf 77 = .ok (.ireturn, 1) := by decide +kernel
theorem dX11_deedOf_78 : decode cX11_deedOf 78 = .ok (.aload_n 0, 1) := by decide +kernel
theorem dX11_deedOf_79 : decode cX11_deedOf 79 = .ok (.getfield 57, 3) := by decide +kernel
theorem dX11_deedOf_82 : decode cX11_deedOf 82 = .ok (.iload_n 1, 1) := by decide +kernel
theorem dX11_deedOf_83 : decode cX11_deedOf 83 = .ok (.iconst 0, 1) := by decide +kernel
theorem dX11_deedOf_84 : decode cX11_deedOf 84 = .ok (.invokevirtual 364, 3) := by decide +kernel
theorem dX11_deedOf_87 : decode cX11_deedOf 87 = .ok (.ireturn, 1) := by decide +kernel
theorem dX11_deedOf_88 : decode cX11_deedOf 88 = .ok (.aload_n 0, 1) := by decide +kernel
theorem dX11_deedOf_89 : decode cX11_deedOf 89 = .ok (.iload_n 1, 1) := by decide +kernel
theorem dX11_deedOf_90 : decode cX11_deedOf 90 = .ok (.invokevirtual 361, 3) := by decide +kernel
theorem dX11_deedOf_93 : decode cX11_deedOf 93 = .ok (.istore_n 3, 1) := by decide +kernel
theorem dX11_deedOf_94 : decode cX11_deedOf 94 = .ok (.iload_n 3, 1) := by decide +kernel
theorem dX11_deedOf_95 : decode cX11_deedOf 95 = .ok (.bipush (-9), 2) := by decide +kernel
theorem dX11_deedOf_97 : decode cX11_deedOf 97 = .ok (.if_icmp .ne 7, 3) := by decide +kernel
theorem dX11_deedOf_100 : decode cX11_deedOf 100 = .ok (.iconst 0, 1) := by decide +kernel
theorem dX11_deedOf_101 : decode cX11_deedOf 101 = .ok (.goto 12, 3) := by decide +kernel
theorem dX11_deedOf_104 : decode cX11_deedOf 104 = .ok (.aload_n 0, 1) := by decide +kernel
theorem dX11_deedOf_105 : decode cX11_deedOf 105 = .ok (.getfield 57, 3) := by decide +kernel
theorem dX11_deedOf_108 : decode cX11_deedOf 108 = .ok (.iload_n 1, 1) := by decide +kernel
theorem dX11_deedOf_109 : decode cX11_deedOf 109 = .ok (.iload_n 3, 1) := by decide +kernel
theorem dX11_deedOf_110 : decode cX11_deedOf 110 = .ok (.invokevirtual 364, 3) := by decide +kernel
theorem dX11_deedOf_113 : decode cX11_deedOf 113 = .ok (.ireturn, 1) := by decide +kernel
theorem dX11_deedOf_114 : decode cX11_deedOf 114 = .ok (.aload_n 0, 1) := by decide +kernel
theorem dX11_deedOf_115 : decode cX11_deedOf 115 = .ok (.bipush (-2), 2) := by decide +kernel
theorem dX11_deedOf_117 : decode cX11_deedOf 117 = .ok (.invokevirtual 327, 3) := by decide +kernel
theorem dX11_deedOf_120 : decode cX11_deedOf 120 = .ok (.ireturn, 1) := by decide +kernel
theorem dX11_hang_0 : decode cX11_hang 0 = .ok (.aload_n 0, 1) := by decide +kernel
theorem dX11_hang_1 : decode cX11_hang 1 = .ok (.getfield 57, 3) := by decide +kernel
theorem dX11_hang_4 : decode cX11_hang 4 = .ok (.iload_n 1, 1) := by decide +kernel
theorem dX11_hang_5 : decode cX11_hang 5 = .ok (.invokevirtual 358, 3) := by decide +kernel
theorem dX11_hang_8 : decode cX11_hang 8 = .ok (.ifCond .ne 9, 3) := by decide +kernel
theorem dX11_hang_11 : decode cX11_hang 11 = .ok (.aload_n 0, 1) := by decide +kernel
theorem dX11_hang_12 : decode cX11_hang 12 = .ok (.iconst (-1), 1) := by decide +kernel
theorem dX11_hang_13 : decode cX11_hang 13 = .ok (.invokevirtual 103, 3) := by decide +kernel
theorem dX11_hang_16 : decode cX11_hang 16 = .ok (.ireturn, 1) := by decide +kernel
theorem dX11_hang_17 : decode cX11_hang 17 = .ok (.iload_n 2, 1) := by decide +kernel
theorem dX11_hang_18 : decode cX11_hang 18 = .ok (.iconst 1, 1) := by decide +kernel
theorem dX11_hang_19 : decode cX11_hang 19 = .ok (.sipush 9999, 3) := by decide +kernel
theorem dX11_hang_22 : decode cX11_hang 22 = .ok (.invokestatic 110, 3) := by decide +kernel
theorem dX11_hang_25 : decode cX11_hang 25 = .ok (.aload_n 0, 1) := by decide +kernel
theorem dX11_hang_26 : decode cX11_hang 26 = .ok (.getfield 57, 3) := by decide +kernel
theorem dX11_hang_29 : decode cX11_hang 29 = .ok (.getfield 367, 3) := by decide +kernel
theorem dX11_hang_32 : decode cX11_hang 32 = .ok (.bipush 100, 2) := by decide +kernel
theorem dX11_hang_34 : decode cX11_hang 34 = .ok (.invokestatic 131, 3) := by decide +kernel
theorem dX11_hang_37 : decode cX11_hang 37 = .ok (.invokestatic 118, 3) := by decide +kernel
theorem dX11_hang_40 : decode cX11_hang 40 = .ok (.istore_n 3, 1) := by decide +kernel
theorem dX11_hang_41 : decode cX11_hang 41 = .ok (.iload_n 3, 1) := by decide +kernel
theorem dX11_hang_42 : decode cX11_hang 42 = .ok (.ifCond .eq 9, 3) := by decide +kernel
theorem dX11_hang_45 : decode cX11_hang 45 = .ok (.aload_n 0, 1) := by decide +kernel
theorem dX11_hang_46 : decode cX11_hang 46 = .ok (.iload_n 3, 1) := by decide +kernel
theorem dX11_hang_47 : decode cX11_hang 47 = .ok (.invokevirtual 103, 3) := by decide +kernel
theorem dX11_hang_50 : decode cX11_hang 50 = .ok (.ireturn, 1) := by decide +kernel
theorem dX11_hang_51 : decode cX11_hang 51 = .ok (.aload_n 0, 1) := by decide +kernel
theorem dX11_hang_52 : decode cX11_hang 52 = .ok (.getfield 57, 3) := by decide +kernel
theorem dX11_hang_55 : decode cX11_hang 55 = .ok (.iload_n 1, 1) := by decide +kernel
theorem dX11_hang_56 : decode cX11_hang 56 = .ok (.iload_n 2, 1) := by decide +kernel
theorem dX11_hang_57 : decode cX11_hang 57 = .ok (.aload_n 0, 1) := by decide +kernel
theorem dX11_hang_58 : decode cX11_hang 58 = .ok (.getfield 10, 3) := by decide +kernel
theorem dX11_hang_61 : decode cX11_hang 61 = .ok (.getfield 107, 3) := by decide +kernel
theorem dX11_hang_64 : decode cX11_hang 64 = .ok (.invokevirtual 370, 3) := by decide +kernel
theorem dX11_hang_67 : decode cX11_hang 67 = .ok (.ireturn, 1) := by decide +kernel
theorem dX11_need_0 : decode cX11_need 0 = .ok (.iload_n 1, 1) := by decide +kernel
theorem dX11_need_1 : decode cX11_need 1 = .ok (.ifCond .lt 8, 3) := by decide +kernel
theorem dX11_need_4 : decode cX11_need 4 = .ok (.iload_n 1, 1) := by decide +kernel
theorem dX11_need_5 : decode cX11_need 5 = .ok (.iconst 2, 1) := by decide +kernel
theorem dX11_need_6 : decode cX11_need 6 = .ok (.if_icmp .le 10, 3) := by decide +kernel
theorem dX11_need_9 : decode cX11_need 9 = .ok (.aload_n 0, 1) := by decide +kernel
theorem dX11_need_10 : decode cX11_need 10 = .ok (.bipush (-2), 2) := by decide +kernel
theorem dX11_need_12 : decode cX11_need 12 = .ok (.invokevirtual 103, 3) := by decide +kernel
theorem dX11_need_15 : decode cX11_need 15 = .ok (.ireturn, 1) := by decide +kernel
theorem dX11_need_16 : decode cX11_need 16 = .ok (.iload_n 2, 1) := by decide +kernel
theorem dX11_need_17 : decode cX11_need 17 = .ok (.iconst 0, 1) := by decide +kernel
theorem dX11_need_18 : decode cX11_need 18 = .ok (.iconst 2, 1) := by decide +kernel
theorem dX11_need_19 : decode cX11_need 19 = .ok (.invokestatic 110, 3) := by decide +kernel
theorem dX11_need_22 : decode cX11_need 22 = .ok (.istore_n 3, 1) := by decide +kernel
theorem dX11_need_23 : decode cX11_need 23 = .ok (.iload_n 3, 1) := by decide +kernel
theorem dX11_need_24 : decode cX11_need 24 = .ok (.ifCond .eq 9, 3) := by decide +kernel
theorem dX11_need_27 : decode cX11_need 27 = .ok (.aload_n 0, 1) := by decide +kernel
theorem dX11_need_28 : decode cX11_need 28 = .ok (.iload_n 3, 1) := by decide +kernel
theorem dX11_need_29 : decode cX11_need 29 = .ok (.invokevirtual 103, 3) := by decide +kernel
theorem dX11_need_32 : decode cX11_need 32 = .ok (.ireturn, 1) := by decide +kernel
theorem dX11_need_33 : decode cX11_need 33 = .ok (.aload_n 0, 1) := by decide +kernel
theorem dX11_need_34 : decode cX11_need 34 = .ok (.getfield 64, 3) := by decide +kernel
theorem dX11_need_37 : decode cX11_need 37 = .ok (.getfield 373, 3) := by decide +kernel
theorem dX11_need_40 : decode cX11_need 40 = .ok (.iload_n 1, 1) := by decide +kernel
theorem dX11_need_41 : decode cX11_need 41 = .ok (.iaload, 1) := by decide +kernel
theorem dX11_need_42 : decode cX11_need 42 = .ok (.istore 4, 2) := by decide +kernel
theorem dX11_need_44 : decode cX11_need 44 = .ok (.aload_n 0, 1) := by decide +kernel
theorem dX11_need_45 : decode cX11_need 45 = .ok (.getfield 64, 3) := by decide +kernel
theorem dX11_need_48 : decode cX11_need 48 = .ok (.getfield 373, 3) := by decide +kernel
theorem dX11_need_51 : decode cX11_need 51 = .ok (.iload_n 1, 1) := by decide +kernel
theorem dX11_need_52 : decode cX11_need 52 = .ok (.iload_n 2, 1) := by decide +kernel
theorem dX11_need_53 : decode cX11_need 53 = .ok (.iastore, 1) := by decide +kernel
theorem dX11_need_54 : decode cX11_need 54 = .ok (.aload_n 0, 1) := by decide +kernel
theorem dX11_need_55 : decode cX11_need 55 = .ok (.getfield 64, 3) := by decide +kernel
theorem dX11_need_58 : decode cX11_need 58 = .ok (.invokevirtual 134, 3) := by decide +kernel
theorem dX11_need_61 : decode cX11_need 61 = .ok (.iload 4, 2) := by decide +kernel
theorem dX11_need_63 : decode cX11_need 63 = .ok (.ireturn, 1) := by decide +kernel
theorem dX11_wish_0 : decode cX11_wish 0 = .ok (.aload_n 0, 1) := by decide +kernel
theorem dX11_wish_1 : decode cX11_wish 1 = .ok (.getfield 19, 3) := by decide +kernel
theorem dX11_wish_4 : decode cX11_wish 4 = .ok (.iload_n 1, 1) := by decide +kernel
theorem dX11_wish_5 : decode cX11_wish 5 = .ok (.invokevirtual 141, 3) := by decide +kernel
theorem dX11_wish_8 : decode cX11_wish 8 = .ok (.ifCond .ne 9, 3) := by decide +kernel
theorem dX11_wish_11 : decode cX11_wish 11 = .ok (.aload_n 0, 1) := by decide +kernel
theorem dX11_wish_12 : decode cX11_wish 12 = .ok (.iconst (-1), 1) := by decide +kernel
theorem dX11_wish_13 : decode cX11_wish 13 = .ok (.invokevirtual 103, 3) := by decide +kernel
theorem dX11_wish_16 : decode cX11_wish 16 = .ok (.ireturn, 1) := by decide +kernel
theorem dX11_wish_17 : decode cX11_wish 17 = .ok (.iload_n 3, 1) := by decide +kernel
theorem dX11_wish_18 : decode cX11_wish 18 = .ok (.ifCond .lt 8, 3) := by decide +kernel
theorem dX11_wish_21 : decode cX11_wish 21 = .ok (.iload_n 3, 1) := by decide +kernel
theorem dX11_wish_22 : decode cX11_wish 22 = .ok (.iconst 2, 1) := by decide +kernel
theorem dX11_wish_23 : decode cX11_wish 23 = .ok (.if_icmp .le 10, 3) := by decide +kernel
theorem dX11_wish_26 : decode cX11_wish 26 = .ok (.aload_n 0, 1) := by decide +kernel
theorem dX11_wish_27 : decode cX11_wish 27 = .ok (.bipush (-2), 2) := by decide +kernel
theorem dX11_wish_29 : decode cX11_wish 29 = .ok (.invokevirtual 103, 3) := by decide +kernel
theorem dX11_wish_32 : decode cX11_wish 32 = .ok (.ireturn, 1) := by decide +kernel
theorem dX11_wish_33 : decode cX11_wish 33 = .ok (.iload_n 2, 1) := by decide +kernel
theorem dX11_wish_34 : decode cX11_wish 34 = .ok (.ifCond .lt 8, 3) := by decide +kernel
theorem dX11_wish_37 : decode cX11_wish 37 = .ok (.iload_n 2, 1) := by decide +kernel
theorem dX11_wish_38 : decode cX11_wish 38 = .ok (.iconst 4, 1) := by decide +kernel
theorem dX11_wish_39 : decode cX11_wish 39 = .ok (.if_icmp .lt 10, 3) := by decide +kernel
theorem dX11_wish_42 : decode cX11_wish 42 = .ok (.aload_n 0, 1) := by decide +kernel
theorem dX11_wish_43 : decode cX11_wish 43 = .ok (.bipush (-3), 2) := by decide +kernel
theorem dX11_wish_45 : decode cX11_wish 45 = .ok (.invokevirtual 103, 3) := by decide +kernel
theorem dX11_wish_48 : decode cX11_wish 48 = .ok (.ireturn, 1) := by decide +kernel
theorem dX11_wish_49 : decode cX11_wish 49 = .ok (.aload_n 0, 1) := by decide +kernel
theorem dX11_wish_50 : decode cX11_wish 50 = .ok (.getfield 19, 3) := by decide +kernel
theorem dX11_wish_53 : decode cX11_wish 53 = .ok (.iload_n 1, 1) := by decide +kernel
theorem dX11_wish_54 : decode cX11_wish 54 = .ok (.iload_n 2, 1) := by decide +kernel
theorem dX11_wish_55 : decode cX11_wish 55 = .ok (.iload_n 3, 1) := by decide +kernel
theorem dX11_wish_56 : decode cX11_wish 56 = .ok (.invokevirtual 376, 3) := by decide +kernel
theorem dX11_wish_59 : decode cX11_wish 59 = .ok (.iload 4, 2) := by decide +kernel
theorem dX11_wish_61 : decode cX11_wish 61 = .ok (.if_icmp .ne 5, 3) := by decide +kernel
theorem dX11_wish_64 : decode cX11_wish 64 = .ok (.iconst 0, 1) := by decide +kernel
theorem dX11_wish_65 : decode cX11_wish 65 = .ok (.ireturn, 1) := by decide +kernel
theorem dX11_wish_66 : decode cX11_wish 66 = .ok (.aload_n 0, 1) := by decide +kernel
theorem dX11_wish_67 : decode cX11_wish 67 = .ok (.getfield 19, 3) := by decide +kernel
theorem dX11_wish_70 : decode cX11_wish 70 = .ok (.iload_n 1, 1) := by decide +kernel
theorem dX11_wish_71 : decode cX11_wish 71 = .ok (.iload_n 2, 1) := by decide +kernel
theorem dX11_wish_72 : decode cX11_wish 72 = .ok (.iload_n 3, 1) := by decide +kernel
theorem dX11_wish_73 : decode cX11_wish 73 = .ok (.invokevirtual 380, 3) := by decide +kernel
theorem dX11_wish_76 : decode cX11_wish 76 = .ok (.aload_n 0, 1) := by decide +kernel
theorem dX11_wish_77 : decode cX11_wish 77 = .ok (.getfield 64, 3) := by decide +kernel
theorem dX11_wish_80 : decode cX11_wish 80 = .ok (.invokevirtual 134, 3) := by decide +kernel
theorem dX11_wish_83 : decode cX11_wish 83 = .ok (.iconst 1, 1) := by decide +kernel
theorem dX11_wish_84 : decode cX11_wish 84 = .ok (.ireturn, 1) := by decide +kernel
theorem dX11_shifts_0 : decode cX11_shifts 0 = .ok (.iload_n 1, 1) := by decide +kernel
theorem dX11_shifts_1 : decode cX11_shifts 1 = .ok (.invokestatic 125, 3) := by decide +kernel
theorem dX11_shifts_4 : decode cX11_shifts 4 = .ok (.ifCond .ne 9, 3) := by decide +kernel
theorem dX11_shifts_7 : decode cX11_shifts 7 = .ok (.aload_n 0, 1) := by decide +kernel
theorem dX11_shifts_8 : decode cX11_shifts 8 = .ok (.iconst (-1), 1) := by decide +kernel
theorem dX11_shifts_9 : decode cX11_shifts 9 = .ok (.invokevirtual 103, 3) := by decide +kernel
theorem dX11_shifts_12 : decode cX11_shifts 12 = .ok (.ireturn, 1) := by decide +kernel
theorem dX11_shifts_13 : decode cX11_shifts 13 = .ok (.iload_n 2, 1) := by decide +kernel
theorem dX11_shifts_14 : decode cX11_shifts 14 = .ok (.ifCond .lt 9, 3) := by decide +kernel
theorem dX11_shifts_17 : decode cX11_shifts 17 = .ok (.iload_n 2, 1) := by decide +kernel
theorem dX11_shifts_18 : decode cX11_shifts 18 = .ok (.bipush 7, 2) := by decide +kernel
theorem dX11_shifts_20 : decode cX11_shifts 20 = .ok (.if_icmp .le 10, 3) := by decide +kernel
theorem dX11_shifts_23 : decode cX11_shifts 23 = .ok (.aload_n 0, 1) := by decide +kernel
theorem dX11_shifts_24 : decode cX11_shifts 24 = .ok (.bipush (-2), 2) := by decide +kernel
theorem dX11_shifts_26 : decode cX11_shifts 26 = .ok (.invokevirtual 103, 3) := by decide +kernel
theorem dX11_shifts_29 : decode cX11_shifts 29 = .ok (.ireturn, 1) := by decide +kernel
theorem dX11_shifts_30 : decode cX11_shifts 30 = .ok (.aload_n 0, 1) := by decide +kernel
theorem dX11_shifts_31 : decode cX11_shifts 31 = .ok (.iload_n 1, 1) := by decide +kernel
theorem dX11_shifts_32 : decode cX11_shifts 32 = .ok (.iload_n 2, 1) := by decide +kernel
theorem dX11_shifts_33 : decode cX11_shifts 33 = .ok (.invokevirtual 384, 3) := by decide +kernel
theorem dX11_shifts_36 : decode cX11_shifts 36 = .ok (.ireturn, 1) := by decide +kernel
theorem dX11_shiftOf_0 : decode cX11_shiftOf 0 = .ok (.iload_n 1, 1) := by decide +kernel
theorem dX11_shiftOf_1 : decode cX11_shiftOf 1 = .ok (.invokestatic 125, 3) := by decide +kernel
theorem dX11_shiftOf_4 : decode cX11_shiftOf 4 = .ok (.ifCond .eq 14, 3) := by decide +kernel
theorem dX11_shiftOf_7 : decode cX11_shiftOf 7 = .ok (.aload_n 0, 1) := by decide +kernel
theorem dX11_shiftOf_8 : decode cX11_shiftOf 8 = .ok (.getfield 19, 3) := by decide +kernel
theorem dX11_shiftOf_11 : decode cX11_shiftOf 11 = .ok (.iload_n 3, 1) := by decide +kernel
theorem dX11_shiftOf_12 : decode cX11_shiftOf 12 = .ok (.invokevirtual 141, 3) := by decide +kernel
theorem dX11_shiftOf_15 : decode cX11_shiftOf 15 = .ok (.ifCond .ne 9, 3) := by decide +kernel
theorem dX11_shiftOf_18 : decode cX11_shiftOf 18 = .ok (.aload_n 0, 1) := by decide +kernel
theorem dX11_shiftOf_19 : decode cX11_shiftOf 19 = .ok (.iconst (-1), 1) := by decide +kernel
theorem dX11_shiftOf_20 : decode cX11_shiftOf 20 = .ok (.invokevirtual 103, 3) := by decide +kernel
theorem dX11_shiftOf_23 : decode cX11_shiftOf 23 = .ok (.ireturn, 1) := by decide +kernel
theorem dX11_shiftOf_24 : decode cX11_shiftOf 24 = .ok (.iload_n 2, 1) := by decide +kernel
theorem dX11_shiftOf_25 : decode cX11_shiftOf 25 = .ok (.ifCond .lt 9, 3) := by decide +kernel
theorem dX11_shiftOf_28 : decode cX11_shiftOf 28 = .ok (.iload_n 2, 1) := by decide +kernel
theorem dX11_shiftOf_29 : decode cX11_shiftOf 29 = .ok (.bipush 7, 2) := by decide +kernel
theorem dX11_shiftOf_31 : decode cX11_shiftOf 31 = .ok (.if_icmp .le 10, 3) := by decide +kernel
theorem dX11_shiftOf_34 : decode cX11_shiftOf 34 = .ok (.aload_n 0, 1) := by decide +kernel
theorem dX11_shiftOf_35 : decode cX11_shiftOf 35 = .ok (.bipush (-2), 2) := by decide +kernel
theorem dX11_shiftOf_37 : decode cX11_shiftOf 37 = .ok (.invokevirtual 103, 3) := by decide +kernel
theorem dX11_shiftOf_40 : decode cX11_shiftOf 40 = .ok (.ireturn, 1) := by decide +kernel
theorem dX11_shiftOf_41 : decode cX11_shiftOf 41 = .ok (.iload 4, 2) := by decide +kernel
theorem dX11_shiftOf_43 : decode cX11_shiftOf 43 = .ok (.ifCond .lt 9, 3) := by decide +kernel
theorem dX11_shiftOf_46 : decode cX11_shiftOf 46 = .ok (.iload 4, 2) := by decide +kernel
theorem dX11_shiftOf_48 : decode cX11_shiftOf 48 = .ok (.iconst 4, 1) := by decide +kernel
theorem dX11_shiftOf_49 : decode cX11_shiftOf 49 = .ok (.if_icmp .lt 10, 3) := by decide +kernel
theorem dX11_shiftOf_52 : decode cX11_shiftOf 52 = .ok (.aload_n 0, 1) := by decide +kernel
theorem dX11_shiftOf_53 : decode cX11_shiftOf 53 = .ok (.bipush (-3), 2) := by decide +kernel
theorem dX11_shiftOf_55 : decode cX11_shiftOf 55 = .ok (.invokevirtual 103, 3) := by decide +kernel
theorem dX11_shiftOf_58 : decode cX11_shiftOf 58 = .ok (.ireturn, 1) := by decide +kernel
theorem dX11_shiftOf_59 : decode cX11_shiftOf 59 = .ok (.aload_n 0, 1) := by decide +kernel
theorem dX11_shiftOf_60 : decode cX11_shiftOf 60 = .ok (.iload_n 1, 1) := by decide +kernel
theorem dX11_shiftOf_61 : decode cX11_shiftOf 61 = .ok (.iload_n 2, 1) := by decide +kernel
theorem dX11_shiftOf_62 : decode cX11_shiftOf 62 = .ok (.invokevirtual 384, 3) := by decide +kernel
theorem dX11_shiftOf_65 : decode cX11_shiftOf 65 = .ok (.bipush (-9), 2) := by decide +kernel
theorem dX11_shiftOf_67 : decode cX11_shiftOf 67 = .ok (.if_icmp .ne 8, 3) := by decide +kernel
theorem dX11_shiftOf_70 : decode cX11_shiftOf 70 = .ok (.bipush (-9), 2) := by decide +kernel
theorem dX11_shiftOf_72 : decode cX11_shiftOf 72 = .ok (.goto 13, 3) := by decide +kernel
theorem dX11_shiftOf_75 : decode cX11_shiftOf 75 = .ok (.aload_n 0, 1) := by decide +kernel
theorem dX11_shiftOf_76 : decode cX11_shiftOf 76 = .ok (.getfield 64, 3) := by decide +kernel
theorem dX11_shiftOf_79 : decode cX11_shiftOf 79 = .ok (.iload_n 3, 1) := by decide +kernel
theorem dX11_shiftOf_80 : decode cX11_shiftOf 80 = .ok (.iload 4, 2) := by decide +kernel
theorem dX11_shiftOf_82 : decode cX11_shiftOf 82 = .ok (.invokevirtual 387, 3) := by decide +kernel
theorem dX11_shiftOf_85 : decode cX11_shiftOf 85 = .ok (.ireturn, 1) := by decide +kernel
theorem dX11_bars_0 : decode cX11_bars 0 = .ok (.iload_n 1, 1) := by decide +kernel
theorem dX11_bars_1 : decode cX11_bars 1 = .ok (.invokestatic 125, 3) := by decide +kernel
theorem dX11_bars_4 : decode cX11_bars 4 = .ok (.ifCond .ne 9, 3) := by decide +kernel
theorem dX11_bars_7 : decode cX11_bars 7 = .ok (.aload_n 0, 1) := by decide +kernel
theorem dX11_bars_8 : decode cX11_bars 8 = .ok (.iconst (-1), 1) := by decide +kernel
theorem dX11_bars_9 : decode cX11_bars 9 = .ok (.invokevirtual 103, 3) := by decide +kernel
theorem dX11_bars_12 : decode cX11_bars 12 = .ok (.ireturn, 1) := by decide +kernel
theorem dX11_bars_13 : decode cX11_bars 13 = .ok (.aload_n 0, 1) := by decide +kernel
theorem dX11_bars_14 : decode cX11_bars 14 = .ok (.getfield 19, 3) := by decide +kernel
theorem dX11_bars_17 : decode cX11_bars 17 = .ok (.iconst 1, 1) := by decide +kernel
theorem dX11_bars_18 : decode cX11_bars 18 = .ok (.iload_n 1, 1) := by decide +kernel
theorem dX11_bars_19 : decode cX11_bars 19 = .ok (.ishl, 1) := by decide +kernel
theorem dX11_bars_20 : decode cX11_bars 20 = .ok (.invokevirtual 390, 3) := by decide +kernel
theorem dX11_bars_23 : decode cX11_bars 23 = .ok (.iconst 4, 1) := by decide +kernel
theorem dX11_bars_24 : decode cX11_bars 24 = .ok (.if_icmp .ge 6, 3) := by decide +kernel
theorem dX11_bars_27 : decode cX11_bars 27 = .ok (.bipush (-8), 2) := by decide +kernel
theorem dX11_bars_29 : decode cX11_bars 29 = .ok (.ireturn, 1) := by decide +kernel
theorem dX11_bars_30 : decode cX11_bars 30 = .ok (.aload_n 0, 1) := by decide +kernel
theorem dX11_bars_31 : decode cX11_bars 31 = .ok (.getfield 64, 3) := by decide +kernel
theorem dX11_bars_34 : decode cX11_bars 34 = .ok (.bipush 7, 2) := by decide +kernel
theorem dX11_bars_36 : decode cX11_bars 36 = .ok (.aload_n 0, 1) := by decide +kernel
theorem dX11_bars_37 : decode cX11_bars 37 = .ok (.getfield 87, 3) := by decide +kernel
theorem dX11_bars_40 : decode cX11_bars 40 = .ok (.iconst 4, 1) := by decide +kernel
theorem dX11_bars_41 : decode cX11_bars 41 = .ok (.iaload, 1) := by decide +kernel
theorem dX11_bars_42 : decode cX11_bars 42 = .ok (.invokevirtual 393, 3) := by decide +kernel
theorem dX11_bars_45 : decode cX11_bars 45 = .ok (.ifCond .eq 6, 3) := by decide +kernel
theorem dX11_bars_48 : decode cX11_bars 48 = .ok (.bipush (-9), 2) := by decide +kernel
theorem dX11_bars_50 : decode cX11_bars 50 = .ok (.ireturn, 1) := by decide +kernel
theorem dX11_bars_51 : decode cX11_bars 51 = .ok (.iconst 0, 1) := by decide +kernel
theorem dX11_bars_52 : decode cX11_bars 52 = .ok (.istore_n 2, 1) := by decide +kernel
theorem dX11_bars_53 : decode cX11_bars 53 = .ok (.iload_n 2, 1) := by decide +kernel
theorem dX11_bars_54 : decode cX11_bars 54 = .ok (.getstatic 396, 3) := by decide +kernel
theorem dX11_bars_57 : decode cX11_bars 57 = .ok (.arraylength, 1) := by decide +kernel
theorem dX11_bars_58 : decode cX11_bars 58 = .ok (.if_icmp .ge 36, 3) := by decide +kernel
theorem dX11_bars_61 : decode cX11_bars 61 = .ok (.aload_n 0, 1) := by decide +kernel
theorem dX11_bars_62 : decode cX11_bars 62 = .ok (.getfield 64, 3) := by decide +kernel
theorem dX11_bars_65 : decode cX11_bars 65 = .ok (.getstatic 396, 3) := by decide +kernel
theorem dX11_bars_68 : decode cX11_bars 68 = .ok (.iload_n 2, 1) := by decide +kernel
theorem dX11_bars_69 : decode cX11_bars 69 = .ok (.iaload, 1) := by decide +kernel
theorem dX11_bars_70 : decode cX11_bars 70 = .ok (.aload_n 0, 1) := by decide +kernel
theorem dX11_bars_71 : decode cX11_bars 71 = .ok (.getfield 87, 3) := by decide +kernel
theorem dX11_bars_74 : decode cX11_bars 74 = .ok (.iconst 4, 1) := by decide +kernel
theorem dX11_bars_75 : decode cX11_bars 75 = .ok (.iaload, 1) := by decide +kernel
theorem dX11_bars_76 : decode cX11_bars 76 = .ok (.invokevirtual 393, 3) := by decide +kernel
theorem dX11_bars_79 : decode cX11_bars 79 = .ok (.ifCond .ne 9, 3) := by decide +kernel
theorem dX11_bars_82 : decode cX11_bars 82 = .ok (.getstatic 396, 3) := by decide +kernel
theorem dX11_bars_85 : decode cX11_bars 85 = .ok (.iload_n 2, 1) := by decide +kernel
theorem dX11_bars_86 : decode cX11_bars 86 = .ok (.iaload, 1) := by decide +kernel
theorem dX11_bars_87 : decode cX11_bars 87 = .ok (.ireturn, 1) := by decide +kernel
theorem dX11_bars_88 : decode cX11_bars 88 = .ok (.iinc 2 1, 3) := by decide +kernel
theorem dX11_bars_91 : decode cX11_bars 91 = .ok (.goto (-38), 3) := by decide +kernel
theorem dX11_bars_94 : decode cX11_bars 94 = .ok (.bipush 7, 2) := by decide +kernel
theorem dX11_bars_96 : decode cX11_bars 96 = .ok (.ireturn, 1) := by decide +kernel
theorem dX11_study_0 : decode cX11_study 0 = .ok (.iload_n 1, 1) := by decide +kernel
theorem dX11_study_1 : decode cX11_study 1 = .ok (.ifCond .lt 8, 3) := by decide +kernel
theorem dX11_study_4 : decode cX11_study 4 = .ok (.iload_n 1, 1) := by decide +kernel
theorem dX11_study_5 : decode cX11_study 5 = .ok (.iconst 5, 1) := by decide +kernel
theorem dX11_study_6 : decode cX11_study 6 = .ok (.if_icmp .lt 9, 3) := by decide +kernel
theorem dX11_study_9 : decode cX11_study 9 = .ok (.aload_n 0, 1) := by decide +kernel
theorem dX11_study_10 : decode cX11_study 10 = .ok (.iconst (-1), 1) := by decide +kernel
theorem dX11_study_11 : decode cX11_study 11 = .ok (.invokevirtual 103, 3) := by decide +kernel
theorem dX11_study_14 : decode cX11_study 14 = .ok (.ireturn, 1) := by decide +kernel
theorem dX11_study_15 : decode cX11_study 15 = .ok (.iload_n 2, 1) := by decide +kernel
theorem dX11_study_16 : decode cX11_study 16 = .ok (.iconst 1, 1) := by decide +kernel
theorem dX11_study_17 : decode cX11_study 17 = .ok (.sipush 999, 3) := by decide +kernel
theorem dX11_study_20 : decode cX11_study 20 = .ok (.invokestatic 110, 3) := by decide +kernel
theorem dX11_study_23 : decode cX11_study 23 = .ok (.aload_n 0, 1) := by decide +kernel
theorem dX11_study_24 : decode cX11_study 24 = .ok (.getfield 71, 3) := by decide +kernel
theorem dX11_study_27 : decode cX11_study 27 = .ok (.getfield 399, 3) := by decide +kernel
theorem dX11_study_30 : decode cX11_study 30 = .ok (.iload_n 1, 1) := by decide +kernel
theorem dX11_study_31 : decode cX11_study 31 = .ok (.iaload, 1) := by decide +kernel
theorem dX11_study_32 : decode cX11_study 32 = .ok (.bipush 12, 2) := by decide +kernel
theorem dX11_study_34 : decode cX11_study 34 = .ok (.invokestatic 131, 3) := by decide +kernel
theorem dX11_study_37 : decode cX11_study 37 = .ok (.invokestatic 118, 3) := by decide +kernel
theorem dX11_study_40 : decode cX11_study 40 = .ok (.istore_n 3, 1) := by decide +kernel
theorem dX11_study_41 : decode cX11_study 41 = .ok (.iload_n 3, 1) := by decide +kernel
theorem dX11_study_42 : decode cX11_study 42 = .ok (.ifCond .eq 9, 3) := by decide +kernel
theorem dX11_study_45 : decode cX11_study 45 = .ok (.aload_n 0, 1) := by decide +kernel
theorem dX11_study_46 : decode cX11_study 46 = .ok (.iload_n 3, 1) := by decide +kernel
theorem dX11_study_47 : decode cX11_study 47 = .ok (.invokevirtual 103, 3) := by decide +kernel
theorem dX11_study_50 : decode cX11_study 50 = .ok (.ireturn, 1) := by decide +kernel
theorem dX11_study_51 : decode cX11_study 51 = .ok (.aload_n 0, 1) := by decide +kernel
theorem dX11_study_52 : decode cX11_study 52 = .ok (.getfield 71, 3) := by decide +kernel
theorem dX11_study_55 : decode cX11_study 55 = .ok (.iload_n 1, 1) := by decide +kernel
theorem dX11_study_56 : decode cX11_study 56 = .ok (.iload_n 2, 1) := by decide +kernel
theorem dX11_study_57 : decode cX11_study 57 = .ok (.aload_n 0, 1) := by decide +kernel
theorem dX11_study_58 : decode cX11_study 58 = .ok (.getfield 10, 3) := by decide +kernel
theorem dX11_study_61 : decode cX11_study 61 = .ok (.getfield 107, 3) := by decide +kernel
theorem dX11_study_64 : decode cX11_study 64 = .ok (.invokevirtual 402, 3) := by decide +kernel
theorem dX11_study_67 : decode cX11_study 67 = .ok (.ireturn, 1) := by decide +kernel
theorem dX11_time_0 : decode cX11_time 0 = .ok (.iload_n 1, 1) := by decide +kernel
theorem dX11_time_1 : decode cX11_time 1 = .ok (.ifCond .lt 8, 3) := by decide +kernel
theorem dX11_time_4 : decode cX11_time 4 = .ok (.iload_n 1, 1) := by decide +kernel
theorem dX11_time_5 : decode cX11_time 5 = .ok (.iconst 5, 1) := by decide +kernel
theorem dX11_time_6 : decode cX11_time 6 = .ok (.if_icmp .lt 9, 3) := by decide +kernel
theorem dX11_time_9 : decode cX11_time 9 = .ok (.aload_n 0, 1) := by decide +kernel
theorem dX11_time_10 : decode cX11_time 10 = .ok (.iconst (-1), 1) := by decide +kernel
theorem dX11_time_11 : decode cX11_time 11 = .ok (.invokevirtual 103, 3) := by decide +kernel
theorem dX11_time_14 : decode cX11_time 14 = .ok (.ireturn, 1) := by decide +kernel
theorem dX11_time_15 : decode cX11_time 15 = .ok (.iload_n 2, 1) := by decide +kernel
theorem dX11_time_16 : decode cX11_time 16 = .ok (.iconst 0, 1) := by decide +kernel
theorem dX11_time_17 : decode cX11_time 17 = .ok (.sipush 1000, 3) := by decide +kernel
theorem dX11_time_20 : decode cX11_time 20 = .ok (.invokestatic 110, 3) := by decide +kernel
theorem dX11_time_23 : decode cX11_time 23 = .ok (.istore_n 3, 1) := by decide +kernel
theorem dX11_time_24 : decode cX11_time 24 = .ok (.iload_n 3, 1) := by decide +kernel
theorem dX11_time_25 : decode cX11_time 25 = .ok (.ifCond .eq 9, 3) := by decide +kernel
theorem dX11_time_28 : decode cX11_time 28 = .ok (.aload_n 0, 1) := by decide +kernel
theorem dX11_time_29 : decode cX11_time 29 = .ok (.iload_n 3, 1) := by decide +kernel
theorem dX11_time_30 : decode cX11_time 30 = .ok (.invokevirtual 103, 3) := by decide +kernel
theorem dX11_time_33 : decode cX11_time 33 = .ok (.ireturn, 1) := by decide +kernel
theorem dX11_time_34 : decode cX11_time 34 = .ok (.aload_n 0, 1) := by decide +kernel
theorem dX11_time_35 : decode cX11_time 35 = .ok (.getfield 71, 3) := by decide +kernel
theorem dX11_time_38 : decode cX11_time 38 = .ok (.iload_n 1, 1) := by decide +kernel
theorem dX11_time_39 : decode cX11_time 39 = .ok (.iload_n 2, 1) := by decide +kernel
theorem dX11_time_40 : decode cX11_time 40 = .ok (.invokevirtual 404, 3) := by decide +kernel
theorem dX11_time_43 : decode cX11_time 43 = .ok (.ireturn, 1) := by decide +kernel
theorem dX11_changed_0 : decode cX11_changed 0 = .ok (.iload_n 1, 1) := by decide +kernel
theorem dX11_changed_1 : decode cX11_changed 1 = .ok (.ifCond .lt 8, 3) := by decide +kernel
theorem dX11_changed_4 : decode cX11_changed 4 = .ok (.iload_n 1, 1) := by decide +kernel
theorem dX11_changed_5 : decode cX11_changed 5 = .ok (.iconst 5, 1) := by decide +kernel
theorem dX11_changed_6 : decode cX11_changed 6 = .ok (.if_icmp .lt 9, 3) := by decide +kernel
theorem dX11_changed_9 : decode cX11_changed 9 = .ok (.aload_n 0, 1) := by decide +kernel
theorem dX11_changed_10 : decode cX11_changed 10 = .ok (.iconst (-1), 1) := by decide +kernel
theorem dX11_changed_11 : decode cX11_changed 11 = .ok (.invokevirtual 103, 3) := by decide +kernel
theorem dX11_changed_14 : decode cX11_changed 14 = .ok (.ireturn, 1) := by decide +kernel
theorem dX11_changed_15 : decode cX11_changed 15 = .ok (.iload_n 2, 1) := by decide +kernel
theorem dX11_changed_16 : decode cX11_changed 16 = .ok (.iconst 1, 1) := by decide +kernel
theorem dX11_changed_17 : decode cX11_changed 17 = .ok (.sipush 999, 3) := by decide +kernel
theorem dX11_changed_20 : decode cX11_changed 20 = .ok (.invokestatic 110, 3) := by decide +kernel
theorem dX11_changed_23 : decode cX11_changed 23 = .ok (.iload_n 3, 1) := by decide +kernel
theorem dX11_changed_24 : decode cX11_changed 24 = .ok (.iconst 0, 1) := by decide +kernel
theorem dX11_changed_25 : decode cX11_changed 25 = .ok (.sipush 1000, 3) := by decide +kernel
theorem dX11_changed_28 : decode cX11_changed 28 = .ok (.invokestatic 110, 3) := by decide +kernel
theorem dX11_changed_31 : decode cX11_changed 31 = .ok (.invokestatic 118, 3) := by decide +kernel
theorem dX11_changed_34 : decode cX11_changed 34 = .ok (.istore 4, 2) := by decide +kernel
theorem dX11_changed_36 : decode cX11_changed 36 = .ok (.iload 4, 2) := by decide +kernel
theorem dX11_changed_38 : decode cX11_changed 38 = .ok (.ifCond .eq 10, 3) := by decide +kernel
theorem dX11_changed_41 : decode cX11_changed 41 = .ok (.aload_n 0, 1) := by decide +kernel
theorem dX11_changed_42 : decode cX11_changed 42 = .ok (.iload 4, 2) := by decide +kernel
theorem dX11_changed_44 : decode cX11_changed 44 = .ok (.invokevirtual 103, 3) := by decide +kernel
theorem dX11_changed_47 : decode cX11_changed 47 = .ok (.ireturn, 1) := by decide +kernel
theorem dX11_changed_48 : decode cX11_changed 48 = .ok (.aload_n 0, 1) := by decide +kernel
theorem dX11_changed_49 : decode cX11_changed 49 = .ok (.getfield 71, 3) := by decide +kernel
theorem dX11_changed_52 : decode cX11_changed 52 = .ok (.iload_n 1, 1) := by decide +kernel
theorem dX11_changed_53 : decode cX11_changed 53 = .ok (.iload_n 3, 1) := by decide +kernel
theorem dX11_changed_54 : decode cX11_changed 54 = .ok (.invokevirtual 404, 3) := by decide +kernel
theorem dX11_changed_57 : decode cX11_changed 57 = .ok (.istore 5, 2) := by decide +kernel
theorem dX11_changed_59 : decode cX11_changed 59 = .ok (.iload 5, 2) := by decide +kernel
theorem dX11_changed_61 : decode cX11_changed 61 = .ok (.bipush (-9), 2) := by decide +kernel
theorem dX11_changed_63 : decode cX11_changed 63 = .ok (.if_icmp .eq 21, 3) := by decide +kernel
theorem dX11_changed_66 : decode cX11_changed 66 = .ok (.bipush 10, 2) := by decide +kernel
theorem dX11_changed_68 : decode cX11_changed 68 = .ok (.iload 5, 2) := by decide +kernel
theorem dX11_changed_70 : decode cX11_changed 70 = .ok (.iload_n 2, 1) := by decide +kernel
theorem dX11_changed_71 : decode cX11_changed 71 = .ok (.isub, 1) := by decide +kernel
theorem dX11_changed_72 : decode cX11_changed 72 = .ok (.invokestatic 407, 3) := by decide +kernel
theorem dX11_changed_75 : decode cX11_changed 75 = .ok (.imul, 1) := by decide +kernel
theorem dX11_changed_76 : decode cX11_changed 76 = .ok (.iload_n 2, 1) := by decide +kernel
theorem dX11_changed_77 : decode cX11_changed 77 = .ok (.if_icmp .le 7, 3) := by decide +kernel
theorem dX11_changed_80 : decode cX11_changed 80 = .ok (.iconst 1, 1) := by decide +kernel
theorem dX11_changed_81 : decode cX11_changed 81 = .ok (.goto 4, 3) := by decide +kernel
theorem dX11_changed_84 : decode cX11_changed 84 = .ok (.iconst 0, 1) := by decide +kernel
theorem dX11_changed_85 : decode cX11_changed 85 = .ok (.ireturn, 1) := by decide +kernel
theorem dX11_weight_0 : decode cX11_weight 0 = .ok (.iload_n 1, 1) := by decide +kernel
theorem dX11_weight_1 : decode cX11_weight 1 = .ok (.ifCond .lt 8, 3) := by decide +kernel
theorem dX11_weight_4 : decode cX11_weight 4 = .ok (.iload_n 1, 1) := by decide +kernel
theorem dX11_weight_5 : decode cX11_weight 5 = .ok (.iconst 3, 1) := by decide +kernel
theorem dX11_weight_6 : decode cX11_weight 6 = .ok (.if_icmp .le 10, 3) := by decide +kernel
theorem dX11_weight_9 : decode cX11_weight 9 = .ok (.aload_n 0, 1) := by decide +kernel
theorem dX11_weight_10 : decode cX11_weight 10 = .ok (.bipush (-2), 2) := by decide +kernel
theorem dX11_weight_12 : decode cX11_weight 12 = .ok (.invokevirtual 103, 3) := by decide +kernel
theorem dX11_weight_15 : decode cX11_weight 15 = .ok (.ireturn, 1) := by decide +kernel
theorem dX11_weight_16 : decode cX11_weight 16 = .ok (.iload_n 2, 1) := by decide +kernel
theorem dX11_weight_17 : decode cX11_weight 17 = .ok (.iconst 0, 1) := by decide +kernel
theorem dX11_weight_18 : decode cX11_weight 18 = .ok (.bipush 9, 2) := by decide +kernel
theorem dX11_weight_20 : decode cX11_weight 20 = .ok (.invokestatic 110, 3) := by decide +kernel
theorem dX11_weight_23 : decode cX11_weight 23 = .ok (.istore_n 3, 1) := by decide +kernel
theorem dX11_weight_24 : decode cX11_weight 24 = .ok (.iload_n 3, 1) := by decide +kernel
theorem dX11_weight_25 : decode cX11_weight 25 = .ok (.ifCond .eq 9, 3) := by decide +kernel
theorem dX11_weight_28 : decode cX11_weight 28 = .ok (.aload_n 0, 1) := by decide +kernel
theorem dX11_weight_29 : decode cX11_weight 29 = .ok (.iload_n 3, 1) := by decide +kernel
theorem dX11_weight_30 : decode cX11_weight 30 = .ok (.invokevirtual 103, 3) := by decide +kernel
theorem dX11_weight_33 : decode cX11_weight 33 = .ok (.ireturn, 1) := by decide +kernel
theorem dX11_weight_34 : decode cX11_weight 34 = .ok (.aload_n 0, 1) := by decide +kernel
theorem dX11_weight_35 : decode cX11_weight 35 = .ok (.getfield 19, 3) := by decide +kernel
theorem dX11_weight_38 : decode cX11_weight 38 = .ok (.getfield 412, 3) := by decide +kernel
theorem dX11_weight_41 : decode cX11_weight 41 = .ok (.iload_n 1, 1) := by decide +kernel
theorem dX11_weight_42 : decode cX11_weight 42 = .ok (.iaload, 1) := by decide +kernel
theorem dX11_weight_43 : decode cX11_weight 43 = .ok (.istore 4, 2) := by decide +kernel
theorem dX11_weight_45 : decode cX11_weight 45 = .ok (.aload_n 0, 1) := by decide +kernel
theorem dX11_weight_46 : decode cX11_weight 46 = .ok (.getfield 19, 3) := by decide +kernel
theorem dX11_weight_49 : decode cX11_weight 49 = .ok (.getfield 412, 3) := by decide +kernel
theorem dX11_weight_52 : decode cX11_weight 52 = .ok (.iload_n 1, 1) := by decide +kernel
theorem dX11_weight_53 : decode cX11_weight 53 = .ok (.iload_n 2, 1) := by decide +kernel
theorem dX11_weight_54 : decode cX11_weight 54 = .ok (.iastore, 1) := by decide +kernel
theorem dX11_weight_55 : decode cX11_weight 55 = .ok (.iload 4, 2) := by decide +kernel
theorem dX11_weight_57 : decode cX11_weight 57 = .ok (.ireturn, 1) := by decide +kernel
theorem dX11_list_0 : decode cX11_list 0 = .ok (.aload_n 0, 1) := by decide +kernel
theorem dX11_list_1 : decode cX11_list 1 = .ok (.getfield 19, 3) := by decide +kernel
theorem dX11_list_4 : decode cX11_list 4 = .ok (.aload_n 0, 1) := by decide +kernel
theorem dX11_list_5 : decode cX11_list 5 = .ok (.getfield 10, 3) := by decide +kernel
theorem dX11_list_8 : decode cX11_list 8 = .ok (.getfield 107, 3) := by decide +kernel
theorem dX11_list_11 : decode cX11_list 11 = .ok (.invokevirtual 415, 3) := by decide +kernel
theorem dX11_list_14 : decode cX11_list 14 = .ok (.iconst 1, 1) := by decide +kernel
theorem dX11_list_15 : decode cX11_list 15 = .ok (.ireturn, 1) := by decide +kernel
theorem dX11_right_0 : decode cX11_right 0 = .ok (.aload_n 0, 1) := by decide +kernel
theorem dX11_right_1 : decode cX11_right 1 = .ok (.getfield 19, 3) := by decide +kernel
theorem dX11_right_4 : decode cX11_right 4 = .ok (.iload_n 1, 1) := by decide +kernel
theorem dX11_right_5 : decode cX11_right 5 = .ok (.invokevirtual 141, 3) := by decide +kernel
theorem dX11_right_8 : decode cX11_right 8 = .ok (.ifCond .ne 9, 3) := by decide +kernel
theorem dX11_right_11 : decode cX11_right 11 = .ok (.aload_n 0, 1) := by decide +kernel
theorem dX11_right_12 : decode cX11_right 12 = .ok (.iconst (-1), 1) := by decide +kernel
theorem dX11_right_13 : decode cX11_right 13 = .ok (.invokevirtual 103, 3) := by decide +kernel
theorem dX11_right_16 : decode cX11_right 16 = .ok (.ireturn, 1) := by decide +kernel
theorem dX11_right_17 : decode cX11_right 17 = .ok (.iload_n 2, 1) := by decide +kernel
theorem dX11_right_18 : decode cX11_right 18 = .ok (.ifCond .lt 8, 3) := by decide +kernel
theorem dX11_right_21 : decode cX11_right 21 = .ok (.iload_n 2, 1) := by decide +kernel
theorem dX11_right_22 : decode cX11_right 22 = .ok (.iconst 1, 1) := by decide +kernel
theorem dX11_right_23 : decode cX11_right 23 = .ok (.if_icmp .le 10, 3) := by decide +kernel
theorem dX11_right_26 : decode cX11_right 26 = .ok (.aload_n 0, 1) := by decide +kernel
theorem dX11_right_27 : decode cX11_right 27 = .ok (.bipush (-2), 2) := by decide +kernel
theorem dX11_right_29 : decode cX11_right 29 = .ok (.invokevirtual 103, 3) := by decide +kernel
theorem dX11_right_32 : decode cX11_right 32 = .ok (.ireturn, 1) := by decide +kernel
theorem dX11_right_33 : decode cX11_right 33 = .ok (.iload_n 3, 1) := by decide +kernel
theorem dX11_right_34 : decode cX11_right 34 = .ok (.iconst 0, 1) := by decide +kernel
theorem dX11_right_35 : decode cX11_right 35 = .ok (.iload_n 2, 1) := by decide +kernel
theorem dX11_right_36 : decode cX11_right 36 = .ok (.ifCond .ne 8, 3) := by decide +kernel
theorem dX11_right_39 : decode cX11_right 39 = .ok (.bipush 9, 2) := by decide +kernel
theorem dX11_right_41 : decode cX11_right 41 = .ok (.goto 5, 3) := by decide +kernel
theorem dX11_right_44 : decode cX11_right 44 = .ok (.bipush 100, 2) := by decide +kernel
theorem dX11_right_46 : decode cX11_right 46 = .ok (.invokestatic 110, 3) := by decide +kernel
theorem dX11_right_49 : decode cX11_right 49 = .ok (.istore 4, 2) := by decide +kernel
theorem dX11_right_51 : decode cX11_right 51 = .ok (.iload 4, 2) := by decide +kernel
theorem dX11_right_53 : decode cX11_right 53 = .ok (.ifCond .eq 10, 3) := by decide +kernel
theorem dX11_right_56 : decode cX11_right 56 = .ok (.aload_n 0, 1) := by decide +kernel
theorem dX11_right_57 : decode cX11_right 57 = .ok (.iload 4, 2) := by decide +kernel
theorem dX11_right_59 : decode cX11_right 59 = .ok (.invokevirtual 103, 3) := by decide +kernel
theorem dX11_right_62 : decode cX11_right 62 = .ok (.ireturn, 1) := by decide +kernel
theorem dX11_right_63 : decode cX11_right 63 = .ok (.aload_n 0, 1) := by decide +kernel
theorem dX11_right_64 : decode cX11_right 64 = .ok (.getfield 10, 3) := by decide +kernel
theorem dX11_right_67 : decode cX11_right 67 = .ok (.getfield 107, 3) := by decide +kernel
theorem dX11_right_70 : decode cX11_right 70 = .ok (.aload_n 0, 1) := by decide +kernel
theorem dX11_right_71 : decode cX11_right 71 = .ok (.getfield 19, 3) := by decide +kernel
theorem dX11_right_74 : decode cX11_right 74 = .ok (.getfield 419, 3) := by decide +kernel
theorem dX11_right_77 : decode cX11_right 77 = .ok (.isub, 1) := by decide +kernel
theorem dX11_right_78 : decode cX11_right 78 = .ok (.aload_n 0, 1) := by decide +kernel
theorem dX11_right_79 : decode cX11_right 79 = .ok (.getfield 87, 3) := by decide +kernel
theorem dX11_right_82 : decode cX11_right 82 = .ok (.iconst 2, 1) := by decide +kernel
theorem dX11_right_83 : decode cX11_right 83 = .ok (.iaload, 1) := by decide +kernel
theorem dX11_right_84 : decode cX11_right 84 = .ok (.if_icmp .gt 7, 3) := by decide +kernel
theorem dX11_right_87 : decode cX11_right 87 = .ok (.iconst 1, 1) := by decide +kernel
theorem dX11_right_88 : decode cX11_right 88 = .ok (.goto 4, 3) := by decide +kernel
theorem dX11_right_91 : decode cX11_right 91 = .ok (.iconst 0, 1) := by decide +kernel
theorem dX11_right_92 : decode cX11_right 92 = .ok (.istore 5, 2) := by decide +kernel
theorem dX11_right_94 : decode cX11_right 94 = .ok (.iload_n 2, 1) := by decide +kernel
theorem dX11_right_95 : decode cX11_right 95 = .ok (.ifCond .ne 17, 3) := by decide +kernel
theorem dX11_right_98 : decode cX11_right 98 = .ok (.aload_n 0, 1) := by decide +kernel
theorem dX11_right_99 : decode cX11_right 99 = .ok (.getfield 19, 3) := by decide +kernel
theorem dX11_right_102 : decode cX11_right 102 = .ok (.iload_n 1, 1) := by decide +kernel
theorem dX11_right_103 : decode cX11_right 103 = .ok (.iload_n 3, 1) := by decide +kernel
theorem dX11_right_104 : decode cX11_right 104 = .ok (.iload 5, 2) := by decide +kernel
theorem dX11_right_106 : decode cX11_right 106 = .ok (.invokevirtual 422, 3) := by decide +kernel
theorem dX11_right_109 : decode cX11_right 109 = .ok (.goto 14, 3) := by decide +kernel
theorem dX11_right_112 : decode cX11_right 112 = .ok (.aload_n 0, 1) := by decide +kernel
theorem dX11_right_113 : decode cX11_right 113 = .ok (.getfield 19, 3) := by decide +kernel
theorem dX11_right_116 : decode cX11_right 116 = .ok (.iload_n 1, 1) := by decide +kernel
theorem dX11_right_117 : decode cX11_right 117 = .ok (.iload_n 3, 1) := by decide +kernel
theorem dX11_right_118 : decode cX11_right 118 = .ok (.iload 5, 2) := by decide +kernel
theorem dX11_right_120 : decode cX11_right 120 = .ok (.invokevirtual 425, 3) := by decide +kernel
theorem dX11_right_123 : decode cX11_right 123 = .ok (.ireturn, 1) := by decide +kernel
theorem dX11_points_0 : decode cX11_points 0 = .ok (.aload_n 0, 1) := by decide +kernel
theorem dX11_points_1 : decode cX11_points 1 = .ok (.getfield 19, 3) := by decide +kernel
theorem dX11_points_4 : decode cX11_points 4 = .ok (.iload_n 1, 1) := by decide +kernel
theorem dX11_points_5 : decode cX11_points 5 = .ok (.invokevirtual 141, 3) := by decide +kernel
theorem dX11_points_8 : decode cX11_points 8 = .ok (.ifCond .ne 9, 3) := by decide +kernel
theorem dX11_points_11 : decode cX11_points 11 = .ok (.aload_n 0, 1) := by decide +kernel
theorem dX11_points_12 : decode cX11_points 12 = .ok (.iconst (-1), 1) := by decide +kernel
theorem dX11_points_13 : decode cX11_points 13 = .ok (.invokevirtual 103, 3) := by decide +kernel
theorem dX11_points_16 : decode cX11_points 16 = .ok (.ireturn, 1) := by decide +kernel
theorem dX11_points_17 : decode cX11_points 17 = .ok (.aload_n 0, 1) := by decide +kernel
theorem dX11_points_18 : decode cX11_points 18 = .ok (.getfield 19, 3) := by decide +kernel
theorem dX11_points_21 : decode cX11_points 21 = .ok (.iload_n 1, 1) := by decide +kernel
theorem dX11_points_22 : decode cX11_points 22 = .ok (.aload_n 0, 1) := by decide +kernel
theorem dX11_points_23 : decode cX11_points 23 = .ok (.getfield 10, 3) := by decide +kernel
theorem dX11_points_26 : decode cX11_points 26 = .ok (.getfield 107, 3) := by decide +kernel
theorem dX11_points_29 : decode cX11_points 29 = .ok (.invokevirtual 428, 3) := by decide +kernel
theorem dX11_points_32 : decode cX11_points 32 = .ok (.ireturn, 1) := by decide +kernel
theorem dX11_goes_0 : decode cX11_goes 0 = .ok (.iload_n 1, 1) := by decide +kernel
theorem dX11_goes_1 : decode cX11_goes 1 = .ok (.invokestatic 125, 3) := by decide +kernel
theorem dX11_goes_4 : decode cX11_goes 4 = .ok (.ifCond .ne 9, 3) := by decide +kernel
theorem dX11_goes_7 : decode cX11_goes 7 = .ok (.aload_n 0, 1) := by decide +kernel
theorem dX11_goes_8 : decode cX11_goes 8 = .ok (.iconst (-1), 1) := by decide +kernel
theorem dX11_goes_9 : decode cX11_goes 9 = .ok (.invokevirtual 103, 3) := by decide +kernel
theorem dX11_goes_12 : decode cX11_goes 12 = .ok (.ireturn, 1) := by decide +kernel
theorem dX11_goes_13 : decode cX11_goes 13 = .ok (.iload_n 2, 1) := by decide +kernel
theorem dX11_goes_14 : decode cX11_goes 14 = .ok (.iconst 0, 1) := by decide +kernel
theorem dX11_goes_15 : decode cX11_goes 15 = .ok (.bipush 24, 2) := by decide +kernel
theorem dX11_goes_17 : decode cX11_goes 17 = .ok (.invokestatic 110, 3) := by decide +kernel
theorem dX11_goes_20 : decode cX11_goes 20 = .ok (.istore 4, 2) := by decide +kernel
theorem dX11_goes_22 : decode cX11_goes 22 = .ok (.iload 4, 2) := by decide +kernel
theorem dX11_goes_24 : decode cX11_goes 24 = .ok (.ifCond .eq 10, 3) := by decide +kernel
theorem dX11_goes_27 : decode cX11_goes 27 = .ok (.aload_n 0, 1) := by decide +kernel
theorem dX11_goes_28 : decode cX11_goes 28 = .ok (.iload 4, 2) := by decide +kernel
theorem dX11_goes_30 : decode cX11_goes 30 = .ok (.invokevirtual 103, 3) := by decide +kernel
theorem dX11_goes_33 : decode cX11_goes 33 = .ok (.ireturn, 1) := by decide +kernel
theorem dX11_goes_34 : decode cX11_goes 34 = .ok (.iload_n 3, 1) := by decide +kernel
theorem dX11_goes_35 : decode cX11_goes 35 = .ok (.ifCond .lt 8, 3) := by decide +kernel
theorem dX11_goes_38 : decode cX11_goes 38 = .ok (.iload_n 3, 1) := by decide +kernel
theorem dX11_goes_39 : decode cX11_goes 39 = .ok (.iload_n 2, 1) := by decide +kernel
theorem dX11_goes_40 : decode cX11_goes 40 = .ok (.if_icmp .lt 8, 3) := by decide +kernel
theorem dX11_goes_43 : decode cX11_goes 43 = .ok (.bipush (-9), 2) := by decide +kernel
theorem dX11_goes_45 : decode cX11_goes 45 = .ok (.goto 19, 3) := by decide +kernel
theorem dX11_goes_48 : decode cX11_goes 48 = .ok (.aload_n 0, 1) := by decide +kernel
theorem dX11_goes_49 : decode cX11_goes 49 = .ok (.getfield 19, 3) := by decide +kernel
theorem dX11_goes_52 : decode cX11_goes 52 = .ok (.iload_n 1, 1) := by decide +kernel
theorem dX11_goes_53 : decode cX11_goes 53 = .ok (.iload_n 3, 1) := by decide +kernel
theorem dX11_goes_54 : decode cX11_goes 54 = .ok (.aload_n 0, 1) := by decide +kernel
theorem dX11_goes_55 : decode cX11_goes 55 = .ok (.getfield 10, 3) := by decide +kernel
theorem dX11_goes_58 : decode cX11_goes 58 = .ok (.getfield 107, 3) := by decide +kernel
theorem dX11_goes_61 : decode cX11_goes 61 = .ok (.invokevirtual 431, 3) := by decide +kernel
theorem dX11_goes_64 : decode cX11_goes 64 = .ok (.ireturn, 1) := by decide +kernel
theorem dX11_planned_0 : decode cX11_planned 0 = .ok (.iload_n 1, 1) := by decide +kernel
theorem dX11_planned_1 : decode cX11_planned 1 = .ok (.iconst 1, 1) := by decide +kernel
theorem dX11_planned_2 : decode cX11_planned 2 = .ok (.if_icmp .lt 11, 3) := by decide +kernel
theorem dX11_planned_5 : decode cX11_planned 5 = .ok (.iload_n 2, 1) := by decide +kernel
theorem dX11_planned_6 : decode cX11_planned 6 = .ok (.ifCond .lt 7, 3) := by decide +kernel
theorem dX11_planned_9 : decode cX11_planned 9 = .ok (.iload_n 3, 1) := by decide +kernel
theorem dX11_planned_10 : decode cX11_planned 10 = .ok (.ifCond .ge 10, 3) := by decide +kernel
theorem dX11_planned_13 : decode cX11_planned 13 = .ok (.aload_n 0, 1) := by decide +kernel
theorem dX11_planned_14 : decode cX11_planned 14 = .ok (.bipush (-4), 2) := by decide +kernel
theorem dX11_planned_16 : decode cX11_planned 16 = .ok (.invokevirtual 103, 3) := by decide +kernel
theorem dX11_planned_19 : decode cX11_planned 19 = .ok (.ireturn, 1) := by decide +kernel
theorem dX11_planned_20 : decode cX11_planned 20 = .ok (.iload_n 3, 1) := by decide +kernel
theorem dX11_planned_21 : decode cX11_planned 21 = .ok (.aload_n 0, 1) := by decide +kernel
theorem dX11_planned_22 : decode cX11_planned 22 = .ok (.getfield 78, 3) := by decide +kernel
theorem dX11_planned_25 : decode cX11_planned 25 = .ok (.getfield 434, 3) := by decide +kernel
theorem dX11_planned_28 : decode cX11_planned 28 = .ok (.ishr, 1) := by decide +kernel
theorem dX11_planned_29 : decode cX11_planned 29 = .ok (.ifCond .eq 10, 3) := by decide +kernel
theorem dX11_planned_32 : decode cX11_planned 32 = .ok (.aload_n 0, 1) := by decide +kernel
theorem dX11_planned_33 : decode cX11_planned 33 = .ok (.bipush (-3), 2) := by decide +kernel
theorem dX11_planned_35 : decode cX11_planned 35 = .ok (.invokevirtual 103, 3) := by decide +kernel
theorem dX11_planned_38 : decode cX11_planned 38 = .ok (.ireturn, 1) := by decide +kernel
theorem dX11_planned_39 : decode cX11_planned 39 = .ok (.iload_n 1, 1) := by decide +kernel
theorem dX11_planned_40 : decode cX11_planned 40 = .ok (.iconst 3, 1) := by decide +kernel
theorem dX11_planned_41 : decode cX11_planned 41 = .ok (.if_icmp .gt 21, 3) := by decide +kernel
theorem dX11_planned_44 : decode cX11_planned 44 = .ok (.iload_n 2, 1) := by decide +kernel
theorem dX11_planned_45 : decode cX11_planned 45 = .ok (.bipush 7, 2) := by decide +kernel
theorem dX11_planned_47 : decode cX11_planned 47 = .ok (.if_icmp .ge 15, 3) := by decide +kernel
theorem dX11_planned_50 : decode cX11_planned 50 = .ok (.aload_n 0, 1) := by decide +kernel
theorem dX11_planned_51 : decode cX11_planned 51 = .ok (.getfield 78, 3) := by decide +kernel
theorem dX11_planned_54 : decode cX11_planned 54 = .ok (.getfield 434, 3) := by decide +kernel
theorem dX11_planned_57 : decode cX11_planned 57 = .ok (.bipush 7, 2) := by decide +kernel
theorem dX11_planned_59 : decode cX11_planned 59 = .ok (.if_icmp .lt 10, 3) := by decide +kernel
theorem dX11_planned_62 : decode cX11_planned 62 = .ok (.aload_n 0, 1) := by decide +kernel
theorem dX11_planned_63 : decode cX11_planned 63 = .ok (.bipush (-6), 2) := by decide +kernel
theorem dX11_planned_65 : decode cX11_planned 65 = .ok (.invokevirtual 103, 3) := by decide +kernel
theorem dX11_planned_68 : decode cX11_planned 68 = .ok (.ireturn, 1) := by decide +kernel
theorem dX11_planned_69 : decode cX11_planned 69 = .ok (.aload_n 0, 1) := by decide +kernel
theorem dX11_planned_70 : decode cX11_planned 70 = .ok (.getfield 78, 3) := by decide +kernel
theorem dX11_planned_73 : decode cX11_planned 73 = .ok (.iload_n 1, 1) := by decide +kernel
theorem dX11_planned_74 : decode cX11_planned 74 = .ok (.iload_n 2, 1) := by decide +kernel
theorem dX11_planned_75 : decode cX11_planned 75 = .ok (.iload_n 3, 1) := by decide +kernel
theorem dX11_planned_76 : decode cX11_planned 76 = .ok (.invokevirtual 435, 3) := by decide +kernel
theorem dX11_planned_79 : decode cX11_planned 79 = .ok (.ireturn, 1) := by decide +kernel
theorem dX11_plan_0 : decode cX11_plan 0 = .ok (.aload_n 0, 1) := by decide +kernel
theorem dX11_plan_1 : decode cX11_plan 1 = .ok (.getfield 78, 3) := by decide +kernel
theorem dX11_plan_4 : decode cX11_plan 4 = .ok (.aload_n 0, 1) := by decide +kernel
theorem dX11_plan_5 : decode cX11_plan 5 = .ok (.getfield 87, 3) := by decide +kernel
theorem dX11_plan_8 : decode cX11_plan 8 = .ok (.iconst 3, 1) := by decide +kernel
theorem dX11_plan_9 : decode cX11_plan 9 = .ok (.iaload, 1) := by decide +kernel
theorem dX11_plan_10 : decode cX11_plan 10 = .ok (.invokevirtual 436, 3) := by decide +kernel
theorem dX11_plan_13 : decode cX11_plan 13 = .ok (.ireturn, 1) := by decide +kernel
theorem dX11_placeOf_0 : decode cX11_placeOf 0 = .ok (.iload_n 1, 1) := by decide +kernel
theorem dX11_placeOf_1 : decode cX11_placeOf 1 = .ok (.ifCond .lt 14, 3) := by decide +kernel
theorem dX11_placeOf_4 : decode cX11_placeOf 4 = .ok (.iload_n 1, 1) := by decide +kernel
theorem dX11_placeOf_5 : decode cX11_placeOf 5 = .ok (.aload_n 0, 1) := by decide +kernel
theorem dX11_placeOf_6 : decode cX11_placeOf 6 = .ok (.getfield 78, 3) := by decide +kernel
theorem dX11_placeOf_9 : decode cX11_placeOf 9 = .ok (.getfield 434, 3) := by decide +kernel
theorem dX11_placeOf_12 : decode cX11_placeOf 12 = .ok (.if_icmp .lt 9, 3) := by decide +kernel
theorem dX11_placeOf_15 : decode cX11_placeOf 15 = .ok (.aload_n 0, 1) := by decide +kernel
theorem dX11_placeOf_16 : decode cX11_placeOf 16 = .ok (.iconst (-1), 1) := by decide +kernel
theorem dX11_placeOf_17 : decode cX11_placeOf 17 = .ok (.invokevirtual 103, 3) := by decide +kernel
theorem dX11_placeOf_20 : decode cX11_placeOf 20 = .ok (.ireturn, 1) := by decide +kernel
theorem dX11_placeOf_21 : decode cX11_placeOf 21 = .ok (.aload_n 0, 1) := by decide +kernel
theorem dX11_placeOf_22 : decode cX11_placeOf 22 = .ok (.getfield 78, 3) := by decide +kernel
theorem dX11_placeOf_25 : decode cX11_placeOf 25 = .ok (.aload_n 0, 1) := by decide +kernel
theorem dX11_placeOf_26 : decode cX11_placeOf 26 = .ok (.getfield 87, 3) := by decide +kernel
theorem dX11_placeOf_29 : decode cX11_placeOf 29 = .ok (.iconst 3, 1) := by decide +kernel
theorem dX11_placeOf_30 : decode cX11_placeOf 30 = .ok (.iaload, 1) := by decide +kernel
theorem dX11_placeOf_31 : decode cX11_placeOf 31 = .ok (.invokevirtual 436, 3) := by decide +kernel
theorem dX11_placeOf_34 : decode cX11_placeOf 34 = .ok (.bipush (-9), 2) := by decide +kernel
theorem dX11_placeOf_36 : decode cX11_placeOf 36 = .ok (.if_icmp .ne 8, 3) := by decide +kernel
theorem dX11_placeOf_39 : decode cX11_placeOf 39 = .ok (.bipush (-9), 2) := by decide +kernel
theorem dX11_placeOf_41 : decode cX11_placeOf 41 = .ok (.goto 12, 3) := by decide +kernel
theorem dX11_placeOf_44 : decode cX11_placeOf 44 = .ok (.aload_n 0, 1) := by decide +kernel
theorem dX11_placeOf_45 : decode cX11_placeOf 45 = .ok (.getfield 78, 3) := by decide +kernel
theorem dX11_placeOf_48 : decode cX11_placeOf 48 = .ok (.getfield 439, 3) := by decide +kernel
theorem dX11_placeOf_51 : decode cX11_placeOf 51 = .ok (.iload_n 1, 1) := by decide +kernel
theorem dX11_placeOf_52 : decode cX11_placeOf 52 = .ok (.iaload, 1) := by decide +kernel
theorem dX11_placeOf_53 : decode cX11_placeOf 53 = .ok (.ireturn, 1) := by decide +kernel
theorem dX11_put_0 : decode cX11_put 0 = .ok (.aload_n 0, 1) := by decide +kernel
theorem dX11_put_1 : decode cX11_put 1 = .ok (.getfield 94, 3) := by decide +kernel
theorem dX11_put_4 : decode cX11_put 4 = .ok (.bipush 40, 2) := by decide +kernel
theorem dX11_put_6 : decode cX11_put 6 = .ok (.if_icmp .lt 10, 3) := by decide +kernel
theorem dX11_put_9 : decode cX11_put 9 = .ok (.aload_n 0, 1) := by decide +kernel
theorem dX11_put_10 : decode cX11_put 10 = .ok (.bipush (-6), 2) := by decide +kernel
theorem dX11_put_12 : decode cX11_put 12 = .ok (.invokevirtual 103, 3) := by decide +kernel
theorem dX11_put_15 : decode cX11_put 15 = .ok (.ireturn, 1) := by decide +kernel
theorem dX11_put_16 : decode cX11_put 16 = .ok (.aload_n 0, 1) := by decide +kernel
theorem dX11_put_17 : decode cX11_put 17 = .ok (.getfield 91, 3) := by decide +kernel
theorem dX11_put_20 : decode cX11_put 20 = .ok (.aload_n 0, 1) := by decide +kernel
theorem dX11_put_21 : decode cX11_put 21 = .ok (.getfield 94, 3) := by decide +kernel
theorem dX11_put_24 : decode cX11_put 24 = .ok (.iload_n 1, 1) := by decide +kernel
theorem dX11_put_25 : decode cX11_put 25 = .ok (.iastore, 1) := by decide +kernel
theorem dX11_put_26 : decode cX11_put 26 = .ok (.aload_n 0, 1) := by decide +kernel
theorem dX11_put_27 : decode cX11_put 27 = .ok (.dup, 1) := by decide +kernel
theorem dX11_put_28 : decode cX11_put 28 = .ok (.getfield 94, 3) := by decide +kernel
theorem dX11_put_31 : decode cX11_put 31 = .ok (.iconst 1, 1) := by decide +kernel
theorem dX11_put_32 : decode cX11_put 32 = .ok (.iadd, 1) := by decide +kernel
theorem dX11_put_33 : decode cX11_put 33 = .ok (.putfield 94, 3) := by decide +kernel
theorem dX11_put_36 : decode cX11_put 36 = .ok (.aload_n 0, 1) := by decide +kernel
theorem dX11_put_37 : decode cX11_put 37 = .ok (.getfield 94, 3) := by decide +kernel
theorem dX11_put_40 : decode cX11_put 40 = .ok (.ireturn, 1) := by decide +kernel
theorem dX11_check_0 : decode cX11_check 0 = .ok (.iload_n 1, 1) := by decide +kernel
theorem dX11_check_1 : decode cX11_check 1 = .ok (.ifCond .lt 7, 3) := by decide +kernel
theorem dX11_check_4 : decode cX11_check 4 = .ok (.iload_n 2, 1) := by decide +kernel
theorem dX11_check_5 : decode cX11_check 5 = .ok (.ifCond .ge 10, 3) := by decide +kernel
theorem dX11_check_8 : decode cX11_check 8 = .ok (.aload_n 0, 1) := by decide +kernel
theorem dX11_check_9 : decode cX11_check 9 = .ok (.bipush (-4), 2) := by decide +kernel
theorem dX11_check_11 : decode cX11_check 11 = .ok (.invokevirtual 103, 3) := by decide +kernel
theorem dX11_check_14 : decode cX11_check 14 = .ok (.ireturn, 1) := by decide +kernel
theorem dX11_check_15 : decode cX11_check 15 = .ok (.iload_n 1, 1) := by decide +kernel
theorem dX11_check_16 : decode cX11_check 16 = .ok (.iload_n 2, 1) := by decide +kernel
theorem dX11_check_17 : decode cX11_check 17 = .ok (.if_icmp .gt 14, 3) := by decide +kernel
theorem dX11_check_20 : decode cX11_check 20 = .ok (.iload_n 2, 1) := by decide +kernel
theorem dX11_check_21 : decode cX11_check 21 = .ok (.aload_n 0, 1) := by decide +kernel
theorem dX11_check_22 : decode cX11_check 22 = .ok (.getfield 10, 3) := by decide +kernel
theorem dX11_check_25 : decode cX11_check 25 = .ok (.getfield 107, 3) := by decide +kernel
theorem dX11_check_28 : decode cX11_check 28 = .ok (.if_icmp .le 10, 3) := by decide +kernel
theorem dX11_check_31 : decode cX11_check 31 = .ok (.aload_n 0, 1) := by decide +kernel
theorem dX11_check_32 : decode cX11_check 32 = .ok (.bipush (-3), 2) := by decide +kernel
theorem dX11_check_34 : decode cX11_check 34 = .ok (.invokevirtual 103, 3) := by decide +kernel
theorem dX11_check_37 : decode cX11_check 37 = .ok (.ireturn, 1) := by decide +kernel
theorem dX11_check_38 : decode cX11_check 38 = .ok (.aload_n 0, 1) := by decide +kernel
theorem dX11_check_39 : decode cX11_check 39 = .ok (.getfield 94, 3) := by decide +kernel
theorem dX11_check_42 : decode cX11_check 42 = .ok (.istore_n 3, 1) := by decide +kernel
theorem dX11_check_43 : decode cX11_check 43 = .ok (.aload_n 0, 1) := by decide +kernel
theorem dX11_check_44 : decode cX11_check 44 = .ok (.iconst 0, 1) := by decide +kernel
theorem dX11_check_45 : decode cX11_check 45 = .ok (.putfield 94, 3) := by decide +kernel
theorem dX11_check_48 : decode cX11_check 48 = .ok (.iconst 0, 1) := by decide +kernel
theorem dX11_check_49 : decode cX11_check 49 = .ok (.istore 4, 2) := by decide +kernel
theorem dX11_check_51 : decode cX11_check 51 = .ok (.iload 4, 2) := by decide +kernel
theorem dX11_check_53 : decode cX11_check 53 = .ok (.iload_n 3, 1) := by decide +kernel
theorem dX11_check_54 : decode cX11_check 54 = .ok (.if_icmp .ge 64, 3) := by decide +kernel
theorem dX11_check_57 : decode cX11_check 57 = .ok (.iload 4, 2) := by decide +kernel
theorem dX11_check_59 : decode cX11_check 59 = .ok (.bipush 40, 2) := by decide +kernel
theorem dX11_check_61 : decode cX11_check 61 = .ok (.if_icmp .ge 57, 3) := by decide +kernel
theorem dX11_check_64 : decode cX11_check 64 = .ok (.aload_n 0, 1) := by decide +kernel
theorem dX11_check_65 : decode cX11_check 65 = .ok (.iload 4, 2) := by decide +kernel
theorem dX11_check_67 : decode cX11_check 67 = .ok (.invokevirtual 204, 3) := by decide +kernel
theorem dX11_check_70 : decode cX11_check 70 = .ok (.ifCond .eq 39, 3) := by decide +kernel
theorem dX11_check_73 : decode cX11_check 73 = .ok (.aload_n 0, 1) := by decide +kernel
theorem dX11_check_74 : decode cX11_check 74 = .ok (.getfield 39, 3) := by decide +kernel
theorem dX11_check_77 : decode cX11_check 77 = .ok (.iload 4, 2) := by decide +kernel
theorem dX11_check_79 : decode cX11_check 79 = .ok (.aaload, 1) := by decide +kernel
theorem dX11_check_80 : decode cX11_check 80 = .ok (.getfield 220, 3) := by decide +kernel
theorem dX11_check_83 : decode cX11_check 83 = .ok (.iload_n 1, 1) := by decide +kernel
theorem dX11_check_84 : decode cX11_check 84 = .ok (.if_icmp .gt 25, 3) := by decide +kernel
theorem dX11_check_87 : decode cX11_check 87 = .ok (.aload_n 0, 1) := by decide +kernel
theorem dX11_check_88 : decode cX11_check 88 = .ok (.getfield 39, 3) := by decide +kernel
theorem dX11_check_91 : decode cX11_check 91 = .ok (.iload 4, 2) := by decide +kernel
theorem dX11_check_93 : decode cX11_check 93 = .ok (.aaload, 1) := by decide +kernel
theorem dX11_check_94 : decode cX11_check 94 = .ok (.iload_n 1, 1) := by decide +kernel
theorem dX11_check_95 : decode cX11_check 95 = .ok (.iload_n 2, 1) := by decide +kernel
theorem dX11_check_96 : decode cX11_check 96 = .ok (.invokevirtual 221, 3) := by decide +kernel
theorem dX11_check_99 : decode cX11_check 99 = .ok (.aload_n 0, 1) := by decide +kernel
theorem dX11_check_100 : decode cX11_check 100 = .ok (.getfield 91, 3) := by decide +kernel
theorem dX11_check_103 : decode cX11_check 103 = .ok (.iload 4, 2) := by decide +kernel
theorem dX11_check_105 : decode cX11_check 105 = .ok (.iaload, 1) := by decide +kernel
theorem dX11_check_106 : decode cX11_check 106 = .ok (.if_icmp .eq 6, 3) := by decide +kernel
theorem dX11_check_109 : decode cX11_check 109 = .ok (.iload 4, 2) := by decide +kernel
theorem dX11_check_111 : decode cX11_check 111 = .ok (.ireturn, 1) := by decide +kernel
theorem dX11_check_112 : decode cX11_check 112 = .ok (.iinc 4 1, 3) := by decide +kernel
theorem dX11_check_115 : decode cX11_check 115 = .ok (.goto (-64), 3) := by decide +kernel
theorem dX11_check_118 : decode cX11_check 118 = .ok (.bipush (-9), 2) := by decide +kernel
theorem dX11_check_120 : decode cX11_check 120 = .ok (.ireturn, 1) := by decide +kernel
theorem dX11_count_0 : decode cX11_count 0 = .ok (.iload_n 1, 1) := by decide +kernel
theorem dX11_count_1 : decode cX11_count 1 = .ok (.bipush 11, 2) := by decide +kernel
theorem dX11_count_3 : decode cX11_count 3 = .ok (.if_icmp .lt 19, 3) := by decide +kernel
theorem dX11_count_6 : decode cX11_count 6 = .ok (.iload_n 1, 1) := by decide +kernel
theorem dX11_count_7 : decode cX11_count 7 = .ok (.bipush 16, 2) := by decide +kernel
theorem dX11_count_9 : decode cX11_count 9 = .ok (.if_icmp .gt 13, 3) := by decide +kernel
theorem dX11_count_12 : decode cX11_count 12 = .ok (.aload_n 0, 1) := by decide +kernel
theorem dX11_count_13 : decode cX11_count 13 = .ok (.getfield 97, 3) := by decide +kernel
theorem dX11_count_16 : decode cX11_count 16 = .ok (.iload_n 1, 1) := by decide +kernel
theorem dX11_count_17 : decode cX11_count 17 = .ok (.bipush 10, 2) := by decide +kernel
theorem dX11_count_19 : decode cX11_count 19 = .ok (.isub, 1) := by decide +kernel
theorem dX11_count_20 : decode cX11_count 20 = .ok (.iaload, 1) := by decide +kernel
theorem dX11_count_21 : decode cX11_count 21 = .ok (.ireturn, 1) := by decide +kernel
theorem dX11_count_22 : decode cX11_count 22 = .ok (.iload_n 1, 1) := by decide +kernel
theorem dX11_count_23 : decode cX11_count 23 = .ok (.tableswitch 135 0 10 #[57, 65, 75, 83, 88, 96, 104, 109, 117, 122, 130], 57) := by decide +kernel
theorem dX11_count_80 : decode cX11_count 80 = .ok (.aload_n 0, 1) := by decide +kernel
theorem dX11_count_81 : decode cX11_count 81 = .ok (.getfield 10, 3) := by decide +kernel
theorem dX11_count_84 : decode cX11_count 84 = .ok (.getfield 107, 3) := by decide +kernel
theorem dX11_count_87 : decode cX11_count 87 = .ok (.ireturn, 1) := by decide +kernel
theorem dX11_count_88 : decode cX11_count 88 = .ok (.aload_n 0, 1) := by decide +kernel
theorem dX11_count_89 : decode cX11_count 89 = .ok (.getfield 19, 3) := by decide +kernel
theorem dX11_count_92 : decode cX11_count 92 = .ok (.bipush 63, 2) := by decide +kernel
theorem dX11_count_94 : decode cX11_count 94 = .ok (.invokevirtual 390, 3) := by decide +kernel
theorem dX11_count_97 : decode cX11_count 97 = .ok (.ireturn, 1) := by decide +kernel
theorem dX11_count_98 : decode cX11_count 98 = .ok (.aload_n 0, 1) := by decide +kernel
theorem dX11_count_99 : decode cX11_count 99 = .ok (.getfield 26, 3) := by decide +kernel
theorem dX11_count_102 : decode cX11_count 102 = .ok (.getfield 156, 3) := by decide +kernel
theorem dX11_count_105 : decode cX11_count 105 = .ok (.ireturn, 1) := by decide +kernel
theorem dX11_count_106 : decode cX11_count 106 = .ok (.aload_n 0, 1) := by decide +kernel
theorem dX11_count_107 : decode cX11_count 107 = .ok (.getfield 43, 3) := by decide +kernel
theorem dX11_count_110 : decode cX11_count 110 = .ok (.ireturn, 1) := by decide +kernel
theorem dX11_count_111 : decode cX11_count 111 = .ok (.aload_n 0, 1) := by decide +kernel
theorem dX11_count_112 : decode cX11_count 112 = .ok (.getfield 33, 3) := by decide +kernel
theorem dX11_count_115 : decode cX11_count 115 = .ok (.getfield 442, 3) := by decide +kernel
theorem dX11_count_118 : decode cX11_count 118 = .ok (.ireturn, 1) := by decide +kernel
theorem dX11_count_119 : decode cX11_count 119 = .ok (.aload_n 0, 1) := by decide +kernel
theorem dX11_count_120 : decode cX11_count 120 = .ok (.getfield 33, 3) := by decide +kernel
theorem dX11_count_123 : decode cX11_count 123 = .ok (.getfield 264, 3) := by decide +kernel
theorem dX11_count_126 : decode cX11_count 126 = .ok (.ireturn, 1) := by decide +kernel
theorem dX11_count_127 : decode cX11_count 127 = .ok (.aload_n 0, 1) := by decide +kernel
theorem dX11_count_128 : decode cX11_count 128 = .ok (.invokevirtual 445, 3) := by decide +kernel
theorem dX11_count_131 : decode cX11_count 131 = .ok (.ireturn, 1) := by decide +kernel
theorem dX11_count_132 : decode cX11_count 132 = .ok (.aload_n 0, 1) := by decide +kernel
theorem dX11_count_133 : decode cX11_count 133 = .ok (.getfield 57, 3) := by decide +kernel
theorem dX11_count_136 : decode cX11_count 136 = .ok (.getfield 354, 3) := by decide +kernel
theorem dX11_count_139 : decode cX11_count 139 = .ok (.ireturn, 1) := by decide +kernel
theorem dX11_count_140 : decode cX11_count 140 = .ok (.aload_n 0, 1) := by decide +kernel
theorem dX11_count_141 : decode cX11_count 141 = .ok (.invokevirtual 448, 3) := by decide +kernel
theorem dX11_count_144 : decode cX11_count 144 = .ok (.ireturn, 1) := by decide +kernel
theorem dX11_count_145 : decode cX11_count 145 = .ok (.aload_n 0, 1) := by decide +kernel
theorem dX11_count_146 : decode cX11_count 146 = .ok (.getfield 26, 3) := by decide +kernel
theorem dX11_count_149 : decode cX11_count 149 = .ok (.invokevirtual 148, 3) := by decide +kernel
theorem dX11_count_152 : decode cX11_count 152 = .ok (.ireturn, 1) := by decide +kernel
theorem dX11_count_153 : decode cX11_count 153 = .ok (.aload_n 0, 1) := by decide +kernel
theorem dX11_count_154 : decode cX11_count 154 = .ok (.getfield 94, 3) := by decide +kernel
theorem dX11_count_157 : decode cX11_count 157 = .ok (.ireturn, 1) := by decide +kernel
theorem dX11_count_158 : decode cX11_count 158 = .ok (.bipush (-9), 2) := by decide +kernel
theorem dX11_count_160 : decode cX11_count 160 = .ok (.ireturn, 1) := by decide +kernel
theorem dX11_refuse_0 : decode cX11_refuse 0 = .ok (.iload_n 1, 1) := by decide +kernel
theorem dX11_refuse_1 : decode cX11_refuse 1 = .ok (.ifCond .ge 20, 3) := by decide +kernel
theorem dX11_refuse_4 : decode cX11_refuse 4 = .ok (.iload_n 1, 1) := by decide +kernel
theorem dX11_refuse_5 : decode cX11_refuse 5 = .ok (.bipush (-6), 2) := by decide +kernel
theorem dX11_refuse_7 : decode cX11_refuse 7 = .ok (.if_icmp .lt 14, 3) := by decide +kernel
theorem dX11_refuse_10 : decode cX11_refuse 10 = .ok (.aload_n 0, 1) := by decide +kernel
theorem dX11_refuse_11 : decode cX11_refuse 11 = .ok (.getfield 97, 3) := by decide +kernel
theorem dX11_refuse_14 : decode cX11_refuse 14 = .ok (.iload_n 1, 1) := by decide +kernel
theorem dX11_refuse_15 : decode cX11_refuse 15 = .ok (.ineg, 1) := by decide +kernel
theorem dX11_refuse_16 : decode cX11_refuse 16 = .ok (.dup2, 1) := by decide +kernel
theorem dX11_refuse_17 : decode cX11_refuse 17 = .ok (.iaload, 1) := by decide +kernel
theorem dX11_refuse_18 : decode cX11_refuse 18 = .ok (.iconst 1, 1) := by decide +kernel
theorem dX11_refuse_19 : decode cX11_refuse 19 = .ok (.iadd, 1) := by decide +kernel
theorem dX11_refuse_20 : decode cX11_refuse 20 = .ok (.iastore, 1) := by decide +kernel
theorem dX11_refuse_21 : decode cX11_refuse 21 = .ok (.iload_n 1, 1) := by decide +kernel
theorem dX11_refuse_22 : decode cX11_refuse 22 = .ok (.ireturn, 1) := by decide +kernel
theorem dX11_refuseFar_0 : decode cX11_refuseFar 0 = .ok (.ldc_w 451, 3) := by decide +kernel
theorem dX11_refuseFar_3 : decode cX11_refuseFar 3 = .ok (.aload_n 0, 1) := by decide +kernel
theorem dX11_refuseFar_4 : decode cX11_refuseFar 4 = .ok (.iload_n 1, 1) := by decide +kernel
theorem dX11_refuseFar_5 : decode cX11_refuseFar 5 = .ok (.invokevirtual 103, 3) := by decide +kernel
theorem dX11_refuseFar_8 : decode cX11_refuseFar 8 = .ok (.isub, 1) := by decide +kernel
theorem dX11_refuseFar_9 : decode cX11_refuseFar 9 = .ok (.ireturn, 1) := by decide +kernel
theorem dX11_outside_0 : decode cX11_outside 0 = .ok (.iload_n 0, 1) := by decide +kernel
theorem dX11_outside_1 : decode cX11_outside 1 = .ok (.iload_n 1, 1) := by decide +kernel
theorem dX11_outside_2 : decode cX11_outside 2 = .ok (.if_icmp .ge 8, 3) := by decide +kernel
theorem dX11_outside_5 : decode cX11_outside 5 = .ok (.bipush (-4), 2) := by decide +kernel
theorem dX11_outside_7 : decode cX11_outside 7 = .ok (.goto 14, 3) := by decide +kernel
theorem dX11_outside_10 : decode cX11_outside 10 = .ok (.iload_n 0, 1) := by decide +kernel
theorem dX11_outside_11 : decode cX11_outside 11 = .ok (.iload_n 2, 1) := by decide +kernel
theorem dX11_outside_12 : decode cX11_outside 12 = .ok (.if_icmp .le 8, 3) := by decide +kernel
theorem dX11_outside_15 : decode cX11_outside 15 = .ok (.bipush (-6), 2) := by decide +kernel
theorem dX11_outside_17 : decode cX11_outside 17 = .ok (.goto 4, 3) := by decide +kernel
theorem dX11_outside_20 : decode cX11_outside 20 = .ok (.iconst 0, 1) := by decide +kernel
theorem dX11_outside_21 : decode cX11_outside 21 = .ok (.ireturn, 1) := by decide +kernel
theorem dX11_fullAt_0 : decode cX11_fullAt 0 = .ok (.iload_n 0, 1) := by decide +kernel
theorem dX11_fullAt_1 : decode cX11_fullAt 1 = .ok (.iload_n 1, 1) := by decide +kernel
theorem dX11_fullAt_2 : decode cX11_fullAt 2 = .ok (.if_icmp .lt 8, 3) := by decide +kernel
theorem dX11_fullAt_5 : decode cX11_fullAt 5 = .ok (.bipush (-6), 2) := by decide +kernel
theorem dX11_fullAt_7 : decode cX11_fullAt 7 = .ok (.goto 4, 3) := by decide +kernel
theorem dX11_fullAt_10 : decode cX11_fullAt 10 = .ok (.iconst 0, 1) := by decide +kernel
theorem dX11_fullAt_11 : decode cX11_fullAt 11 = .ok (.ireturn, 1) := by decide +kernel
theorem dX11_worse_0 : decode cX11_worse 0 = .ok (.iload_n 0, 1) := by decide +kernel
theorem dX11_worse_1 : decode cX11_worse 1 = .ok (.bipush (-4), 2) := by decide +kernel
theorem dX11_worse_3 : decode cX11_worse 3 = .ok (.if_icmp .eq 9, 3) := by decide +kernel
theorem dX11_worse_6 : decode cX11_worse 6 = .ok (.iload_n 1, 1) := by decide +kernel
theorem dX11_worse_7 : decode cX11_worse 7 = .ok (.bipush (-4), 2) := by decide +kernel
theorem dX11_worse_9 : decode cX11_worse 9 = .ok (.if_icmp .ne 8, 3) := by decide +kernel
theorem dX11_worse_12 : decode cX11_worse 12 = .ok (.bipush (-4), 2) := by decide +kernel
theorem dX11_worse_14 : decode cX11_worse 14 = .ok (.goto 8, 3) := by decide +kernel
theorem dX11_worse_17 : decode cX11_worse 17 = .ok (.iload_n 0, 1) := by decide +kernel
theorem dX11_worse_18 : decode cX11_worse 18 = .ok (.iload_n 1, 1) := by decide +kernel
theorem dX11_worse_19 : decode cX11_worse 19 = .ok (.invokestatic 452, 3) := by decide +kernel
theorem dX11_worse_22 : decode cX11_worse 22 = .ok (.ireturn, 1) := by decide +kernel
theorem dX11_wrongTopic_0 : decode cX11_wrongTopic 0 = .ok (.iload_n 0, 1) := by decide +kernel
theorem dX11_wrongTopic_1 : decode cX11_wrongTopic 1 = .ok (.iconst 1, 1) := by decide +kernel
theorem dX11_wrongTopic_2 : decode cX11_wrongTopic 2 = .ok (.bipush 63, 2) := by decide +kernel
theorem dX11_wrongTopic_4 : decode cX11_wrongTopic 4 = .ok (.invokestatic 110, 3) := by decide +kernel
theorem dX11_wrongTopic_7 : decode cX11_wrongTopic 7 = .ok (.iload_n 1, 1) := by decide +kernel
theorem dX11_wrongTopic_8 : decode cX11_wrongTopic 8 = .ok (.iconst 0, 1) := by decide +kernel
theorem dX11_wrongTopic_9 : decode cX11_wrongTopic 9 = .ok (.sipush 9999, 3) := by decide +kernel
theorem dX11_wrongTopic_12 : decode cX11_wrongTopic 12 = .ok (.invokestatic 110, 3) := by decide +kernel
theorem dX11_wrongTopic_15 : decode cX11_wrongTopic 15 = .ok (.invokestatic 118, 3) := by decide +kernel
theorem dX11_wrongTopic_18 : decode cX11_wrongTopic 18 = .ok (.ireturn, 1) := by decide +kernel
theorem dX11_isShop_0 : decode cX11_isShop 0 = .ok (.iload_n 0, 1) := by decide +kernel
theorem dX11_isShop_1 : decode cX11_isShop 1 = .ok (.ifCond .lt 13, 3) := by decide +kernel
theorem dX11_isShop_4 : decode cX11_isShop 4 = .ok (.iload_n 0, 1) := by decide +kernel
theorem dX11_isShop_5 : decode cX11_isShop 5 = .ok (.bipush 6, 2) := by decide +kernel
theorem dX11_isShop_7 : decode cX11_isShop 7 = .ok (.if_icmp .ge 7, 3) := by decide +kernel
theorem dX11_isShop_10 : decode cX11_isShop 10 = .ok (.iconst 1, 1) := by decide +kernel
theorem dX11_isShop_11 : decode cX11_isShop 11 = .ok (.goto 4, 3) := by decide +kernel
theorem dX11_isShop_14 : decode cX11_isShop 14 = .ok (.iconst 0, 1) := by decide +kernel
theorem dX11_isShop_15 : decode cX11_isShop 15 = .ok (.ireturn, 1) := by decide +kernel
theorem dX11_isWhat_0 : decode cX11_isWhat 0 = .ok (.iload_n 0, 1) := by decide +kernel
theorem dX11_isWhat_1 : decode cX11_isWhat 1 = .ok (.ifCond .lt 13, 3) := by decide +kernel
theorem dX11_isWhat_4 : decode cX11_isWhat 4 = .ok (.iload_n 0, 1) := by decide +kernel
theorem dX11_isWhat_5 : decode cX11_isWhat 5 = .ok (.bipush 8, 2) := by decide +kernel
theorem dX11_isWhat_7 : decode cX11_isWhat 7 = .ok (.if_icmp .ge 7, 3) := by decide +kernel
theorem dX11_isWhat_10 : decode cX11_isWhat 10 = .ok (.iconst 1, 1) := by decide +kernel
theorem dX11_isWhat_11 : decode cX11_isWhat 11 = .ok (.goto 4, 3) := by decide +kernel
theorem dX11_isWhat_14 : decode cX11_isWhat 14 = .ok (.iconst 0, 1) := by decide +kernel
theorem dX11_isWhat_15 : decode cX11_isWhat 15 = .ok (.ireturn, 1) := by decide +kernel
theorem dX11_isMatter_0 : decode cX11_isMatter 0 = .ok (.iload_n 1, 1) := by decide +kernel
theorem dX11_isMatter_1 : decode cX11_isMatter 1 = .ok (.ifCond .lt 21, 3) := by decide +kernel
theorem dX11_isMatter_4 : decode cX11_isMatter 4 = .ok (.iload_n 1, 1) := by decide +kernel
theorem dX11_isMatter_5 : decode cX11_isMatter 5 = .ok (.aload_n 0, 1) := by decide +kernel
theorem dX11_isMatter_6 : decode cX11_isMatter 6 = .ok (.getfield 43, 3) := by decide +kernel
theorem dX11_isMatter_9 : decode cX11_isMatter 9 = .ok (.if_icmp .ge 13, 3) := by decide +kernel
theorem dX11_isMatter_12 : decode cX11_isMatter 12 = .ok (.iload_n 1, 1) := by decide +kernel
theorem dX11_isMatter_13 : decode cX11_isMatter 13 = .ok (.bipush 40, 2) := by decide +kernel
theorem dX11_isMatter_15 : decode cX11_isMatter 15 = .ok (.if_icmp .ge 7, 3) := by decide +kernel
theorem dX11_isMatter_18 : decode cX11_isMatter 18 = .ok (.iconst 1, 1) := by decide +kernel
theorem dX11_isMatter_19 : decode cX11_isMatter 19 = .ok (.goto 4, 3) := by decide +kernel
theorem dX11_isMatter_22 : decode cX11_isMatter 22 = .ok (.iconst 0, 1) := by decide +kernel
theorem dX11_isMatter_23 : decode cX11_isMatter 23 = .ok (.ireturn, 1) := by decide +kernel
theorem dX11_tellFacts_0 : decode cX11_tellFacts 0 = .ok (.aload_n 0, 1) := by decide +kernel
theorem dX11_tellFacts_1 : decode cX11_tellFacts 1 = .ok (.getfield 26, 3) := by decide +kernel
theorem dX11_tellFacts_4 : decode cX11_tellFacts 4 = .ok (.getfield 455, 3) := by decide +kernel
theorem dX11_tellFacts_7 : decode cX11_tellFacts 7 = .ok (.getfield 459, 3) := by decide +kernel
theorem dX11_tellFacts_10 : decode cX11_tellFacts 10 = .ok (.astore 4, 2) := by decide +kernel
theorem dX11_tellFacts_12 : decode cX11_tellFacts 12 = .ok (.aload 4, 2) := by decide +kernel
theorem dX11_tellFacts_14 : decode cX11_tellFacts 14 = .ok (.iconst 0, 1) := by decide +kernel
theorem dX11_tellFacts_15 : decode cX11_tellFacts 15 = .ok (.aload_n 0, 1) := by decide +kernel
theorem dX11_tellFacts_16 : decode cX11_tellFacts 16 = .ok (.getfield 19, 3) := by decide +kernel
theorem dX11_tellFacts_19 : decode cX11_tellFacts 19 = .ok (.iload_n 1, 1) := by decide +kernel
theorem dX11_tellFacts_20 : decode cX11_tellFacts 20 = .ok (.invokevirtual 390, 3) := by decide +kernel
theorem dX11_tellFacts_23 : decode cX11_tellFacts 23 = .ok (.iastore, 1) := by decide +kernel
theorem dX11_tellFacts_24 : decode cX11_tellFacts 24 = .ok (.aload 4, 2) := by decide +kernel
theorem dX11_tellFacts_26 : decode cX11_tellFacts 26 = .ok (.iconst 1, 1) := by decide +kernel
theorem dX11_tellFacts_27 : decode cX11_tellFacts 27 = .ok (.aload_n 0, 1) := by decide +kernel
theorem dX11_tellFacts_28 : decode cX11_tellFacts 28 = .ok (.getfield 19, 3) := by decide +kernel
theorem dX11_tellFacts_31 : decode cX11_tellFacts 31 = .ok (.bipush 63, 2) := by decide +kernel
theorem dX11_tellFacts_33 : decode cX11_tellFacts 33 = .ok (.invokevirtual 390, 3) := by decide +kernel
theorem dX11_tellFacts_36 : decode cX11_tellFacts 36 = .ok (.iastore, 1) := by decide +kernel
theorem dX11_tellFacts_37 : decode cX11_tellFacts 37 = .ok (.aload 4, 2) := by decide +kernel
theorem dX11_tellFacts_39 : decode cX11_tellFacts 39 = .ok (.iconst 2, 1) := by decide +kernel
theorem dX11_tellFacts_40 : decode cX11_tellFacts 40 = .ok (.iload_n 1, 1) := by decide +kernel
theorem dX11_tellFacts_41 : decode cX11_tellFacts 41 = .ok (.invokestatic 280, 3) := by decide +kernel
theorem dX11_tellFacts_44 : decode cX11_tellFacts 44 = .ok (.iastore, 1) := by decide +kernel
theorem dX11_tellFacts_45 : decode cX11_tellFacts 45 = .ok (.aload 4, 2) := by decide +kernel
theorem dX11_tellFacts_47 : decode cX11_tellFacts 47 = .ok (.iconst 3, 1) := by decide +kernel
theorem dX11_tellFacts_48 : decode cX11_tellFacts 48 = .ok (.iload_n 2, 1) := by decide +kernel
theorem dX11_tellFacts_49 : decode cX11_tellFacts 49 = .ok (.iastore, 1) := by decide +kernel
theorem dX11_tellFacts_50 : decode cX11_tellFacts 50 = .ok (.aload 4, 2) := by decide +kernel
theorem dX11_tellFacts_52 : decode cX11_tellFacts 52 = .ok (.iconst 4, 1) := by decide +kernel
theorem dX11_tellFacts_53 : decode cX11_tellFacts 53 = .ok (.aload_n 0, 1) := by decide +kernel
theorem dX11_tellFacts_54 : decode cX11_tellFacts 54 = .ok (.getfield 33, 3) := by decide +kernel
theorem dX11_tellFacts_57 : decode cX11_tellFacts 57 = .ok (.getfield 442, 3) := by decide +kernel
theorem dX11_tellFacts_60 : decode cX11_tellFacts 60 = .ok (.iastore, 1) := by decide +kernel
theorem dX11_tellFacts_61 : decode cX11_tellFacts 61 = .ok (.aload 4, 2) := by decide +kernel
theorem dX11_tellFacts_63 : decode cX11_tellFacts 63 = .ok (.iconst 5, 1) := by decide +kernel
theorem dX11_tellFacts_64 : decode cX11_tellFacts 64 = .ok (.iload_n 3, 1) := by decide +kernel
theorem dX11_tellFacts_65 : decode cX11_tellFacts 65 = .ok (.ifCond .eq 7, 3) := by decide +kernel
theorem dX11_tellFacts_68 : decode cX11_tellFacts 68 = .ok (.iconst 1, 1) := by decide +kernel
theorem dX11_tellFacts_69 : decode cX11_tellFacts 69 = .ok (.goto 4, 3) := by decide +kernel
theorem dX11_tellFacts_72 : decode cX11_tellFacts 72 = .ok (.iconst 0, 1) := by decide +kernel
theorem dX11_tellFacts_73 : decode cX11_tellFacts 73 = .ok (.iastore, 1) := by decide +kernel
theorem dX11_tellFacts_74 : decode cX11_tellFacts 74 = .ok (.return_, 1) := by decide +kernel
theorem dX11_canBePresent_0 : decode cX11_canBePresent 0 = .ok (.iload_n 1, 1) := by decide +kernel
theorem dX11_canBePresent_1 : decode cX11_canBePresent 1 = .ok (.aload_n 0, 1) := by decide +kernel
theorem dX11_canBePresent_2 : decode cX11_canBePresent 2 = .ok (.getfield 33, 3) := by decide +kernel
theorem dX11_canBePresent_5 : decode cX11_canBePresent 5 = .ok (.getfield 442, 3) := by decide +kernel
theorem dX11_canBePresent_8 : decode cX11_canBePresent 8 = .ok (.ishr, 1) := by decide +kernel
theorem dX11_canBePresent_9 : decode cX11_canBePresent 9 = .ok (.ifCond .eq 5, 3) := by decide +kernel
theorem dX11_canBePresent_12 : decode cX11_canBePresent 12 = .ok (.iconst 0, 1) := by decide +kernel
theorem dX11_canBePresent_13 : decode cX11_canBePresent 13 = .ok (.ireturn, 1) := by decide +kernel
theorem dX11_canBePresent_14 : decode cX11_canBePresent 14 = .ok (.iconst 0, 1) := by decide +kernel
theorem dX11_canBePresent_15 : decode cX11_canBePresent 15 = .ok (.istore_n 2, 1) := by decide +kernel
theorem dX11_canBePresent_16 : decode cX11_canBePresent 16 = .ok (.iload_n 2, 1) := by decide +kernel
theorem dX11_canBePresent_17 : decode cX11_canBePresent 17 = .ok (.aload_n 0, 1) := by decide +kernel
theorem dX11_canBePresent_18 : decode cX11_canBePresent 18 = .ok (.getfield 33, 3) := by decide +kernel
theorem dX11_canBePresent_21 : decode cX11_canBePresent 21 = .ok (.getfield 442, 3) := by decide +kernel
theorem dX11_canBePresent_24 : decode cX11_canBePresent 24 = .ok (.if_icmp .ge 53, 3) := by decide +kernel
theorem dX11_canBePresent_27 : decode cX11_canBePresent 27 = .ok (.aload_n 0, 1) := by decide +kernel
theorem dX11_canBePresent_28 : decode cX11_canBePresent 28 = .ok (.getfield 33, 3) := by decide +kernel
theorem dX11_canBePresent_31 : decode cX11_canBePresent 31 = .ok (.getfield 251, 3) := by decide +kernel
theorem dX11_canBePresent_34 : decode cX11_canBePresent 34 = .ok (.iload_n 2, 1) := by decide +kernel
theorem dX11_canBePresent_35 : decode cX11_canBePresent 35 = .ok (.iaload, 1) := by decide +kernel
theorem dX11_canBePresent_36 : decode cX11_canBePresent 36 = .ok (.istore_n 3, 1) := by decide +kernel
theorem dX11_canBePresent_37 : decode cX11_canBePresent 37 = .ok (.iload_n 1, 1) := by decide +kernel
theorem dX11_canBePresent_38 : decode cX11_canBePresent 38 = .ok (.iload_n 2, 1) := by decide +kernel
theorem dX11_canBePresent_39 : decode cX11_canBePresent 39 = .ok (.ishr, 1) := by decide +kernel
theorem dX11_canBePresent_40 : decode cX11_canBePresent 40 = .ok (.iconst 1, 1) := by decide +kernel
theorem dX11_canBePresent_41 : decode cX11_canBePresent 41 = .ok (.iand, 1) := by decide +kernel
theorem dX11_canBePresent_42 : decode cX11_canBePresent 42 = .ok (.iconst 1, 1) := by decide +kernel
theorem dX11_canBePresent_43 : decode cX11_canBePresent 43 = .ok (.if_icmp .ne 28, 3) := by decide +kernel
theorem dX11_canBePresent_46 : decode cX11_canBePresent 46 = .ok (.aload_n 0, 1) := by decide +kernel
theorem dX11_canBePresent_47 : decode cX11_canBePresent 47 = .ok (.getfield 19, 3) := by decide +kernel
theorem dX11_canBePresent_50 : decode cX11_canBePresent 50 = .ok (.iload_n 3, 1) := by decide +kernel
theorem dX11_canBePresent_51 : decode cX11_canBePresent 51 = .ok (.invokevirtual 141, 3) := by decide +kernel
theorem dX11_canBePresent_54 : decode cX11_canBePresent 54 = .ok (.ifCond .eq 15, 3) := by decide +kernel
theorem dX11_canBePresent_57 : decode cX11_canBePresent 57 = .ok (.aload_n 0, 1) := by decide +kernel
theorem dX11_canBePresent_58 : decode cX11_canBePresent 58 = .ok (.getfield 19, 3) := by decide +kernel
theorem dX11_canBePresent_61 : decode cX11_canBePresent 61 = .ok (.getfield 144, 3) := by decide +kernel
theorem dX11_canBePresent_64 : decode cX11_canBePresent 64 = .ok (.iload_n 3, 1) := by decide +kernel
theorem dX11_canBePresent_65 : decode cX11_canBePresent 65 = .ok (.baload, 1) := by decide +kernel
theorem dX11_canBePresent_66 : decode cX11_canBePresent 66 = .ok (.ifCond .ne 5, 3) := by decide +kernel
theorem dX11_canBePresent_69 : decode cX11_canBePresent 69 = .ok (.iconst 0, 1) := by decide +kernel
theorem dX11_canBePresent_70 : decode cX11_canBePresent 70 = .ok (.ireturn, 1) := by decide +kernel
theorem dX11_canBePresent_71 : decode cX11_canBePresent 71 = .ok (.iinc 2 1, 3) := by decide +kernel
theorem dX11_canBePresent_74 : decode cX11_canBePresent 74 = .ok (.goto (-58), 3) := by decide +kernel
theorem dX11_canBePresent_77 : decode cX11_canBePresent 77 = .ok (.iconst 1, 1) := by decide +kernel
theorem dX11_canBePresent_78 : decode cX11_canBePresent 78 = .ok (.ireturn, 1) := by decide +kernel
theorem dX11_holds_0 : decode cX11_holds 0 = .ok (.aload_n 0, 1) := by decide +kernel
theorem dX11_holds_1 : decode cX11_holds 1 = .ok (.getfield 50, 3) := by decide +kernel
theorem dX11_holds_4 : decode cX11_holds 4 = .ok (.getfield 312, 3) := by decide +kernel
theorem dX11_holds_7 : decode cX11_holds 7 = .ok (.iload_n 1, 1) := by decide +kernel
theorem dX11_holds_8 : decode cX11_holds 8 = .ok (.iaload, 1) := by decide +kernel
theorem dX11_holds_9 : decode cX11_holds 9 = .ok (.istore_n 2, 1) := by decide +kernel
theorem dX11_holds_10 : decode cX11_holds 10 = .ok (.aload_n 0, 1) := by decide +kernel
theorem dX11_holds_11 : decode cX11_holds 11 = .ok (.iload_n 2, 1) := by decide +kernel
theorem dX11_holds_12 : decode cX11_holds 12 = .ok (.invokevirtual 204, 3) := by decide +kernel
theorem dX11_holds_15 : decode cX11_holds 15 = .ok (.ifCond .eq 44, 3) := by decide +kernel
theorem dX11_holds_18 : decode cX11_holds 18 = .ok (.aload_n 0, 1) := by decide +kernel
theorem dX11_holds_19 : decode cX11_holds 19 = .ok (.getfield 39, 3) := by decide +kernel
theorem dX11_holds_22 : decode cX11_holds 22 = .ok (.iload_n 2, 1) := by decide +kernel
theorem dX11_holds_23 : decode cX11_holds 23 = .ok (.aaload, 1) := by decide +kernel
theorem dX11_holds_24 : decode cX11_holds 24 = .ok (.aload_n 0, 1) := by decide +kernel
theorem dX11_holds_25 : decode cX11_holds 25 = .ok (.getfield 39, 3) := by decide +kernel
theorem dX11_holds_28 : decode cX11_holds 28 = .ok (.iload_n 2, 1) := by decide +kernel
theorem dX11_holds_29 : decode cX11_holds 29 = .ok (.aaload, 1) := by decide +kernel
theorem dX11_holds_30 : decode cX11_holds 30 = .ok (.aload_n 0, 1) := by decide +kernel
theorem dX11_holds_31 : decode cX11_holds 31 = .ok (.getfield 50, 3) := by decide +kernel
theorem dX11_holds_34 : decode cX11_holds 34 = .ok (.getfield 464, 3) := by decide +kernel
theorem dX11_holds_37 : decode cX11_holds 37 = .ok (.iload_n 1, 1) := by decide +kernel
theorem dX11_holds_38 : decode cX11_holds 38 = .ok (.iaload, 1) := by decide +kernel
theorem dX11_holds_39 : decode cX11_holds 39 = .ok (.aload_n 0, 1) := by decide +kernel
theorem dX11_holds_40 : decode cX11_holds 40 = .ok (.getfield 10, 3) := by decide +kernel
theorem dX11_holds_43 : decode cX11_holds 43 = .ok (.getfield 107, 3) := by decide +kernel
theorem dX11_holds_46 : decode cX11_holds 46 = .ok (.invokevirtual 221, 3) := by decide +kernel
theorem dX11_holds_49 : decode cX11_holds 49 = .ok (.invokevirtual 467, 3) := by decide +kernel
theorem dX11_holds_52 : decode cX11_holds 52 = .ok (.ifCond .eq 7, 3) := by decide +kernel
theorem dX11_holds_55 : decode cX11_holds 55 = .ok (.iconst 1, 1) := by decide +kernel
theorem dX11_holds_56 : decode cX11_holds 56 = .ok (.goto 4, 3) := by decide +kernel
theorem dX11_holds_59 : decode cX11_holds 59 = .ok (.iconst 0, 1) := by decide +kernel
theorem dX11_holds_60 : decode cX11_holds 60 = .ok (.ireturn, 1) := by decide +kernel
theorem dX11_concerns_0 : decode cX11_concerns 0 = .ok (.aload_n 0, 1) := by decide +kernel
theorem dX11_concerns_1 : decode cX11_concerns 1 = .ok (.getfield 50, 3) := by decide +kernel
theorem dX11_concerns_4 : decode cX11_concerns 4 = .ok (.getfield 312, 3) := by decide +kernel
theorem dX11_concerns_7 : decode cX11_concerns 7 = .ok (.iload_n 1, 1) := by decide +kernel
theorem dX11_concerns_8 : decode cX11_concerns 8 = .ok (.iaload, 1) := by decide +kernel
theorem dX11_concerns_9 : decode cX11_concerns 9 = .ok (.istore 4, 2) := by decide +kernel
theorem dX11_concerns_11 : decode cX11_concerns 11 = .ok (.aload_n 0, 1) := by decide +kernel
theorem dX11_concerns_12 : decode cX11_concerns 12 = .ok (.iload 4, 2) := by decide +kernel
theorem dX11_concerns_14 : decode cX11_concerns 14 = .ok (.invokevirtual 204, 3) := by decide +kernel
theorem dX11_concerns_17 : decode cX11_concerns 17 = .ok (.ifCond .eq 39, 3) := by decide +kernel
theorem dX11_concerns_20 : decode cX11_concerns 20 = .ok (.aload_n 0, 1) := by decide +kernel
theorem dX11_concerns_21 : decode cX11_concerns 21 = .ok (.getfield 39, 3) := by decide +kernel
theorem dX11_concerns_24 : decode cX11_concerns 24 = .ok (.iload 4, 2) := by decide +kernel
theorem dX11_concerns_26 : decode cX11_concerns 26 = .ok (.aaload, 1) := by decide +kernel
theorem dX11_concerns_27 : decode cX11_concerns 27 = .ok (.getfield 351, 3) := by decide +kernel
theorem dX11_concerns_30 : decode cX11_concerns 30 = .ok (.iload_n 3, 1) := by decide +kernel
theorem dX11_concerns_31 : decode cX11_concerns 31 = .ok (.if_icmp .ne 25, 3) := by decide +kernel
theorem dX11_concerns_34 : decode cX11_concerns 34 = .ok (.aload_n 0, 1) := by decide +kernel
theorem dX11_concerns_35 : decode cX11_concerns 35 = .ok (.getfield 39, 3) := by decide +kernel
theorem dX11_concerns_38 : decode cX11_concerns 38 = .ok (.iload 4, 2) := by decide +kernel
theorem dX11_concerns_40 : decode cX11_concerns 40 = .ok (.aaload, 1) := by decide +kernel
theorem dX11_concerns_41 : decode cX11_concerns 41 = .ok (.getfield 470, 3) := by decide +kernel
theorem dX11_concerns_44 : decode cX11_concerns 44 = .ok (.iload_n 2, 1) := by decide +kernel
theorem dX11_concerns_45 : decode cX11_concerns 45 = .ok (.ishr, 1) := by decide +kernel
theorem dX11_concerns_46 : decode cX11_concerns 46 = .ok (.iconst 1, 1) := by decide +kernel
theorem dX11_concerns_47 : decode cX11_concerns 47 = .ok (.iand, 1) := by decide +kernel
theorem dX11_concerns_48 : decode cX11_concerns 48 = .ok (.iconst 1, 1) := by decide +kernel
theorem dX11_concerns_49 : decode cX11_concerns 49 = .ok (.if_icmp .ne 7, 3) := by decide +kernel
theorem dX11_concerns_52 : decode cX11_concerns 52 = .ok (.iconst 1, 1) := by decide +kernel
theorem dX11_concerns_53 : decode cX11_concerns 53 = .ok (.goto 4, 3) := by decide +kernel
theorem dX11_concerns_56 : decode cX11_concerns 56 = .ok (.iconst 0, 1) := by decide +kernel
theorem dX11_concerns_57 : decode cX11_concerns 57 = .ok (.ireturn, 1) := by decide +kernel
theorem dX11_agreementInForce_0 : decode cX11_agreementInForce 0 = .ok (.bipush (-9), 2) := by decide +kernel
theorem dX11_agreementInForce_2 : decode cX11_agreementInForce 2 = .ok (.istore 4, 2) := by decide +kernel
theorem dX11_agreementInForce_4 : decode cX11_agreementInForce 4 = .ok (.iconst 0, 1) := by decide +kernel
theorem dX11_agreementInForce_5 : decode cX11_agreementInForce 5 = .ok (.istore 5, 2) := by decide +kernel
theorem dX11_agreementInForce_7 : decode cX11_agreementInForce 7 = .ok (.iload 5, 2) := by decide +kernel
theorem dX11_agreementInForce_9 : decode cX11_agreementInForce 9 = .ok (.aload_n 0, 1) := by decide +kernel
theorem dX11_agreementInForce_10 : decode cX11_agreementInForce 10 = .ok (.getfield 50, 3) := by decide +kernel
theorem dX11_agreementInForce_13 : decode cX11_agreementInForce 13 = .ok (.getfield 303, 3) := by decide +kernel
theorem dX11_agreementInForce_16 : decode cX11_agreementInForce 16 = .ok (.if_icmp .ge 94, 3) := by decide +kernel
theorem dX11_agreementInForce_19 : decode cX11_agreementInForce 19 = .ok (.iload_n 3, 1) := by decide +kernel
theorem dX11_agreementInForce_20 : decode cX11_agreementInForce 20 = .ok (.aload_n 0, 1) := by decide +kernel
theorem dX11_agreementInForce_21 : decode cX11_agreementInForce 21 = .ok (.getfield 50, 3) := by decide +kernel
theorem dX11_agreementInForce_24 : decode cX11_agreementInForce 24 = .ok (.getfield 318, 3) := by decide +kernel
theorem dX11_agreementInForce_27 : decode cX11_agreementInForce 27 = .ok (.iload 5, 2) := by decide +kernel
theorem dX11_agreementInForce_29 : decode cX11_agreementInForce 29 = .ok (.iaload, 1) := by decide +kernel
theorem dX11_agreementInForce_30 : decode cX11_agreementInForce 30 = .ok (.if_icmp .lt 74, 3) := by decide +kernel
theorem dX11_agreementInForce_33 : decode cX11_agreementInForce 33 = .ok (.iload_n 3, 1) := by decide +kernel
theorem dX11_agreementInForce_34 : decode cX11_agreementInForce 34 = .ok (.aload_n 0, 1) := by decide +kernel
theorem dX11_agreementInForce_35 : decode cX11_agreementInForce 35 = .ok (.getfield 50, 3) := by decide +kernel
theorem dX11_agreementInForce_38 : decode cX11_agreementInForce 38 = .ok (.getfield 321, 3) := by decide +kernel
theorem dX11_agreementInForce_41 : decode cX11_agreementInForce 41 = .ok (.iload 5, 2) := by decide +kernel
theorem dX11_agreementInForce_43 : decode cX11_agreementInForce 43 = .ok (.iaload, 1) := by decide +kernel
theorem dX11_agreementInForce_44 : decode cX11_agreementInForce 44 = .ok (.if_icmp .gt 60, 3) := by decide +kernel
theorem dX11_agreementInForce_47 : decode cX11_agreementInForce 47 = .ok (.aload_n 0, 1) := by decide +kernel
theorem dX11_agreementInForce_48 : decode cX11_agreementInForce 48 = .ok (.iload 5, 2) := by decide +kernel
theorem dX11_agreementInForce_50 : decode cX11_agreementInForce 50 = .ok (.iload_n 1, 1) := by decide +kernel
theorem dX11_agreementInForce_51 : decode cX11_agreementInForce 51 = .ok (.iload_n 2, 1) := by decide +kernel
theorem dX11_agreementInForce_52 : decode cX11_agreementInForce 52 = .ok (.invokevirtual 473, 3) := by decide +kernel
theorem dX11_agreementInForce_55 : decode cX11_agreementInForce 55 = .ok (.ifCond .eq 49, 3) := by decide +kernel
theorem dX11_agreementInForce_58 : decode cX11_agreementInForce 58 = .ok (.aload_n 0, 1) := by decide +kernel
theorem dX11_agreementInForce_59 : decode cX11_agreementInForce 59 = .ok (.iload 5, 2) := by decide +kernel
theorem dX11_agreementInForce_61 : decode cX11_agreementInForce 61 = .ok (.invokevirtual 324, 3) := by decide +kernel
theorem dX11_agreementInForce_64 : decode cX11_agreementInForce 64 = .ok (.ifCond .ne 6, 3) := by decide +kernel
theorem dX11_agreementInForce_67 : decode cX11_agreementInForce 67 = .ok (.goto 37, 3) := by decide +kernel
theorem dX11_agreementInForce_70 : decode cX11_agreementInForce 70 = .ok (.iload 4, 2) := by decide +kernel
theorem dX11_agreementInForce_72 : decode cX11_agreementInForce 72 = .ok (.bipush (-9), 2) := by decide +kernel
theorem dX11_agreementInForce_74 : decode cX11_agreementInForce 74 = .ok (.if_icmp .eq 26, 3) := by decide +kernel
theorem dX11_agreementInForce_77 : decode cX11_agreementInForce 77 = .ok (.aload_n 0, 1) := by decide +kernel
theorem dX11_agreementInForce_78 : decode cX11_agreementInForce 78 = .ok (.getfield 50, 3) := by decide +kernel
theorem dX11_agreementInForce_81 : decode cX11_agreementInForce 81 = .ok (.getfield 318, 3) := by decide +kernel
theorem dX11_agreementInForce_84 : decode cX11_agreementInForce 84 = .ok (.iload 5, 2) := by decide +kernel
theorem dX11_agreementInForce_86 : decode cX11_agreementInForce 86 = .ok (.iaload, 1) := by decide +kernel
theorem dX11_agreementInForce_87 : decode cX11_agreementInForce 87 = .ok (.aload_n 0, 1) := by decide +kernel
theorem dX11_agreementInForce_88 : decode cX11_agreementInForce 88 = .ok (.getfield 50, 3) := by decide +kernel
theorem dX11_agreementInForce_91 : decode cX11_agreementInForce 91 = .ok (.getfield 318, 3) := by decide +kernel
theorem dX11_agreementInForce_94 : decode cX11_agreementInForce 94 = .ok (.iload 4, 2) := by decide +kernel
theorem dX11_agreementInForce_96 : decode cX11_agreementInForce 96 = .ok (.iaload, 1) := by decide +kernel
theorem dX11_agreementInForce_97 : decode cX11_agreementInForce 97 = .ok (.if_icmp .lt 7, 3) := by decide +kernel
theorem dX11_agreementInForce_100 : decode cX11_agreementInForce 100 = .ok (.iload 5, 2) := by decide +kernel
theorem dX11_agreementInForce_102 : decode cX11_agreementInForce 102 = .ok (.istore 4, 2) := by decide +kernel
theorem dX11_agreementInForce_104 : decode cX11_agreementInForce 104 = .ok (.iinc 5 1, 3) := by decide +kernel
theorem dX11_agreementInForce_107 : decode cX11_agreementInForce 107 = .ok (.goto (-100), 3) := by decide +kernel
theorem dX11_agreementInForce_110 : decode cX11_agreementInForce 110 = .ok (.iload 4, 2) := by decide +kernel
theorem dX11_agreementInForce_112 : decode cX11_agreementInForce 112 = .ok (.ireturn, 1) := by decide +kernel
theorem dX11_agreementEndedLast_0 : decode cX11_agreementEndedLast 0 = .ok (.bipush (-9), 2) := by decide +kernel
theorem dX11_agreementEndedLast_2 : decode cX11_agreementEndedLast 2 = .ok (.istore 4, 2) := by decide +kernel
theorem dX11_agreementEndedLast_4 : decode cX11_agreementEndedLast 4 = .ok (.iconst 0, 1) := by decide +kernel
theorem dX11_agreementEndedLast_5 : decode cX11_agreementEndedLast 5 = .ok (.istore 5, 2) := by decide +kernel
theorem dX11_agreementEndedLast_7 : decode cX11_agreementEndedLast 7 = .ok (.iload 5, 2) := by decide +kernel
theorem dX11_agreementEndedLast_9 : decode cX11_agreementEndedLast 9 = .ok (.aload_n 0, 1) := by decide +kernel
theorem dX11_agreementEndedLast_10 : decode cX11_agreementEndedLast 10 = .ok (.getfield 50, 3) := by decide +kernel
theorem dX11_agreementEndedLast_13 : decode cX11_agreementEndedLast 13 = .ok (.getfield 303, 3) := by decide +kernel
theorem dX11_agreementEndedLast_16 : decode cX11_agreementEndedLast 16 = .ok (.if_icmp .ge 115, 3) := by decide +kernel
theorem dX11_agreementEndedLast_19 : decode cX11_agreementEndedLast 19 = .ok (.aload_n 0, 1) := by decide +kernel
theorem dX11_agreementEndedLast_20 : decode cX11_agreementEndedLast 20 = .ok (.getfield 50, 3) := by decide +kernel
theorem dX11_agreementEndedLast_23 : decode cX11_agreementEndedLast 23 = .ok (.getfield 318, 3) := by decide +kernel
theorem dX11_agreementEndedLast_26 : decode cX11_agreementEndedLast 26 = .ok (.iload 5, 2) := by decide +kernel
theorem dX11_agreementEndedLast_28 : decode cX11_agreementEndedLast 28 = .ok (.iaload, 1) := by decide +kernel
theorem dX11_agreementEndedLast_29 : decode cX11_agreementEndedLast 29 = .ok (.aload_n 0, 1) := by decide +kernel
theorem dX11_agreementEndedLast_30 : decode cX11_agreementEndedLast 30 = .ok (.getfield 50, 3) := by decide +kernel
theorem dX11_agreementEndedLast_33 : decode cX11_agreementEndedLast 33 = .ok (.getfield 321, 3) := by decide +kernel
theorem dX11_agreementEndedLast_36 : decode cX11_agreementEndedLast 36 = .ok (.iload 5, 2) := by decide +kernel
theorem dX11_agreementEndedLast_38 : decode cX11_agreementEndedLast 38 = .ok (.iaload, 1) := by decide +kernel
theorem dX11_agreementEndedLast_39 : decode cX11_agreementEndedLast 39 = .ok (.if_icmp .gt 7, 3) := by decide +kernel
theorem dX11_agreementEndedLast_42 : decode cX11_agreementEndedLast 42 = .ok (.iconst 1, 1) := by decide +kernel
theorem dX11_agreementEndedLast_43 : decode cX11_agreementEndedLast 43 = .ok (.goto 4, 3) := by decide +kernel
theorem dX11_agreementEndedLast_46 : decode cX11_agreementEndedLast 46 = .ok (.iconst 0, 1) := by decide +kernel
theorem dX11_agreementEndedLast_47 : decode cX11_agreementEndedLast 47 = .ok (.istore 6, 2) := by decide +kernel
theorem dX11_agreementEndedLast_49 : decode cX11_agreementEndedLast 49 = .ok (.iload 6, 2) := by decide +kernel
theorem dX11_agreementEndedLast_51 : decode cX11_agreementEndedLast 51 = .ok (.ifCond .eq 74, 3) := by decide +kernel
theorem dX11_agreementEndedLast_54 : decode cX11_agreementEndedLast 54 = .ok (.aload_n 0, 1) := by decide +kernel
theorem dX11_agreementEndedLast_55 : decode cX11_agreementEndedLast 55 = .ok (.getfield 50, 3) := by decide +kernel
theorem dX11_agreementEndedLast_58 : decode cX11_agreementEndedLast 58 = .ok (.getfield 321, 3) := by decide +kernel
theorem dX11_agreementEndedLast_61 : decode cX11_agreementEndedLast 61 = .ok (.iload 5, 2) := by decide +kernel
theorem dX11_agreementEndedLast_63 : decode cX11_agreementEndedLast 63 = .ok (.iaload, 1) := by decide +kernel
theorem dX11_agreementEndedLast_64 : decode cX11_agreementEndedLast 64 = .ok (.iload_n 3, 1) := by decide +kernel
theorem dX11_agreementEndedLast_65 : decode cX11_agreementEndedLast 65 = .ok (.if_icmp .ge 60, 3) := by decide +kernel
theorem dX11_agreementEndedLast_68 : decode cX11_agreementEndedLast 68 = .ok (.aload_n 0, 1) := by decide +kernel
theorem dX11_agreementEndedLast_69 : decode cX11_agreementEndedLast 69 = .ok (.iload 5, 2) := by decide +kernel
theorem dX11_agreementEndedLast_71 : decode cX11_agreementEndedLast 71 = .ok (.iload_n 1, 1) := by decide +kernel
theorem dX11_agreementEndedLast_72 : decode cX11_agreementEndedLast 72 = .ok (.iload_n 2, 1) := by decide +kernel
theorem dX11_agreementEndedLast_73 : decode cX11_agreementEndedLast 73 = .ok (.invokevirtual 473, 3) := by decide +kernel
theorem dX11_agreementEndedLast_76 : decode cX11_agreementEndedLast 76 = .ok (.ifCond .eq 49, 3) := by decide +kernel
theorem dX11_agreementEndedLast_79 : decode cX11_agreementEndedLast 79 = .ok (.aload_n 0, 1) := by decide +kernel
theorem dX11_agreementEndedLast_80 : decode cX11_agreementEndedLast 80 = .ok (.iload 5, 2) := by decide +kernel
theorem dX11_agreementEndedLast_82 : decode cX11_agreementEndedLast 82 = .ok (.invokevirtual 324, 3) := by decide +kernel
theorem dX11_agreementEndedLast_85 : decode cX11_agreementEndedLast 85 = .ok (.ifCond .ne 6, 3) := by decide +kernel
theorem dX11_agreementEndedLast_88 : decode cX11_agreementEndedLast 88 = .ok (.goto 37, 3) := by decide +kernel
theorem dX11_agreementEndedLast_91 : decode cX11_agreementEndedLast 91 = .ok (.iload 4, 2) := by decide +kernel
theorem dX11_agreementEndedLast_93 : decode cX11_agreementEndedLast 93 = .ok (.bipush (-9), 2) := by decide +kernel
theorem dX11_agreementEndedLast_95 : decode cX11_agreementEndedLast 95 = .ok (.if_icmp .eq 26, 3) := by decide +kernel
theorem dX11_agreementEndedLast_98 : decode cX11_agreementEndedLast 98 = .ok (.aload_n 0, 1) := by decide +kernel
theorem dX11_agreementEndedLast_99 : decode cX11_agreementEndedLast 99 = .ok (.getfield 50, 3) := by decide +kernel
theorem dX11_agreementEndedLast_102 : decode cX11_agreementEndedLast 102 = .ok (.getfield 321, 3) := by decide +kernel
theorem dX11_agreementEndedLast_105 : decode cX11_agreementEndedLast 105 = .ok (.iload 5, 2) := by decide +kernel
theorem dX11_agreementEndedLast_107 : decode cX11_agreementEndedLast 107 = .ok (.iaload, 1) := by decide +kernel
theorem dX11_agreementEndedLast_108 : decode cX11_agreementEndedLast 108 = .ok (.aload_n 0, 1) := by decide +kernel
theorem dX11_agreementEndedLast_109 : decode cX11_agreementEndedLast 109 = .ok (.getfield 50, 3) := by decide +kernel
theorem dX11_agreementEndedLast_112 : decode cX11_agreementEndedLast 112 = .ok (.getfield 321, 3) := by decide +kernel
theorem dX11_agreementEndedLast_115 : decode cX11_agreementEndedLast 115 = .ok (.iload 4, 2) := by decide +kernel
theorem dX11_agreementEndedLast_117 : decode cX11_agreementEndedLast 117 = .ok (.iaload, 1) := by decide +kernel
theorem dX11_agreementEndedLast_118 : decode cX11_agreementEndedLast 118 = .ok (.if_icmp .lt 7, 3) := by decide +kernel
theorem dX11_agreementEndedLast_121 : decode cX11_agreementEndedLast 121 = .ok (.iload 5, 2) := by decide +kernel
theorem dX11_agreementEndedLast_123 : decode cX11_agreementEndedLast 123 = .ok (.istore 4, 2) := by decide +kernel
theorem dX11_agreementEndedLast_125 : decode cX11_agreementEndedLast 125 = .ok (.iinc 5 1, 3) := by decide +kernel
theorem dX11_agreementEndedLast_128 : decode cX11_agreementEndedLast 128 = .ok (.goto (-121), 3) := by decide +kernel
theorem dX11_agreementEndedLast_131 : decode cX11_agreementEndedLast 131 = .ok (.iload 4, 2) := by decide +kernel
theorem dX11_agreementEndedLast_133 : decode cX11_agreementEndedLast 133 = .ok (.ireturn, 1) := by decide +kernel
theorem dX11_voidSince_0 : decode cX11_voidSince 0 = .ok (.aload_n 0, 1) := by decide +kernel
theorem dX11_voidSince_1 : decode cX11_voidSince 1 = .ok (.getfield 57, 3) := by decide +kernel
theorem dX11_voidSince_4 : decode cX11_voidSince 4 = .ok (.getfield 360, 3) := by decide +kernel
theorem dX11_voidSince_7 : decode cX11_voidSince 7 = .ok (.iload_n 1, 1) := by decide +kernel
theorem dX11_voidSince_8 : decode cX11_voidSince 8 = .ok (.iaload, 1) := by decide +kernel
theorem dX11_voidSince_9 : decode cX11_voidSince 9 = .ok (.istore_n 2, 1) := by decide +kernel
theorem dX11_voidSince_10 : decode cX11_voidSince 10 = .ok (.aload_n 0, 1) := by decide +kernel
theorem dX11_voidSince_11 : decode cX11_voidSince 11 = .ok (.aload_n 0, 1) := by decide +kernel
theorem dX11_voidSince_12 : decode cX11_voidSince 12 = .ok (.getfield 57, 3) := by decide +kernel
theorem dX11_voidSince_15 : decode cX11_voidSince 15 = .ok (.getfield 359, 3) := by decide +kernel
theorem dX11_voidSince_18 : decode cX11_voidSince 18 = .ok (.iload_n 1, 1) := by decide +kernel
theorem dX11_voidSince_19 : decode cX11_voidSince 19 = .ok (.iaload, 1) := by decide +kernel
theorem dX11_voidSince_20 : decode cX11_voidSince 20 = .ok (.invokevirtual 204, 3) := by decide +kernel
theorem dX11_voidSince_23 : decode cX11_voidSince 23 = .ok (.ifCond .ne 22, 3) := by decide +kernel
theorem dX11_voidSince_26 : decode cX11_voidSince 26 = .ok (.aload_n 0, 1) := by decide +kernel
theorem dX11_voidSince_27 : decode cX11_voidSince 27 = .ok (.getfield 57, 3) := by decide +kernel
theorem dX11_voidSince_30 : decode cX11_voidSince 30 = .ok (.getfield 476, 3) := by decide +kernel
theorem dX11_voidSince_33 : decode cX11_voidSince 33 = .ok (.iload_n 1, 1) := by decide +kernel
theorem dX11_voidSince_34 : decode cX11_voidSince 34 = .ok (.baload, 1) := by decide +kernel
theorem dX11_voidSince_35 : decode cX11_voidSince 35 = .ok (.ifCond .eq 7, 3) := by decide +kernel
theorem dX11_voidSince_38 : decode cX11_voidSince 38 = .ok (.iload_n 2, 1) := by decide +kernel
theorem dX11_voidSince_39 : decode cX11_voidSince 39 = .ok (.goto 5, 3) := by decide +kernel
theorem dX11_voidSince_42 : decode cX11_voidSince 42 = .ok (.bipush (-9), 2) := by decide +kernel
theorem dX11_voidSince_44 : decode cX11_voidSince 44 = .ok (.ireturn, 1) := by decide +kernel
theorem dX11_voidSince_45 : decode cX11_voidSince 45 = .ok (.aload_n 0, 1) := by decide +kernel
theorem dX11_voidSince_46 : decode cX11_voidSince 46 = .ok (.getfield 39, 3) := by decide +kernel
theorem dX11_voidSince_49 : decode cX11_voidSince 49 = .ok (.aload_n 0, 1) := by decide +kernel
theorem dX11_voidSince_50 : decode cX11_voidSince 50 = .ok (.getfield 57, 3) := by decide +kernel
theorem dX11_voidSince_53 : decode cX11_voidSince 53 = .ok (.getfield 359, 3) := by decide +kernel
theorem dX11_voidSince_56 : decode cX11_voidSince 56 = .ok (.iload_n 1, 1) := by decide +kernel
theorem dX11_voidSince_57 : decode cX11_voidSince 57 = .ok (.iaload, 1) := by decide +kernel
theorem dX11_voidSince_58 : decode cX11_voidSince 58 = .ok (.aaload, 1) := by decide +kernel
theorem dX11_voidSince_59 : decode cX11_voidSince 59 = .ok (.astore_n 3, 1) := by decide +kernel
theorem dX11_voidSince_60 : decode cX11_voidSince 60 = .ok (.aload_n 0, 1) := by decide +kernel
theorem dX11_voidSince_61 : decode cX11_voidSince 61 = .ok (.getfield 57, 3) := by decide +kernel
theorem dX11_voidSince_64 : decode cX11_voidSince 64 = .ok (.getfield 479, 3) := by decide +kernel
theorem dX11_voidSince_67 : decode cX11_voidSince 67 = .ok (.iload_n 1, 1) := by decide +kernel
theorem dX11_voidSince_68 : decode cX11_voidSince 68 = .ok (.iaload, 1) := by decide +kernel
theorem dX11_voidSince_69 : decode cX11_voidSince 69 = .ok (.aload_n 3, 1) := by decide +kernel
theorem dX11_voidSince_70 : decode cX11_voidSince 70 = .ok (.getfield 470, 3) := by decide +kernel
theorem dX11_voidSince_73 : decode cX11_voidSince 73 = .ok (.iconst (-1), 1) := by decide +kernel
theorem dX11_voidSince_74 : decode cX11_voidSince 74 = .ok (.ixor, 1) := by decide +kernel
theorem dX11_voidSince_75 : decode cX11_voidSince 75 = .ok (.iand, 1) := by decide +kernel
theorem dX11_voidSince_76 : decode cX11_voidSince 76 = .ok (.ifCond .ne 19, 3) := by decide +kernel
theorem dX11_voidSince_79 : decode cX11_voidSince 79 = .ok (.aload_n 0, 1) := by decide +kernel
theorem dX11_voidSince_80 : decode cX11_voidSince 80 = .ok (.getfield 57, 3) := by decide +kernel
theorem dX11_voidSince_83 : decode cX11_voidSince 83 = .ok (.getfield 481, 3) := by decide +kernel
theorem dX11_voidSince_86 : decode cX11_voidSince 86 = .ok (.iload_n 1, 1) := by decide +kernel
theorem dX11_voidSince_87 : decode cX11_voidSince 87 = .ok (.iaload, 1) := by decide +kernel
theorem dX11_voidSince_88 : decode cX11_voidSince 88 = .ok (.aload_n 3, 1) := by decide +kernel
theorem dX11_voidSince_89 : decode cX11_voidSince 89 = .ok (.getfield 484, 3) := by decide +kernel
theorem dX11_voidSince_92 : decode cX11_voidSince 92 = .ok (.if_icmp .le 5, 3) := by decide +kernel
theorem dX11_voidSince_95 : decode cX11_voidSince 95 = .ok (.iload_n 2, 1) := by decide +kernel
theorem dX11_voidSince_96 : decode cX11_voidSince 96 = .ok (.ireturn, 1) := by decide +kernel
theorem dX11_voidSince_97 : decode cX11_voidSince 97 = .ok (.aload_n 3, 1) := by decide +kernel
theorem dX11_voidSince_98 : decode cX11_voidSince 98 = .ok (.iload_n 2, 1) := by decide +kernel
theorem dX11_voidSince_99 : decode cX11_voidSince 99 = .ok (.aload_n 3, 1) := by decide +kernel
theorem dX11_voidSince_100 : decode cX11_voidSince 100 = .ok (.getfield 224, 3) := by decide +kernel
theorem dX11_voidSince_103 : decode cX11_voidSince 103 = .ok (.iconst 4, 1) := by decide +kernel
theorem dX11_voidSince_104 : decode cX11_voidSince 104 = .ok (.if_icmp .ne 13, 3) := by decide +kernel
theorem dX11_voidSince_107 : decode cX11_voidSince 107 = .ok (.aload_n 0, 1) := by decide +kernel
theorem dX11_voidSince_108 : decode cX11_voidSince 108 = .ok (.getfield 10, 3) := by decide +kernel
theorem dX11_voidSince_111 : decode cX11_voidSince 111 = .ok (.getfield 107, 3) := by decide +kernel
theorem dX11_voidSince_114 : decode cX11_voidSince 114 = .ok (.goto 4, 3) := by decide +kernel
theorem dX11_voidSince_117 : decode cX11_voidSince 117 = .ok (.iload_n 2, 1) := by decide +kernel
theorem dX11_voidSince_118 : decode cX11_voidSince 118 = .ok (.invokevirtual 486, 3) := by decide +kernel
theorem dX11_voidSince_121 : decode cX11_voidSince 121 = .ok (.ireturn, 1) := by decide +kernel
theorem dX11_bestShifts_0 : decode cX11_bestShifts 0 = .ok (.aload_n 0, 1) := by decide +kernel
theorem dX11_bestShifts_1 : decode cX11_bestShifts 1 = .ok (.getfield 64, 3) := by decide +kernel
theorem dX11_bestShifts_4 : decode cX11_bestShifts 4 = .ok (.aload_n 0, 1) := by decide +kernel
theorem dX11_bestShifts_5 : decode cX11_bestShifts 5 = .ok (.getfield 19, 3) := by decide +kernel
theorem dX11_bestShifts_8 : decode cX11_bestShifts 8 = .ok (.iload_n 1, 1) := by decide +kernel
theorem dX11_bestShifts_9 : decode cX11_bestShifts 9 = .ok (.iload_n 2, 1) := by decide +kernel
theorem dX11_bestShifts_10 : decode cX11_bestShifts 10 = .ok (.aload_n 0, 1) := by decide +kernel
theorem dX11_bestShifts_11 : decode cX11_bestShifts 11 = .ok (.getfield 87, 3) := by decide +kernel
theorem dX11_bestShifts_14 : decode cX11_bestShifts 14 = .ok (.iconst 4, 1) := by decide +kernel
theorem dX11_bestShifts_15 : decode cX11_bestShifts 15 = .ok (.iaload, 1) := by decide +kernel
theorem dX11_bestShifts_16 : decode cX11_bestShifts 16 = .ok (.invokevirtual 489, 3) := by decide +kernel
theorem dX11_bestShifts_19 : decode cX11_bestShifts 19 = .ok (.ireturn, 1) := by decide +kernel
theorem dX11_countHolding_0 : decode cX11_countHolding 0 = .ok (.iconst 0, 1) := by decide +kernel
theorem dX11_countHolding_1 : decode cX11_countHolding 1 = .ok (.istore_n 1, 1) := by decide +kernel
theorem dX11_countHolding_2 : decode cX11_countHolding 2 = .ok (.iconst 0, 1) := by decide +kernel
theorem dX11_countHolding_3 : decode cX11_countHolding 3 = .ok (.istore_n 2, 1) := by decide +kernel
theorem dX11_countHolding_4 : decode cX11_countHolding 4 = .ok (.iload_n 2, 1) := by decide +kernel
theorem dX11_countHolding_5 : decode cX11_countHolding 5 = .ok (.aload_n 0, 1) := by decide +kernel
theorem dX11_countHolding_6 : decode cX11_countHolding 6 = .ok (.getfield 50, 3) := by decide +kernel
theorem dX11_countHolding_9 : decode cX11_countHolding 9 = .ok (.getfield 303, 3) := by decide +kernel
theorem dX11_countHolding_12 : decode cX11_countHolding 12 = .ok (.if_icmp .ge 20, 3) := by decide +kernel
theorem dX11_countHolding_15 : decode cX11_countHolding 15 = .ok (.aload_n 0, 1) := by decide +kernel
theorem dX11_countHolding_16 : decode cX11_countHolding 16 = .ok (.iload_n 2, 1) := by decide +kernel
theorem dX11_countHolding_17 : decode cX11_countHolding 17 = .ok (.invokevirtual 324, 3) := by decide +kernel
theorem dX11_countHolding_20 : decode cX11_countHolding 20 = .ok (.ifCond .eq 6, 3) := by decide +kernel
theorem dX11_countHolding_23 : decode cX11_countHolding 23 = .ok (.iinc 1 1, 3) := by decide +kernel
theorem dX11_countHolding_26 : decode cX11_countHolding 26 = .ok (.iinc 2 1, 3) := by decide +kernel
theorem dX11_countHolding_29 : decode cX11_countHolding 29 = .ok (.goto (-25), 3) := by decide +kernel
theorem dX11_countHolding_32 : decode cX11_countHolding 32 = .ok (.iload_n 1, 1) := by decide +kernel
theorem dX11_countHolding_33 : decode cX11_countHolding 33 = .ok (.ireturn, 1) := by decide +kernel
theorem dX11_countVoid_0 : decode cX11_countVoid 0 = .ok (.iconst 0, 1) := by decide +kernel
theorem dX11_countVoid_1 : decode cX11_countVoid 1 = .ok (.istore_n 1, 1) := by decide +kernel
theorem dX11_countVoid_2 : decode cX11_countVoid 2 = .ok (.iconst 0, 1) := by decide +kernel
theorem dX11_countVoid_3 : decode cX11_countVoid 3 = .ok (.istore_n 2, 1) := by decide +kernel
theorem dX11_countVoid_4 : decode cX11_countVoid 4 = .ok (.iload_n 2, 1) := by decide +kernel
theorem dX11_countVoid_5 : decode cX11_countVoid 5 = .ok (.aload_n 0, 1) := by decide +kernel
theorem dX11_countVoid_6 : decode cX11_countVoid 6 = .ok (.getfield 57, 3) := by decide +kernel
theorem dX11_countVoid_9 : decode cX11_countVoid 9 = .ok (.getfield 354, 3) := by decide +kernel
theorem dX11_countVoid_12 : decode cX11_countVoid 12 = .ok (.if_icmp .ge 22, 3) := by decide +kernel
theorem dX11_countVoid_15 : decode cX11_countVoid 15 = .ok (.aload_n 0, 1) := by decide +kernel
theorem dX11_countVoid_16 : decode cX11_countVoid 16 = .ok (.iload_n 2, 1) := by decide +kernel
theorem dX11_countVoid_17 : decode cX11_countVoid 17 = .ok (.invokevirtual 361, 3) := by decide +kernel
theorem dX11_countVoid_20 : decode cX11_countVoid 20 = .ok (.bipush (-9), 2) := by decide +kernel
theorem dX11_countVoid_22 : decode cX11_countVoid 22 = .ok (.if_icmp .eq 6, 3) := by decide +kernel
theorem dX11_countVoid_25 : decode cX11_countVoid 25 = .ok (.iinc 1 1, 3) := by decide +kernel
theorem dX11_countVoid_28 : decode cX11_countVoid 28 = .ok (.iinc 2 1, 3) := by decide +kernel
theorem dX11_countVoid_31 : decode cX11_countVoid 31 = .ok (.goto (-27), 3) := by decide +kernel
theorem dX11_countVoid_34 : decode cX11_countVoid 34 = .ok (.iload_n 1, 1) := by decide +kernel
theorem dX11_countVoid_35 : decode cX11_countVoid 35 = .ok (.ireturn, 1) := by decide +kernel
