theorem dX11_readAll_19 : decode cX11_readAll 19 = .ok (.iconst 0, 1) := by decide +kernel
theorem dX11_readAll_20 : decode cX11_readAll 20 = .ok (.putfield 224, 3) := by decide +kernel
theorem dX11_readAll_23 : decode cX11_readAll 23 = .ok (.aload_n 0, 1) := by decide +kernel
theorem dX11_readAll_24 : decode cX11_readAll 24 = .ok (.iconst (-1), 1) := by decide +kernel
theorem dX11_readAll_25 : decode cX11_readAll 25 = .ok (.putfield 13, 3) := by decide +kernel
theorem dX11_readAll_28 : decode cX11_readAll 28 = .ok (.aload_n 0, 1) := by decide +kernel
theorem dX11_readAll_29 : decode cX11_readAll 29 = .ok (.iconst 0, 1) := by decide +kernel
theorem dX11_readAll_30 : decode cX11_readAll 30 = .ok (.putfield 382, 3) := by decide +kernel
theorem dX11_readAll_33 : decode cX11_readAll 33 = .ok (.aload_n 0, 1) := by decide +kernel
theorem dX11_readAll_34 : decode cX11_readAll 34 = .ok (.iconst 0, 1) := by decide +kernel
theorem dX11_readAll_35 : decode cX11_readAll 35 = .ok (.putfield 385, 3) := by decide +kernel
theorem dX11_readAll_38 : decode cX11_readAll 38 = .ok (.aload_n 0, 1) := by decide +kernel
theorem dX11_readAll_39 : decode cX11_readAll 39 = .ok (.iconst 0, 1) := by decide +kernel
theorem dX11_readAll_40 : decode cX11_readAll 40 = .ok (.putfield 388, 3) := by decide +kernel
theorem dX11_readAll_43 : decode cX11_readAll 43 = .ok (.aload_n 0, 1) := by decide +kernel
theorem dX11_readAll_44 : decode cX11_readAll 44 = .ok (.iconst 0, 1) := by decide +kernel
theorem dX11_readAll_45 : decode cX11_readAll 45 = .ok (.putfield 394, 3) := by decide +kernel
theorem dX11_readAll_48 : decode cX11_readAll 48 = .ok (.aload_n 0, 1) := by decide +kernel
theorem dX11_readAll_49 : decode cX11_readAll 49 = .ok (.iconst 0, 1) := by decide +kernel
theorem dX11_readAll_50 : decode cX11_readAll 50 = .ok (.putfield 400, 3) := by decide +kernel
theorem dX11_readAll_53 : decode cX11_readAll 53 = .ok (.aload_n 0, 1) := by decide +kernel
theorem dX11_readAll_54 : decode cX11_readAll 54 = .ok (.iconst 0, 1) := by decide +kernel
theorem dX11_readAll_55 : decode cX11_readAll 55 = .ok (.putfield 409, 3) := by decide +kernel
theorem dX11_readAll_58 : decode cX11_readAll 58 = .ok (.aload_n 0, 1) := by decide +kernel
theorem dX11_readAll_59 : decode cX11_readAll 59 = .ok (.iconst 0, 1) := by decide +kernel
theorem dX11_readAll_60 : decode cX11_readAll 60 = .ok (.putfield 419, 3) := by decide +kernel
theorem dX11_readAll_63 : decode cX11_readAll 63 = .ok (.aload_n 0, 1) := by decide +kernel
theorem dX11_readAll_64 : decode cX11_readAll 64 = .ok (.iconst 0, 1) := by decide +kernel
theorem dX11_readAll_65 : decode cX11_readAll 65 = .ok (.putfield 415, 3) := by decide +kernel
theorem dX11_readAll_68 : decode cX11_readAll 68 = .ok (.aload_n 0, 1) := by decide +kernel
theorem dX11_readAll_69 : decode cX11_readAll 69 = .ok (.bipush 10, 2) := by decide +kernel
theorem dX11_readAll_71 : decode cX11_readAll 71 = .ok (.putfield 425, 3) := by decide +kernel
theorem dX11_readAll_74 : decode cX11_readAll 74 = .ok (.aload_n 0, 1) := by decide +kernel
theorem dX11_readAll_75 : decode cX11_readAll 75 = .ok (.iconst 0, 1) := by decide +kernel
theorem dX11_readAll_76 : decode cX11_readAll 76 = .ok (.putfield 422, 3) := by decide +kernel
theorem dX11_readAll_79 : decode cX11_readAll 79 = .ok (.aload_n 0, 1) := by decide +kernel
theorem dX11_readAll_80 : decode cX11_readAll 80 = .ok (.iconst 0, 1) := by decide +kernel
theorem dX11_readAll_81 : decode cX11_readAll 81 = .ok (.putfield 317, 3) := by decide +kernel
theorem dX11_readAll_84 : decode cX11_readAll 84 = .ok (.aload_n 0, 1) := by decide +kernel
theorem dX11_readAll_85 : decode cX11_readAll 85 = .ok (.invokevirtual 287, 3) := by decide +kernel
theorem dX11_readAll_88 : decode cX11_readAll 88 = .ok (.aload_n 0, 1) := by decide +kernel
theorem dX11_readAll_89 : decode cX11_readAll 89 = .ok (.getfield 224, 3) := by decide +kernel
theorem dX11_readAll_92 : decode cX11_readAll 92 = .ok (.ifCond .ne 17, 3) := by decide +kernel
theorem dX11_readAll_95 : decode cX11_readAll 95 = .ok (.aload_n 0, 1) := by decide +kernel
theorem dX11_readAll_96 : decode cX11_readAll 96 = .ok (.getfield 211, 3) := by decide +kernel
theorem dX11_readAll_99 : decode cX11_readAll 99 = .ok (.ifCond .eq 10, 3) := by decide +kernel
theorem dX11_readAll_102 : decode cX11_readAll 102 = .ok (.aload_n 0, 1) := by decide +kernel
theorem dX11_readAll_103 : decode cX11_readAll 103 = .ok (.invokevirtual 449, 3) := by decide +kernel
theorem dX11_readAll_106 : decode cX11_readAll 106 = .ok (.goto (-18), 3) := by decide +kernel
theorem dX11_readAll_109 : decode cX11_readAll 109 = .ok (.return_, 1) := by decide +kernel
theorem dX11_tub_0 : decode cX11_tub 0 = .ok (.aload_n 0, 1) := by decide +kernel
theorem dX11_tub_1 : decode cX11_tub 1 = .ok (.invokevirtual 452, 3) := by decide +kernel
theorem dX11_tub_4 : decode cX11_tub 4 = .ok (.aload_n 0, 1) := by decide +kernel
theorem dX11_tub_5 : decode cX11_tub 5 = .ok (.getfield 224, 3) := by decide +kernel
theorem dX11_tub_8 : decode cX11_tub 8 = .ok (.ifCond .le 5, 3) := by decide +kernel
theorem dX11_tub_11 : decode cX11_tub 11 = .ok (.iconst (-1), 1) := by decide +kernel
theorem dX11_tub_12 : decode cX11_tub 12 = .ok (.ireturn, 1) := by decide +kernel
theorem dX11_tub_13 : decode cX11_tub 13 = .ok (.aload_n 0, 1) := by decide +kernel
theorem dX11_tub_14 : decode cX11_tub 14 = .ok (.aload_n 0, 1) := by decide +kernel
theorem dX11_tub_15 : decode cX11_tub 15 = .ok (.getfield 382, 3) := by decide +kernel
theorem dX11_tub_18 : decode cX11_tub 18 = .ok (.putfield 455, 3) := by decide +kernel
theorem dX11_tub_21 : decode cX11_tub 21 = .ok (.aload_n 0, 1) := by decide +kernel
theorem dX11_tub_22 : decode cX11_tub 22 = .ok (.aload_n 0, 1) := by decide +kernel
theorem dX11_tub_23 : decode cX11_tub 23 = .ok (.getfield 385, 3) := by decide +kernel
theorem dX11_tub_26 : decode cX11_tub 26 = .ok (.putfield 458, 3) := by decide +kernel
theorem dX11_tub_29 : decode cX11_tub 29 = .ok (.aload_n 0, 1) := by decide +kernel
theorem dX11_tub_30 : decode cX11_tub 30 = .ok (.aload_n 0, 1) := by decide +kernel
theorem dX11_tub_31 : decode cX11_tub 31 = .ok (.getfield 388, 3) := by decide +kernel
theorem dX11_tub_34 : decode cX11_tub 34 = .ok (.putfield 461, 3) := by decide +kernel
theorem dX11_tub_37 : decode cX11_tub 37 = .ok (.aload_n 0, 1) := by decide +kernel
theorem dX11_tub_38 : decode cX11_tub 38 = .ok (.aload_n 0, 1) := by decide +kernel
theorem dX11_tub_39 : decode cX11_tub 39 = .ok (.getfield 394, 3) := by decide +kernel
theorem dX11_tub_42 : decode cX11_tub 42 = .ok (.putfield 464, 3) := by decide +kernel
theorem dX11_tub_45 : decode cX11_tub 45 = .ok (.aload_n 0, 1) := by decide +kernel
theorem dX11_tub_46 : decode cX11_tub 46 = .ok (.aload_n 0, 1) := by decide +kernel
theorem dX11_tub_47 : decode cX11_tub 47 = .ok (.getfield 400, 3) := by decide +kernel
theorem dX11_tub_50 : decode cX11_tub 50 = .ok (.putfield 467, 3) := by decide +kernel
theorem dX11_tub_53 : decode cX11_tub 53 = .ok (.aload_n 0, 1) := by decide +kernel
theorem dX11_tub_54 : decode cX11_tub 54 = .ok (.aload_n 0, 1) := by decide +kernel
theorem dX11_tub_55 : decode cX11_tub 55 = .ok (.getfield 409, 3) := by decide +kernel
theorem dX11_tub_58 : decode cX11_tub 58 = .ok (.putfield 470, 3) := by decide +kernel
theorem dX11_tub_61 : decode cX11_tub 61 = .ok (.aload_n 0, 1) := by decide +kernel
theorem dX11_tub_62 : decode cX11_tub 62 = .ok (.aload_n 0, 1) := by decide +kernel
theorem dX11_tub_63 : decode cX11_tub 63 = .ok (.getfield 425, 3) := by decide +kernel
theorem dX11_tub_66 : decode cX11_tub 66 = .ok (.putfield 118, 3) := by decide +kernel
theorem dX11_tub_69 : decode cX11_tub 69 = .ok (.aload_n 0, 1) := by decide +kernel
theorem dX11_tub_70 : decode cX11_tub 70 = .ok (.aload_n 0, 1) := by decide +kernel
theorem dX11_tub_71 : decode cX11_tub 71 = .ok (.getfield 317, 3) := by decide +kernel
theorem dX11_tub_74 : decode cX11_tub 74 = .ok (.putfield 473, 3) := by decide +kernel
theorem dX11_tub_77 : decode cX11_tub 77 = .ok (.iconst 0, 1) := by decide +kernel
theorem dX11_tub_78 : decode cX11_tub 78 = .ok (.istore_n 1, 1) := by decide +kernel
theorem dX11_tub_79 : decode cX11_tub 79 = .ok (.iload_n 1, 1) := by decide +kernel
theorem dX11_tub_80 : decode cX11_tub 80 = .ok (.bipush 11, 2) := by decide +kernel
theorem dX11_tub_82 : decode cX11_tub 82 = .ok (.if_icmp .ge 73, 3) := by decide +kernel
theorem dX11_tub_85 : decode cX11_tub 85 = .ok (.aload_n 0, 1) := by decide +kernel
theorem dX11_tub_86 : decode cX11_tub 86 = .ok (.getfield 32, 3) := by decide +kernel
theorem dX11_tub_89 : decode cX11_tub 89 = .ok (.iload_n 1, 1) := by decide +kernel
theorem dX11_tub_90 : decode cX11_tub 90 = .ok (.aload_n 0, 1) := by decide +kernel
theorem dX11_tub_91 : decode cX11_tub 91 = .ok (.getfield 23, 3) := by decide +kernel
theorem dX11_tub_94 : decode cX11_tub 94 = .ok (.iload_n 1, 1) := by decide +kernel
theorem dX11_tub_95 : decode cX11_tub 95 = .ok (.iaload, 1) := by decide +kernel
theorem dX11_tub_96 : decode cX11_tub 96 = .ok (.iastore, 1) := by decide +kernel
theorem dX11_tub_97 : decode cX11_tub 97 = .ok (.sipush 320, 3) := by decide +kernel
theorem dX11_tub_100 : decode cX11_tub 100 = .ok (.iload_n 1, 1) := by decide +kernel
theorem dX11_tub_101 : decode cX11_tub 101 = .ok (.imul, 1) := by decide +kernel
theorem dX11_tub_102 : decode cX11_tub 102 = .ok (.istore_n 2, 1) := by decide +kernel
theorem dX11_tub_103 : decode cX11_tub 103 = .ok (.iload_n 2, 1) := by decide +kernel
theorem dX11_tub_104 : decode cX11_tub 104 = .ok (.sipush 320, 3) := by decide +kernel
theorem dX11_tub_107 : decode cX11_tub 107 = .ok (.iload_n 1, 1) := by decide +kernel
theorem dX11_tub_108 : decode cX11_tub 108 = .ok (.imul, 1) := by decide +kernel
theorem dX11_tub_109 : decode cX11_tub 109 = .ok (.aload_n 0, 1) := by decide +kernel
theorem dX11_tub_110 : decode cX11_tub 110 = .ok (.getfield 32, 3) := by decide +kernel
theorem dX11_tub_113 : decode cX11_tub 113 = .ok (.iload_n 1, 1) := by decide +kernel
theorem dX11_tub_114 : decode cX11_tub 114 = .ok (.iaload, 1) := by decide +kernel
theorem dX11_tub_115 : decode cX11_tub 115 = .ok (.iadd, 1) := by decide +kernel
theorem dX11_tub_116 : decode cX11_tub 116 = .ok (.if_icmp .ge 33, 3) := by decide +kernel
theorem dX11_tub_119 : decode cX11_tub 119 = .ok (.aload_n 0, 1) := by decide +kernel
theorem dX11_tub_120 : decode cX11_tub 120 = .ok (.getfield 26, 3) := by decide +kernel
theorem dX11_tub_123 : decode cX11_tub 123 = .ok (.iload_n 2, 1) := by decide +kernel
theorem dX11_tub_124 : decode cX11_tub 124 = .ok (.aload_n 0, 1) := by decide +kernel
theorem dX11_tub_125 : decode cX11_tub 125 = .ok (.getfield 17, 3) := by decide +kernel
theorem dX11_tub_128 : decode cX11_tub 128 = .ok (.iload_n 2, 1) := by decide +kernel
theorem dX11_tub_129 : decode cX11_tub 129 = .ok (.iaload, 1) := by decide +kernel
theorem dX11_tub_130 : decode cX11_tub 130 = .ok (.iastore, 1) := by decide +kernel
theorem dX11_tub_131 : decode cX11_tub 131 = .ok (.aload_n 0, 1) := by decide +kernel
theorem dX11_tub_132 : decode cX11_tub 132 = .ok (.getfield 29, 3) := by decide +kernel
theorem dX11_tub_135 : decode cX11_tub 135 = .ok (.iload_n 2, 1) := by decide +kernel
theorem dX11_tub_136 : decode cX11_tub 136 = .ok (.aload_n 0, 1) := by decide +kernel
theorem dX11_tub_137 : decode cX11_tub 137 = .ok (.getfield 20, 3) := by decide +kernel
theorem dX11_tub_140 : decode cX11_tub 140 = .ok (.iload_n 2, 1) := by decide +kernel
theorem dX11_tub_141 : decode cX11_tub 141 = .ok (.iaload, 1) := by decide +kernel
theorem dX11_tub_142 : decode cX11_tub 142 = .ok (.iastore, 1) := by decide +kernel
theorem dX11_tub_143 : decode cX11_tub 143 = .ok (.iinc 2 1, 3) := by decide +kernel
theorem dX11_tub_146 : decode cX11_tub 146 = .ok (.goto (-43), 3) := by decide +kernel
theorem dX11_tub_149 : decode cX11_tub 149 = .ok (.iinc 1 1, 3) := by decide +kernel
theorem dX11_tub_152 : decode cX11_tub 152 = .ok (.goto (-73), 3) := by decide +kernel
theorem dX11_tub_155 : decode cX11_tub 155 = .ok (.iconst 0, 1) := by decide +kernel
theorem dX11_tub_156 : decode cX11_tub 156 = .ok (.istore_n 1, 1) := by decide +kernel
theorem dX11_tub_157 : decode cX11_tub 157 = .ok (.iload_n 1, 1) := by decide +kernel
theorem dX11_tub_158 : decode cX11_tub 158 = .ok (.bipush 10, 2) := by decide +kernel
theorem dX11_tub_160 : decode cX11_tub 160 = .ok (.if_icmp .ge 81, 3) := by decide +kernel
theorem dX11_tub_163 : decode cX11_tub 163 = .ok (.aload_n 0, 1) := by decide +kernel
theorem dX11_tub_164 : decode cX11_tub 164 = .ok (.getfield 82, 3) := by decide +kernel
theorem dX11_tub_167 : decode cX11_tub 167 = .ok (.iload_n 1, 1) := by decide +kernel
theorem dX11_tub_168 : decode cX11_tub 168 = .ok (.aload_n 0, 1) := by decide +kernel
theorem dX11_tub_169 : decode cX11_tub 169 = .ok (.getfield 45, 3) := by decide +kernel
theorem dX11_tub_172 : decode cX11_tub 172 = .ok (.iload_n 1, 1) := by decide +kernel
theorem dX11_tub_173 : decode cX11_tub 173 = .ok (.iaload, 1) := by decide +kernel
theorem dX11_tub_174 : decode cX11_tub 174 = .ok (.iastore, 1) := by decide +kernel
theorem dX11_tub_175 : decode cX11_tub 175 = .ok (.aload_n 0, 1) := by decide +kernel
theorem dX11_tub_176 : decode cX11_tub 176 = .ok (.getfield 85, 3) := by decide +kernel
theorem dX11_tub_179 : decode cX11_tub 179 = .ok (.iload_n 1, 1) := by decide +kernel
theorem dX11_tub_180 : decode cX11_tub 180 = .ok (.aload_n 0, 1) := by decide +kernel
theorem dX11_tub_181 : decode cX11_tub 181 = .ok (.getfield 48, 3) := by decide +kernel
theorem dX11_tub_184 : decode cX11_tub 184 = .ok (.iload_n 1, 1) := by decide +kernel
theorem dX11_tub_185 : decode cX11_tub 185 = .ok (.iaload, 1) := by decide +kernel
theorem dX11_tub_186 : decode cX11_tub 186 = .ok (.iastore, 1) := by decide +kernel
theorem dX11_tub_187 : decode cX11_tub 187 = .ok (.aload_n 0, 1) := by decide +kernel
theorem dX11_tub_188 : decode cX11_tub 188 = .ok (.getfield 88, 3) := by decide +kernel
theorem dX11_tub_191 : decode cX11_tub 191 = .ok (.iload_n 1, 1) := by decide +kernel
theorem dX11_tub_192 : decode cX11_tub 192 = .ok (.aload_n 0, 1) := by decide +kernel
theorem dX11_tub_193 : decode cX11_tub 193 = .ok (.getfield 51, 3) := by decide +kernel
theorem dX11_tub_196 : decode cX11_tub 196 = .ok (.iload_n 1, 1) := by decide +kernel
theorem dX11_tub_197 : decode cX11_tub 197 = .ok (.iaload, 1) := by decide +kernel
theorem dX11_tub_198 : decode cX11_tub 198 = .ok (.iastore, 1) := by decide +kernel
theorem dX11_tub_199 : decode cX11_tub 199 = .ok (.aload_n 0, 1) := by decide +kernel
theorem dX11_tub_200 : decode cX11_tub 200 = .ok (.getfield 91, 3) := by decide +kernel
theorem dX11_tub_203 : decode cX11_tub 203 = .ok (.iload_n 1, 1) := by decide +kernel
theorem dX11_tub_204 : decode cX11_tub 204 = .ok (.aload_n 0, 1) := by decide +kernel
theorem dX11_tub_205 : decode cX11_tub 205 = .ok (.getfield 54, 3) := by decide +kernel
theorem dX11_tub_208 : decode cX11_tub 208 = .ok (.iload_n 1, 1) := by decide +kernel
theorem dX11_tub_209 : decode cX11_tub 209 = .ok (.iaload, 1) := by decide +kernel
theorem dX11_tub_210 : decode cX11_tub 210 = .ok (.iastore, 1) := by decide +kernel
theorem dX11_tub_211 : decode cX11_tub 211 = .ok (.aload_n 0, 1) := by decide +kernel
theorem dX11_tub_212 : decode cX11_tub 212 = .ok (.getfield 94, 3) := by decide +kernel
theorem dX11_tub_215 : decode cX11_tub 215 = .ok (.iload_n 1, 1) := by decide +kernel
theorem dX11_tub_216 : decode cX11_tub 216 = .ok (.aload_n 0, 1) := by decide +kernel
theorem dX11_tub_217 : decode cX11_tub 217 = .ok (.getfield 57, 3) := by decide +kernel
theorem dX11_tub_220 : decode cX11_tub 220 = .ok (.iload_n 1, 1) := by decide +kernel
theorem dX11_tub_221 : decode cX11_tub 221 = .ok (.iaload, 1) := by decide +kernel
theorem dX11_tub_222 : decode cX11_tub 222 = .ok (.iastore, 1) := by decide +kernel
theorem dX11_tub_223 : decode cX11_tub 223 = .ok (.aload_n 0, 1) := by decide +kernel
theorem dX11_tub_224 : decode cX11_tub 224 = .ok (.getfield 115, 3) := by decide +kernel
theorem dX11_tub_227 : decode cX11_tub 227 = .ok (.iload_n 1, 1) := by decide +kernel
theorem dX11_tub_228 : decode cX11_tub 228 = .ok (.aload_n 0, 1) := by decide +kernel
theorem dX11_tub_229 : decode cX11_tub 229 = .ok (.getfield 78, 3) := by decide +kernel
theorem dX11_tub_232 : decode cX11_tub 232 = .ok (.iload_n 1, 1) := by decide +kernel
theorem dX11_tub_233 : decode cX11_tub 233 = .ok (.baload, 1) := by decide +kernel
theorem dX11_tub_234 : decode cX11_tub 234 = .ok (.bastore, 1) := by decide +kernel
theorem dX11_tub_235 : decode cX11_tub 235 = .ok (.iinc 1 1, 3) := by decide +kernel
theorem dX11_tub_238 : decode cX11_tub 238 = .ok (.goto (-81), 3) := by decide +kernel
theorem dX11_tub_241 : decode cX11_tub 241 = .ok (.iconst 0, 1) := by decide +kernel
theorem dX11_tub_242 : decode cX11_tub 242 = .ok (.istore_n 1, 1) := by decide +kernel
theorem dX11_tub_243 : decode cX11_tub 243 = .ok (.iload_n 1, 1) := by decide +kernel
theorem dX11_tub_244 : decode cX11_tub 244 = .ok (.iconst 4, 1) := by decide +kernel
theorem dX11_tub_245 : decode cX11_tub 245 = .ok (.if_icmp .ge 81, 3) := by decide +kernel
theorem dX11_tub_248 : decode cX11_tub 248 = .ok (.aload_n 0, 1) := by decide +kernel
theorem dX11_tub_249 : decode cX11_tub 249 = .ok (.getfield 97, 3) := by decide +kernel
theorem dX11_tub_252 : decode cX11_tub 252 = .ok (.iload_n 1, 1) := by decide +kernel
theorem dX11_tub_253 : decode cX11_tub 253 = .ok (.aload_n 0, 1) := by decide +kernel
theorem dX11_tub_254 : decode cX11_tub 254 = .ok (.getfield 60, 3) := by decide +kernel
theorem dX11_tub_257 : decode cX11_tub 257 = .ok (.iload_n 1, 1) := by decide +kernel
theorem dX11_tub_258 : decode cX11_tub 258 = .ok (.iaload, 1) := by decide +kernel
theorem dX11_tub_259 : decode cX11_tub 259 = .ok (.iastore, 1) := by decide +kernel
theorem dX11_tub_260 : decode cX11_tub 260 = .ok (.aload_n 0, 1) := by decide +kernel
theorem dX11_tub_261 : decode cX11_tub 261 = .ok (.getfield 100, 3) := by decide +kernel
theorem dX11_tub_264 : decode cX11_tub 264 = .ok (.iload_n 1, 1) := by decide +kernel
theorem dX11_tub_265 : decode cX11_tub 265 = .ok (.aload_n 0, 1) := by decide +kernel
theorem dX11_tub_266 : decode cX11_tub 266 = .ok (.getfield 63, 3) := by decide +kernel
theorem dX11_tub_269 : decode cX11_tub 269 = .ok (.iload_n 1, 1) := by decide +kernel
theorem dX11_tub_270 : decode cX11_tub 270 = .ok (.iaload, 1) := by decide +kernel
theorem dX11_tub_271 : decode cX11_tub 271 = .ok (.iastore, 1) := by decide +kernel
theorem dX11_tub_272 : decode cX11_tub 272 = .ok (.aload_n 0, 1) := by decide +kernel
theorem dX11_tub_273 : decode cX11_tub 273 = .ok (.getfield 103, 3) := by decide +kernel
theorem dX11_tub_276 : decode cX11_tub 276 = .ok (.iload_n 1, 1) := by decide +kernel
theorem dX11_tub_277 : decode cX11_tub 277 = .ok (.aload_n 0, 1) := by decide +kernel
theorem dX11_tub_278 : decode cX11_tub 278 = .ok (.getfield 66, 3) := by decide +kernel
theorem dX11_tub_281 : decode cX11_tub 281 = .ok (.iload_n 1, 1) := by decide +kernel
theorem dX11_tub_282 : decode cX11_tub 282 = .ok (.iaload, 1) := by decide +kernel
theorem dX11_tub_283 : decode cX11_tub 283 = .ok (.iastore, 1) := by decide +kernel
theorem dX11_tub_284 : decode cX11_tub 284 = .ok (.aload_n 0, 1) := by decide +kernel
theorem dX11_tub_285 : decode cX11_tub 285 = .ok (.getfield 106, 3) := by decide +kernel
theorem dX11_tub_288 : decode cX11_tub 288 = .ok (.iload_n 1, 1) := by decide +kernel
theorem dX11_tub_289 : decode cX11_tub 289 = .ok (.aload_n 0, 1) := by decide +kernel
theorem dX11_tub_290 : decode cX11_tub 290 = .ok (.getfield 69, 3) := by decide +kernel
theorem dX11_tub_293 : decode cX11_tub 293 = .ok (.iload_n 1, 1) := by decide +kernel
theorem dX11_tub_294 : decode cX11_tub 294 = .ok (.iaload, 1) := by decide +kernel
theorem dX11_tub_295 : decode cX11_tub 295 = .ok (.iastore, 1) := by decide +kernel
theorem dX11_tub_296 : decode cX11_tub 296 = .ok (.aload_n 0, 1) := by decide +kernel
theorem dX11_tub_297 : decode cX11_tub 297 = .ok (.getfield 109, 3) := by decide +kernel
theorem dX11_tub_300 : decode cX11_tub 300 = .ok (.iload_n 1, 1) := by decide +kernel
theorem dX11_tub_301 : decode cX11_tub 301 = .ok (.aload_n 0, 1) := by decide +kernel
theorem dX11_tub_302 : decode cX11_tub 302 = .ok (.getfield 72, 3) := by decide +kernel
theorem dX11_tub_305 : decode cX11_tub 305 = .ok (.iload_n 1, 1) := by decide +kernel
theorem dX11_tub_306 : decode cX11_tub 306 = .ok (.iaload, 1) := by decide +kernel
theorem dX11_tub_307 : decode cX11_tub 307 = .ok (.iastore, 1) := by decide +kernel
theorem dX11_tub_308 : decode cX11_tub 308 = .ok (.aload_n 0, 1) := by decide +kernel
theorem dX11_tub_309 : decode cX11_tub 309 = .ok (.getfield 112, 3) := by decide +kernel
theorem dX11_tub_312 : decode cX11_tub 312 = .ok (.iload_n 1, 1) := by decide +kernel
theorem dX11_tub_313 : decode cX11_tub 313 = .ok (.aload_n 0, 1) := by decide +kernel
theorem dX11_tub_314 : decode cX11_tub 314 = .ok (.getfield 75, 3) := by decide +kernel
theorem dX11_tub_317 : decode cX11_tub 317 = .ok (.iload_n 1, 1) := by decide +kernel
theorem dX11_tub_318 : decode cX11_tub 318 = .ok (.iaload, 1) := by decide +kernel
theorem dX11_tub_319 : decode cX11_tub 319 = .ok (.iastore, 1) := by decide +kernel
theorem dX11_tub_320 : decode cX11_tub 320 = .ok (.iinc 1 1, 3) := by decide +kernel
theorem dX11_tub_323 : decode cX11_tub 323 = .ok (.goto (-80), 3) := by decide +kernel
theorem dX11_tub_326 : decode cX11_tub 326 = .ok (.aload_n 0, 1) := by decide +kernel
theorem dX11_tub_327 : decode cX11_tub 327 = .ok (.invokevirtual 476, 3) := by decide +kernel
theorem dX11_tub_330 : decode cX11_tub 330 = .ok (.aload_n 0, 1) := by decide +kernel
theorem dX11_tub_331 : decode cX11_tub 331 = .ok (.getfield 121, 3) := by decide +kernel
theorem dX11_tub_334 : decode cX11_tub 334 = .ok (.bipush 62, 2) := by decide +kernel
theorem dX11_tub_336 : decode cX11_tub 336 = .ok (.aload_n 0, 1) := by decide +kernel
theorem dX11_tub_337 : decode cX11_tub 337 = .ok (.getfield 419, 3) := by decide +kernel
theorem dX11_tub_340 : decode cX11_tub 340 = .ok (.iastore, 1) := by decide +kernel
theorem dX11_tub_341 : decode cX11_tub 341 = .ok (.bipush 63, 2) := by decide +kernel
theorem dX11_tub_343 : decode cX11_tub 343 = .ok (.istore_n 1, 1) := by decide +kernel
theorem dX11_tub_344 : decode cX11_tub 344 = .ok (.iload_n 1, 1) := by decide +kernel
theorem dX11_tub_345 : decode cX11_tub 345 = .ok (.bipush 123, 2) := by decide +kernel
theorem dX11_tub_347 : decode cX11_tub 347 = .ok (.if_icmp .ge 16, 3) := by decide +kernel
theorem dX11_tub_350 : decode cX11_tub 350 = .ok (.aload_n 0, 1) := by decide +kernel
theorem dX11_tub_351 : decode cX11_tub 351 = .ok (.getfield 121, 3) := by decide +kernel
theorem dX11_tub_354 : decode cX11_tub 354 = .ok (.iload_n 1, 1) := by decide +kernel
theorem dX11_tub_355 : decode cX11_tub 355 = .ok (.iconst 0, 1) := by decide +kernel
theorem dX11_tub_356 : decode cX11_tub 356 = .ok (.iastore, 1) := by decide +kernel
theorem dX11_tub_357 : decode cX11_tub 357 = .ok (.iinc 1 1, 3) := by decide +kernel
theorem dX11_tub_360 : decode cX11_tub 360 = .ok (.goto (-16), 3) := by decide +kernel
theorem dX11_tub_363 : decode cX11_tub 363 = .ok (.aload_n 0, 1) := by decide +kernel
theorem dX11_tub_364 : decode cX11_tub 364 = .ok (.invokevirtual 479, 3) := by decide +kernel
theorem dX11_tub_367 : decode cX11_tub 367 = .ok (.aload_n 0, 1) := by decide +kernel
theorem dX11_tub_368 : decode cX11_tub 368 = .ok (.iconst 0, 1) := by decide +kernel
theorem dX11_tub_369 : decode cX11_tub 369 = .ok (.putfield 482, 3) := by decide +kernel
theorem dX11_tub_372 : decode cX11_tub 372 = .ok (.aload_n 0, 1) := by decide +kernel
theorem dX11_tub_373 : decode cX11_tub 373 = .ok (.iconst 0, 1) := by decide +kernel
theorem dX11_tub_374 : decode cX11_tub 374 = .ok (.putfield 485, 3) := by decide +kernel
theorem dX11_tub_377 : decode cX11_tub 377 = .ok (.aload_n 0, 1) := by decide +kernel
theorem dX11_tub_378 : decode cX11_tub 378 = .ok (.iconst 0, 1) := by decide +kernel
theorem dX11_tub_379 : decode cX11_tub 379 = .ok (.putfield 488, 3) := by decide +kernel
theorem dX11_tub_382 : decode cX11_tub 382 = .ok (.aload_n 0, 1) := by decide +kernel
theorem dX11_tub_383 : decode cX11_tub 383 = .ok (.iconst 0, 1) := by decide +kernel
theorem dX11_tub_384 : decode cX11_tub 384 = .ok (.putfield 491, 3) := by decide +kernel
theorem dX11_tub_387 : decode cX11_tub 387 = .ok (.iconst 0, 1) := by decide +kernel
theorem dX11_tub_388 : decode cX11_tub 388 = .ok (.istore_n 1, 1) := by decide +kernel
theorem dX11_tub_389 : decode cX11_tub 389 = .ok (.iload_n 1, 1) := by decide +kernel
theorem dX11_tub_390 : decode cX11_tub 390 = .ok (.iconst 3, 1) := by decide +kernel
theorem dX11_tub_391 : decode cX11_tub 391 = .ok (.if_icmp .ge 16, 3) := by decide +kernel
theorem dX11_tub_394 : decode cX11_tub 394 = .ok (.aload_n 0, 1) := by decide +kernel
theorem dX11_tub_395 : decode cX11_tub 395 = .ok (.getfield 178, 3) := by decide +kernel
theorem dX11_tub_398 : decode cX11_tub 398 = .ok (.iload_n 1, 1) := by decide +kernel
theorem dX11_tub_399 : decode cX11_tub 399 = .ok (.iconst 0, 1) := by decide +kernel
theorem dX11_tub_400 : decode cX11_tub 400 = .ok (.bastore, 1) := by decide +kernel
theorem dX11_tub_401 : decode cX11_tub 401 = .ok (.iinc 1 1, 3) := by decide +kernel
theorem dX11_tub_404 : decode cX11_tub 404 = .ok (.goto (-15), 3) := by decide +kernel
theorem dX11_tub_407 : decode cX11_tub 407 = .ok (.aload_n 0, 1) := by decide +kernel
theorem dX11_tub_408 : decode cX11_tub 408 = .ok (.getfield 467, 3) := by decide +kernel
theorem dX11_tub_411 : decode cX11_tub 411 = .ok (.ireturn, 1) := by decide +kernel
theorem dX11_fault_0 : decode cX11_fault 0 = .ok (.iload_n 1, 1) := by decide +kernel
theorem dX11_fault_1 : decode cX11_fault 1 = .ok (.ifCond .ne 10, 3) := by decide +kernel
theorem dX11_fault_4 : decode cX11_fault 4 = .ok (.aload_n 0, 1) := by decide +kernel
theorem dX11_fault_5 : decode cX11_fault 5 = .ok (.getfield 224, 3) := by decide +kernel
theorem dX11_fault_8 : decode cX11_fault 8 = .ok (.goto 16, 3) := by decide +kernel
theorem dX11_fault_11 : decode cX11_fault 11 = .ok (.iload_n 1, 1) := by decide +kernel
theorem dX11_fault_12 : decode cX11_fault 12 = .ok (.iconst 1, 1) := by decide +kernel
theorem dX11_fault_13 : decode cX11_fault 13 = .ok (.if_icmp .ne 10, 3) := by decide +kernel
theorem dX11_fault_16 : decode cX11_fault 16 = .ok (.aload_n 0, 1) := by decide +kernel
theorem dX11_fault_17 : decode cX11_fault 17 = .ok (.getfield 13, 3) := by decide +kernel
theorem dX11_fault_20 : decode cX11_fault 20 = .ok (.goto 4, 3) := by decide +kernel
theorem dX11_fault_23 : decode cX11_fault 23 = .ok (.iconst (-1), 1) := by decide +kernel
theorem dX11_fault_24 : decode cX11_fault 24 = .ok (.ireturn, 1) := by decide +kernel
theorem dX11_isIn_0 : decode cX11_isIn 0 = .ok (.iload_n 0, 1) := by decide +kernel
theorem dX11_isIn_1 : decode cX11_isIn 1 = .ok (.iload_n 1, 1) := by decide +kernel
theorem dX11_isIn_2 : decode cX11_isIn 2 = .ok (.if_icmp .lt 12, 3) := by decide +kernel
theorem dX11_isIn_5 : decode cX11_isIn 5 = .ok (.iload_n 0, 1) := by decide +kernel
theorem dX11_isIn_6 : decode cX11_isIn 6 = .ok (.iload_n 2, 1) := by decide +kernel
theorem dX11_isIn_7 : decode cX11_isIn 7 = .ok (.if_icmp .gt 7, 3) := by decide +kernel
theorem dX11_isIn_10 : decode cX11_isIn 10 = .ok (.iconst 1, 1) := by decide +kernel
theorem dX11_isIn_11 : decode cX11_isIn 11 = .ok (.goto 4, 3) := by decide +kernel
theorem dX11_isIn_14 : decode cX11_isIn 14 = .ok (.iconst 0, 1) := by decide +kernel
theorem dX11_isIn_15 : decode cX11_isIn 15 = .ok (.ireturn, 1) := by decide +kernel
theorem dX11_isApple_0 : decode cX11_isApple 0 = .ok (.iload_n 1, 1) := by decide +kernel
theorem dX11_isApple_1 : decode cX11_isApple 1 = .ok (.iconst 0, 1) := by decide +kernel
theorem dX11_isApple_2 : decode cX11_isApple 2 = .ok (.aload_n 0, 1) := by decide +kernel
theorem dX11_isApple_3 : decode cX11_isApple 3 = .ok (.getfield 467, 3) := by decide +kernel
theorem dX11_isApple_6 : decode cX11_isApple 6 = .ok (.iconst 1, 1) := by decide +kernel
theorem dX11_isApple_7 : decode cX11_isApple 7 = .ok (.isub, 1) := by decide +kernel
theorem dX11_isApple_8 : decode cX11_isApple 8 = .ok (.invokestatic 494, 3) := by decide +kernel
theorem dX11_isApple_11 : decode cX11_isApple 11 = .ok (.ireturn, 1) := by decide +kernel
theorem dX11_isBobber_0 : decode cX11_isBobber 0 = .ok (.iload_n 1, 1) := by decide +kernel
theorem dX11_isBobber_1 : decode cX11_isBobber 1 = .ok (.iconst 0, 1) := by decide +kernel
theorem dX11_isBobber_2 : decode cX11_isBobber 2 = .ok (.aload_n 0, 1) := by decide +kernel
theorem dX11_isBobber_3 : decode cX11_isBobber 3 = .ok (.getfield 470, 3) := by decide +kernel
theorem dX11_isBobber_6 : decode cX11_isBobber 6 = .ok (.iconst 1, 1) := by decide +kernel
theorem dX11_isBobber_7 : decode cX11_isBobber 7 = .ok (.isub, 1) := by decide +kernel
theorem dX11_isBobber_8 : decode cX11_isBobber 8 = .ok (.invokestatic 494, 3) := by decide +kernel
theorem dX11_isBobber_11 : decode cX11_isBobber 11 = .ok (.ireturn, 1) := by decide +kernel
theorem dX11_isRule_0 : decode cX11_isRule 0 = .ok (.iload_n 1, 1) := by decide +kernel
theorem dX11_isRule_1 : decode cX11_isRule 1 = .ok (.iconst 0, 1) := by decide +kernel
theorem dX11_isRule_2 : decode cX11_isRule 2 = .ok (.aload_n 0, 1) := by decide +kernel
theorem dX11_isRule_3 : decode cX11_isRule 3 = .ok (.getfield 464, 3) := by decide +kernel
theorem dX11_isRule_6 : decode cX11_isRule 6 = .ok (.iconst 1, 1) := by decide +kernel
theorem dX11_isRule_7 : decode cX11_isRule 7 = .ok (.isub, 1) := by decide +kernel
theorem dX11_isRule_8 : decode cX11_isRule 8 = .ok (.invokestatic 494, 3) := by decide +kernel
theorem dX11_isRule_11 : decode cX11_isRule 11 = .ok (.ireturn, 1) := by decide +kernel
theorem dX11_isCell_0 : decode cX11_isCell 0 = .ok (.iload_n 1, 1) := by decide +kernel
theorem dX11_isCell_1 : decode cX11_isCell 1 = .ok (.iconst 0, 1) := by decide +kernel
theorem dX11_isCell_2 : decode cX11_isCell 2 = .ok (.aload_n 0, 1) := by decide +kernel
theorem dX11_isCell_3 : decode cX11_isCell 3 = .ok (.getfield 455, 3) := by decide +kernel
theorem dX11_isCell_6 : decode cX11_isCell 6 = .ok (.iconst 1, 1) := by decide +kernel
theorem dX11_isCell_7 : decode cX11_isCell 7 = .ok (.isub, 1) := by decide +kernel
theorem dX11_isCell_8 : decode cX11_isCell 8 = .ok (.invokestatic 494, 3) := by decide +kernel
theorem dX11_isCell_11 : decode cX11_isCell 11 = .ok (.ifCond .eq 21, 3) := by decide +kernel
theorem dX11_isCell_14 : decode cX11_isCell 14 = .ok (.iload_n 2, 1) := by decide +kernel
theorem dX11_isCell_15 : decode cX11_isCell 15 = .ok (.iconst 0, 1) := by decide +kernel
theorem dX11_isCell_16 : decode cX11_isCell 16 = .ok (.aload_n 0, 1) := by decide +kernel
theorem dX11_isCell_17 : decode cX11_isCell 17 = .ok (.getfield 458, 3) := by decide +kernel
theorem dX11_isCell_20 : decode cX11_isCell 20 = .ok (.iconst 1, 1) := by decide +kernel
theorem dX11_isCell_21 : decode cX11_isCell 21 = .ok (.isub, 1) := by decide +kernel
theorem dX11_isCell_22 : decode cX11_isCell 22 = .ok (.invokestatic 494, 3) := by decide +kernel
theorem dX11_isCell_25 : decode cX11_isCell 25 = .ok (.ifCond .eq 7, 3) := by decide +kernel
theorem dX11_isCell_28 : decode cX11_isCell 28 = .ok (.iconst 1, 1) := by decide +kernel
theorem dX11_isCell_29 : decode cX11_isCell 29 = .ok (.goto 4, 3) := by decide +kernel
theorem dX11_isCell_32 : decode cX11_isCell 32 = .ok (.iconst 0, 1) := by decide +kernel
theorem dX11_isCell_33 : decode cX11_isCell 33 = .ok (.ireturn, 1) := by decide +kernel
theorem dX11_load_0 : decode cX11_load 0 = .ok (.iconst 0, 1) := by decide +kernel
theorem dX11_load_1 : decode cX11_load 1 = .ok (.istore_n 1, 1) := by decide +kernel
theorem dX11_load_2 : decode cX11_load 2 = .ok (.iload_n 1, 1) := by decide +kernel
theorem dX11_load_3 : decode cX11_load 3 = .ok (.bipush 123, 2) := by decide +kernel
theorem dX11_load_5 : decode cX11_load 5 = .ok (.if_icmp .ge 21, 3) := by decide +kernel
theorem dX11_load_8 : decode cX11_load 8 = .ok (.aload_n 0, 1) := by decide +kernel
theorem dX11_load_9 : decode cX11_load 9 = .ok (.getfield 121, 3) := by decide +kernel
theorem dX11_load_12 : decode cX11_load 12 = .ok (.iload_n 1, 1) := by decide +kernel
theorem dX11_load_13 : decode cX11_load 13 = .ok (.aload_n 0, 1) := by decide +kernel
theorem dX11_load_14 : decode cX11_load 14 = .ok (.getfield 124, 3) := by decide +kernel
theorem dX11_load_17 : decode cX11_load 17 = .ok (.iload_n 1, 1) := by decide +kernel
theorem dX11_load_18 : decode cX11_load 18 = .ok (.iaload, 1) := by decide +kernel
theorem dX11_load_19 : decode cX11_load 19 = .ok (.iastore, 1) := by decide +kernel
theorem dX11_load_20 : decode cX11_load 20 = .ok (.iinc 1 1, 3) := by decide +kernel
theorem dX11_load_23 : decode cX11_load 23 = .ok (.goto (-21), 3) := by decide +kernel
theorem dX11_load_26 : decode cX11_load 26 = .ok (.return_, 1) := by decide +kernel
theorem dX11_keep_0 : decode cX11_keep 0 = .ok (.iconst 0, 1) := by decide +kernel
theorem dX11_keep_1 : decode cX11_keep 1 = .ok (.istore_n 1, 1) := by decide +kernel
theorem dX11_keep_2 : decode cX11_keep 2 = .ok (.iload_n 1, 1) := by decide +kernel
theorem dX11_keep_3 : decode cX11_keep 3 = .ok (.bipush 123, 2) := by decide +kernel
theorem dX11_keep_5 : decode cX11_keep 5 = .ok (.if_icmp .ge 21, 3) := by decide +kernel
theorem dX11_keep_8 : decode cX11_keep 8 = .ok (.aload_n 0, 1) := by decide +kernel
theorem dX11_keep_9 : decode cX11_keep 9 = .ok (.getfield 124, 3) := by decide +kernel
theorem dX11_keep_12 : decode cX11_keep 12 = .ok (.iload_n 1, 1) := by decide +kernel
theorem dX11_keep_13 : decode cX11_keep 13 = .ok (.aload_n 0, 1) := by decide +kernel
theorem dX11_keep_14 : decode cX11_keep 14 = .ok (.getfield 121, 3) := by decide +kernel
theorem dX11_keep_17 : decode cX11_keep 17 = .ok (.iload_n 1, 1) := by decide +kernel
theorem dX11_keep_18 : decode cX11_keep 18 = .ok (.iaload, 1) := by decide +kernel
theorem dX11_keep_19 : decode cX11_keep 19 = .ok (.iastore, 1) := by decide +kernel
theorem dX11_keep_20 : decode cX11_keep 20 = .ok (.iinc 1 1, 3) := by decide +kernel
theorem dX11_keep_23 : decode cX11_keep 23 = .ok (.goto (-21), 3) := by decide +kernel
theorem dX11_keep_26 : decode cX11_keep 26 = .ok (.return_, 1) := by decide +kernel
theorem dX11_layTold_0 : decode cX11_layTold 0 = .ok (.iconst 0, 1) := by decide +kernel
theorem dX11_layTold_1 : decode cX11_layTold 1 = .ok (.istore_n 1, 1) := by decide +kernel
theorem dX11_layTold_2 : decode cX11_layTold 2 = .ok (.iload_n 1, 1) := by decide +kernel
theorem dX11_layTold_3 : decode cX11_layTold 3 = .ok (.bipush 10, 2) := by decide +kernel
theorem dX11_layTold_5 : decode cX11_layTold 5 = .ok (.if_icmp .ge 77, 3) := by decide +kernel
theorem dX11_layTold_8 : decode cX11_layTold 8 = .ok (.aload_n 0, 1) := by decide +kernel
theorem dX11_layTold_9 : decode cX11_layTold 9 = .ok (.getfield 121, 3) := by decide +kernel
theorem dX11_layTold_12 : decode cX11_layTold 12 = .ok (.iconst 5, 1) := by decide +kernel
theorem dX11_layTold_13 : decode cX11_layTold 13 = .ok (.iload_n 1, 1) := by decide +kernel
theorem dX11_layTold_14 : decode cX11_layTold 14 = .ok (.imul, 1) := by decide +kernel
theorem dX11_layTold_15 : decode cX11_layTold 15 = .ok (.aload_n 0, 1) := by decide +kernel
theorem dX11_layTold_16 : decode cX11_layTold 16 = .ok (.getfield 88, 3) := by decide +kernel
theorem dX11_layTold_19 : decode cX11_layTold 19 = .ok (.iload_n 1, 1) := by decide +kernel
theorem dX11_layTold_20 : decode cX11_layTold 20 = .ok (.iaload, 1) := by decide +kernel
theorem dX11_layTold_21 : decode cX11_layTold 21 = .ok (.iastore, 1) := by decide +kernel
theorem dX11_layTold_22 : decode cX11_layTold 22 = .ok (.aload_n 0, 1) := by decide +kernel
theorem dX11_layTold_23 : decode cX11_layTold 23 = .ok (.getfield 121, 3) := by decide +kernel
theorem dX11_layTold_26 : decode cX11_layTold 26 = .ok (.iconst 5, 1) := by decide +kernel
theorem dX11_layTold_27 : decode cX11_layTold 27 = .ok (.iload_n 1, 1) := by decide +kernel
theorem dX11_layTold_28 : decode cX11_layTold 28 = .ok (.imul, 1) := by decide +kernel
theorem dX11_layTold_29 : decode cX11_layTold 29 = .ok (.iconst 1, 1) := by decide +kernel
theorem dX11_layTold_30 : decode cX11_layTold 30 = .ok (.iadd, 1) := by decide +kernel
theorem dX11_layTold_31 : decode cX11_layTold 31 = .ok (.aload_n 0, 1) := by decide +kernel
theorem dX11_layTold_32 : decode cX11_layTold 32 = .ok (.getfield 91, 3) := by decide +kernel
theorem dX11_layTold_35 : decode cX11_layTold 35 = .ok (.iload_n 1, 1) := by decide +kernel
theorem dX11_layTold_36 : decode cX11_layTold 36 = .ok (.iaload, 1) := by decide +kernel
theorem dX11_layTold_37 : decode cX11_layTold 37 = .ok (.iastore, 1) := by decide +kernel
theorem dX11_layTold_38 : decode cX11_layTold 38 = .ok (.aload_n 0, 1) := by decide +kernel
theorem dX11_layTold_39 : decode cX11_layTold 39 = .ok (.getfield 121, 3) := by decide +kernel
theorem dX11_layTold_42 : decode cX11_layTold 42 = .ok (.iconst 5, 1) := by decide +kernel
theorem dX11_layTold_43 : decode cX11_layTold 43 = .ok (.iload_n 1, 1) := by decide +kernel
theorem dX11_layTold_44 : decode cX11_layTold 44 = .ok (.imul, 1) := by decide +kernel
theorem dX11_layTold_45 : decode cX11_layTold 45 = .ok (.iconst 2, 1) := by decide +kernel
theorem dX11_layTold_46 : decode cX11_layTold 46 = .ok (.iadd, 1) := by decide +kernel
theorem dX11_layTold_47 : decode cX11_layTold 47 = .ok (.iconst (-1), 1) := by decide +kernel
theorem dX11_layTold_48 : decode cX11_layTold 48 = .ok (.iastore, 1) := by decide +kernel
theorem dX11_layTold_49 : decode cX11_layTold 49 = .ok (.aload_n 0, 1) := by decide +kernel
theorem dX11_layTold_50 : decode cX11_layTold 50 = .ok (.getfield 121, 3) := by decide +kernel
theorem dX11_layTold_53 : decode cX11_layTold 53 = .ok (.iconst 5, 1) := by decide +kernel
theorem dX11_layTold_54 : decode cX11_layTold 54 = .ok (.iload_n 1, 1) := by decide +kernel
theorem dX11_layTold_55 : decode cX11_layTold 55 = .ok (.imul, 1) := by decide +kernel
theorem dX11_layTold_56 : decode cX11_layTold 56 = .ok (.iconst 3, 1) := by decide +kernel
theorem dX11_layTold_57 : decode cX11_layTold 57 = .ok (.iadd, 1) := by decide +kernel
theorem dX11_layTold_58 : decode cX11_layTold 58 = .ok (.iconst 0, 1) := by decide +kernel
theorem dX11_layTold_59 : decode cX11_layTold 59 = .ok (.iastore, 1) := by decide +kernel
theorem dX11_layTold_60 : decode cX11_layTold 60 = .ok (.aload_n 0, 1) := by decide +kernel
theorem dX11_layTold_61 : decode cX11_layTold 61 = .ok (.getfield 121, 3) := by decide +kernel
theorem dX11_layTold_64 : decode cX11_layTold 64 = .ok (.iconst 5, 1) := by decide +kernel
theorem dX11_layTold_65 : decode cX11_layTold 65 = .ok (.iload_n 1, 1) := by decide +kernel
theorem dX11_layTold_66 : decode cX11_layTold 66 = .ok (.imul, 1) := by decide +kernel
theorem dX11_layTold_67 : decode cX11_layTold 67 = .ok (.iconst 4, 1) := by decide +kernel
theorem dX11_layTold_68 : decode cX11_layTold 68 = .ok (.iadd, 1) := by decide +kernel
theorem dX11_layTold_69 : decode cX11_layTold 69 = .ok (.aload_n 0, 1) := by decide +kernel
theorem dX11_layTold_70 : decode cX11_layTold 70 = .ok (.getfield 82, 3) := by decide +kernel
theorem dX11_layTold_73 : decode cX11_layTold 73 = .ok (.iload_n 1, 1) := by decide +kernel
theorem dX11_layTold_74 : decode cX11_layTold 74 = .ok (.iaload, 1) := by decide +kernel
theorem dX11_layTold_75 : decode cX11_layTold 75 = .ok (.iastore, 1) := by decide +kernel
theorem dX11_layTold_76 : decode cX11_layTold 76 = .ok (.iinc 1 1, 3) := by decide +kernel
theorem dX11_layTold_79 : decode cX11_layTold 79 = .ok (.goto (-77), 3) := by decide +kernel
theorem dX11_layTold_82 : decode cX11_layTold 82 = .ok (.iconst 0, 1) := by decide +kernel
theorem dX11_layTold_83 : decode cX11_layTold 83 = .ok (.istore_n 1, 1) := by decide +kernel
theorem dX11_layTold_84 : decode cX11_layTold 84 = .ok (.iload_n 1, 1) := by decide +kernel
theorem dX11_layTold_85 : decode cX11_layTold 85 = .ok (.iconst 4, 1) := by decide +kernel
theorem dX11_layTold_86 : decode cX11_layTold 86 = .ok (.if_icmp .ge 50, 3) := by decide +kernel
theorem dX11_layTold_89 : decode cX11_layTold 89 = .ok (.aload_n 0, 1) := by decide +kernel
theorem dX11_layTold_90 : decode cX11_layTold 90 = .ok (.getfield 121, 3) := by decide +kernel
theorem dX11_layTold_93 : decode cX11_layTold 93 = .ok (.bipush 50, 2) := by decide +kernel
theorem dX11_layTold_95 : decode cX11_layTold 95 = .ok (.iconst 3, 1) := by decide +kernel
theorem dX11_layTold_96 : decode cX11_layTold 96 = .ok (.iload_n 1, 1) := by decide +kernel
theorem dX11_layTold_97 : decode cX11_layTold 97 = .ok (.imul, 1) := by decide +kernel
theorem dX11_layTold_98 : decode cX11_layTold 98 = .ok (.iadd, 1) := by decide +kernel
theorem dX11_layTold_99 : decode cX11_layTold 99 = .ok (.aload_n 0, 1) := by decide +kernel
theorem dX11_layTold_100 : decode cX11_layTold 100 = .ok (.getfield 106, 3) := by decide +kernel
theorem dX11_layTold_103 : decode cX11_layTold 103 = .ok (.iload_n 1, 1) := by decide +kernel
theorem dX11_layTold_104 : decode cX11_layTold 104 = .ok (.iaload, 1) := by decide +kernel
theorem dX11_layTold_105 : decode cX11_layTold 105 = .ok (.iastore, 1) := by decide +kernel
theorem dX11_layTold_106 : decode cX11_layTold 106 = .ok (.aload_n 0, 1) := by decide +kernel
theorem dX11_layTold_107 : decode cX11_layTold 107 = .ok (.getfield 121, 3) := by decide +kernel
theorem dX11_layTold_110 : decode cX11_layTold 110 = .ok (.bipush 51, 2) := by decide +kernel
theorem dX11_layTold_112 : decode cX11_layTold 112 = .ok (.iconst 3, 1) := by decide +kernel
theorem dX11_layTold_113 : decode cX11_layTold 113 = .ok (.iload_n 1, 1) := by decide +kernel
theorem dX11_layTold_114 : decode cX11_layTold 114 = .ok (.imul, 1) := by decide +kernel
theorem dX11_layTold_115 : decode cX11_layTold 115 = .ok (.iadd, 1) := by decide +kernel
theorem dX11_layTold_116 : decode cX11_layTold 116 = .ok (.iconst 0, 1) := by decide +kernel
theorem dX11_layTold_117 : decode cX11_layTold 117 = .ok (.iastore, 1) := by decide +kernel
theorem dX11_layTold_118 : decode cX11_layTold 118 = .ok (.aload_n 0, 1) := by decide +kernel
theorem dX11_layTold_119 : decode cX11_layTold 119 = .ok (.getfield 121, 3) := by decide +kernel
theorem dX11_layTold_122 : decode cX11_layTold 122 = .ok (.bipush 52, 2) := by decide +kernel
theorem dX11_layTold_124 : decode cX11_layTold 124 = .ok (.iconst 3, 1) := by decide +kernel
theorem dX11_layTold_125 : decode cX11_layTold 125 = .ok (.iload_n 1, 1) := by decide +kernel
theorem dX11_layTold_126 : decode cX11_layTold 126 = .ok (.imul, 1) := by decide +kernel
theorem dX11_layTold_127 : decode cX11_layTold 127 = .ok (.iadd, 1) := by decide +kernel
theorem dX11_layTold_128 : decode cX11_layTold 128 = .ok (.iconst 0, 1) := by decide +kernel
theorem dX11_layTold_129 : decode cX11_layTold 129 = .ok (.iastore, 1) := by decide +kernel
theorem dX11_layTold_130 : decode cX11_layTold 130 = .ok (.iinc 1 1, 3) := by decide +kernel
theorem dX11_layTold_133 : decode cX11_layTold 133 = .ok (.goto (-49), 3) := by decide +kernel
theorem dX11_layTold_136 : decode cX11_layTold 136 = .ok (.return_, 1) := by decide +kernel
theorem dX11_amount_0 : decode cX11_amount 0 = .ok (.iload_n 0, 1) := by decide +kernel
theorem dX11_amount_1 : decode cX11_amount 1 = .ok (.ifCond .ge 8, 3) := by decide +kernel
theorem dX11_amount_4 : decode cX11_amount 4 = .ok (.iload_n 0, 1) := by decide +kernel
theorem dX11_amount_5 : decode cX11_amount 5 = .ok (.ineg, 1) := by decide +kernel
theorem dX11_amount_6 : decode cX11_amount 6 = .ok (.goto 4, 3) := by decide +kernel
theorem dX11_amount_9 : decode cX11_amount 9 = .ok (.iload_n 0, 1) := by decide +kernel
theorem dX11_amount_10 : decode cX11_amount 10 = .ok (.ireturn, 1) := by decide +kernel
theorem dX11_far_0 : decode cX11_far 0 = .ok (.aload_n 0, 1) := by decide +kernel
theorem dX11_far_1 : decode cX11_far 1 = .ok (.getfield 121, 3) := by decide +kernel
theorem dX11_far_4 : decode cX11_far 4 = .ok (.iconst 5, 1) := by decide +kernel
theorem dX11_far_5 : decode cX11_far 5 = .ok (.iload_n 2, 1) := by decide +kernel
theorem dX11_far_6 : decode cX11_far 6 = .ok (.imul, 1) := by decide +kernel
theorem dX11_far_7 : decode cX11_far 7 = .ok (.iaload, 1) := by decide +kernel
theorem dX11_far_8 : decode cX11_far 8 = .ok (.aload_n 0, 1) := by decide +kernel
theorem dX11_far_9 : decode cX11_far 9 = .ok (.getfield 97, 3) := by decide +kernel
theorem dX11_far_12 : decode cX11_far 12 = .ok (.iload_n 1, 1) := by decide +kernel
theorem dX11_far_13 : decode cX11_far 13 = .ok (.iaload, 1) := by decide +kernel
theorem dX11_far_14 : decode cX11_far 14 = .ok (.isub, 1) := by decide +kernel
theorem dX11_far_15 : decode cX11_far 15 = .ok (.invokestatic 498, 3) := by decide +kernel
theorem dX11_far_18 : decode cX11_far 18 = .ok (.istore_n 3, 1) := by decide +kernel
theorem dX11_far_19 : decode cX11_far 19 = .ok (.aload_n 0, 1) := by decide +kernel
theorem dX11_far_20 : decode cX11_far 20 = .ok (.getfield 121, 3) := by decide +kernel
theorem dX11_far_23 : decode cX11_far 23 = .ok (.iconst 5, 1) := by decide +kernel
theorem dX11_far_24 : decode cX11_far 24 = .ok (.iload_n 2, 1) := by decide +kernel
theorem dX11_far_25 : decode cX11_far 25 = .ok (.imul, 1) := by decide +kernel
theorem dX11_far_26 : decode cX11_far 26 = .ok (.iconst 1, 1) := by decide +kernel
theorem dX11_far_27 : decode cX11_far 27 = .ok (.iadd, 1) := by decide +kernel
theorem dX11_far_28 : decode cX11_far 28 = .ok (.iaload, 1) := by decide +kernel
theorem dX11_far_29 : decode cX11_far 29 = .ok (.aload_n 0, 1) := by decide +kernel
theorem dX11_far_30 : decode cX11_far 30 = .ok (.getfield 100, 3) := by decide +kernel
theorem dX11_far_33 : decode cX11_far 33 = .ok (.iload_n 1, 1) := by decide +kernel
theorem dX11_far_34 : decode cX11_far 34 = .ok (.iaload, 1) := by decide +kernel
theorem dX11_far_35 : decode cX11_far 35 = .ok (.isub, 1) := by decide +kernel
theorem dX11_far_36 : decode cX11_far 36 = .ok (.invokestatic 498, 3) := by decide +kernel
theorem dX11_far_39 : decode cX11_far 39 = .ok (.istore 4, 2) := by decide +kernel
theorem dX11_far_41 : decode cX11_far 41 = .ok (.iload_n 3, 1) := by decide +kernel
theorem dX11_far_42 : decode cX11_far 42 = .ok (.iload 4, 2) := by decide +kernel
theorem dX11_far_44 : decode cX11_far 44 = .ok (.if_icmp .le 7, 3) := by decide +kernel
theorem dX11_far_47 : decode cX11_far 47 = .ok (.iload_n 3, 1) := by decide +kernel
theorem dX11_far_48 : decode cX11_far 48 = .ok (.goto 5, 3) := by decide +kernel
theorem dX11_far_51 : decode cX11_far 51 = .ok (.iload 4, 2) := by decide +kernel
theorem dX11_far_53 : decode cX11_far 53 = .ok (.ireturn, 1) := by decide +kernel
theorem dX11_isAfloat_0 : decode cX11_isAfloat 0 = .ok (.aload_n 0, 1) := by decide +kernel
theorem dX11_isAfloat_1 : decode cX11_isAfloat 1 = .ok (.getfield 121, 3) := by decide +kernel
theorem dX11_isAfloat_4 : decode cX11_isAfloat 4 = .ok (.iconst 5, 1) := by decide +kernel
theorem dX11_isAfloat_5 : decode cX11_isAfloat 5 = .ok (.iload_n 1, 1) := by decide +kernel
theorem dX11_isAfloat_6 : decode cX11_isAfloat 6 = .ok (.imul, 1) := by decide +kernel
theorem dX11_isAfloat_7 : decode cX11_isAfloat 7 = .ok (.iconst 2, 1) := by decide +kernel
theorem dX11_isAfloat_8 : decode cX11_isAfloat 8 = .ok (.iadd, 1) := by decide +kernel
theorem dX11_isAfloat_9 : decode cX11_isAfloat 9 = .ok (.iaload, 1) := by decide +kernel
theorem dX11_isAfloat_10 : decode cX11_isAfloat 10 = .ok (.ifCond .ge 7, 3) := by decide +kernel
theorem dX11_isAfloat_13 : decode cX11_isAfloat 13 = .ok (.iconst 1, 1) := by decide +kernel
theorem dX11_isAfloat_14 : decode cX11_isAfloat 14 = .ok (.goto 4, 3) := by decide +kernel
theorem dX11_isAfloat_17 : decode cX11_isAfloat 17 = .ok (.iconst 0, 1) := by decide +kernel
theorem dX11_isAfloat_18 : decode cX11_isAfloat 18 = .ok (.ireturn, 1) := by decide +kernel
theorem dX11_isRim_0 : decode cX11_isRim 0 = .ok (.aload_n 0, 1) := by decide +kernel
theorem dX11_isRim_1 : decode cX11_isRim 1 = .ok (.getfield 121, 3) := by decide +kernel
theorem dX11_isRim_4 : decode cX11_isRim 4 = .ok (.iconst 5, 1) := by decide +kernel
theorem dX11_isRim_5 : decode cX11_isRim 5 = .ok (.iload_n 1, 1) := by decide +kernel
theorem dX11_isRim_6 : decode cX11_isRim 6 = .ok (.imul, 1) := by decide +kernel
theorem dX11_isRim_7 : decode cX11_isRim 7 = .ok (.iaload, 1) := by decide +kernel
theorem dX11_isRim_8 : decode cX11_isRim 8 = .ok (.ifCond .eq 52, 3) := by decide +kernel
theorem dX11_isRim_11 : decode cX11_isRim 11 = .ok (.aload_n 0, 1) := by decide +kernel
theorem dX11_isRim_12 : decode cX11_isRim 12 = .ok (.getfield 121, 3) := by decide +kernel
theorem dX11_isRim_15 : decode cX11_isRim 15 = .ok (.iconst 5, 1) := by decide +kernel
theorem dX11_isRim_16 : decode cX11_isRim 16 = .ok (.iload_n 1, 1) := by decide +kernel
theorem dX11_isRim_17 : decode cX11_isRim 17 = .ok (.imul, 1) := by decide +kernel
theorem dX11_isRim_18 : decode cX11_isRim 18 = .ok (.iaload, 1) := by decide +kernel
theorem dX11_isRim_19 : decode cX11_isRim 19 = .ok (.aload_n 0, 1) := by decide +kernel
theorem dX11_isRim_20 : decode cX11_isRim 20 = .ok (.getfield 455, 3) := by decide +kernel
theorem dX11_isRim_23 : decode cX11_isRim 23 = .ok (.iconst 1, 1) := by decide +kernel
theorem dX11_isRim_24 : decode cX11_isRim 24 = .ok (.isub, 1) := by decide +kernel
theorem dX11_isRim_25 : decode cX11_isRim 25 = .ok (.if_icmp .eq 35, 3) := by decide +kernel
theorem dX11_isRim_28 : decode cX11_isRim 28 = .ok (.aload_n 0, 1) := by decide +kernel
theorem dX11_isRim_29 : decode cX11_isRim 29 = .ok (.getfield 121, 3) := by decide +kernel
theorem dX11_isRim_32 : decode cX11_isRim 32 = .ok (.iconst 5, 1) := by decide +kernel
theorem dX11_isRim_33 : decode cX11_isRim 33 = .ok (.iload_n 1, 1) := by decide +kernel
theorem dX11_isRim_34 : decode cX11_isRim 34 = .ok (.imul, 1) := by decide +kernel
theorem dX11_isRim_35 : decode cX11_isRim 35 = .ok (.iconst 1, 1) := by decide +kernel
theorem dX11_isRim_36 : decode cX11_isRim 36 = .ok (.iadd, 1) := by decide +kernel
theorem dX11_isRim_37 : decode cX11_isRim 37 = .ok (.iaload, 1) := by decide +kernel
theorem dX11_isRim_38 : decode cX11_isRim 38 = .ok (.ifCond .eq 22, 3) := by decide +kernel
theorem dX11_isRim_41 : decode cX11_isRim 41 = .ok (.aload_n 0, 1) := by decide +kernel
theorem dX11_isRim_42 : decode cX11_isRim 42 = .ok (.getfield 121, 3) := by decide +kernel
theorem dX11_isRim_45 : decode cX11_isRim 45 = .ok (.iconst 5, 1) := by decide +kernel
theorem dX11_isRim_46 : decode cX11_isRim 46 = .ok (.iload_n 1, 1) := by decide +kernel
theorem dX11_isRim_47 : decode cX11_isRim 47 = .ok (.imul, 1) := by decide +kernel
theorem dX11_isRim_48 : decode cX11_isRim 48 = .ok (.iconst 1, 1) := by decide +kernel
theorem dX11_isRim_49 : decode cX11_isRim 49 = .ok (.iadd, 1) := by decide +kernel
theorem dX11_isRim_50 : decode cX11_isRim 50 = .ok (.iaload, 1) := by decide +kernel
theorem dX11_isRim_51 : decode cX11_isRim 51 = .ok (.aload_n 0, 1) := by decide +kernel
theorem dX11_isRim_52 : decode cX11_isRim 52 = .ok (.getfield 458, 3) := by decide +kernel
theorem dX11_isRim_55 : decode cX11_isRim 55 = .ok (.iconst 1, 1) := by decide +kernel
theorem dX11_isRim_56 : decode cX11_isRim 56 = .ok (.isub, 1) := by decide +kernel
theorem dX11_isRim_57 : decode cX11_isRim 57 = .ok (.if_icmp .ne 7, 3) := by decide +kernel
theorem dX11_isRim_60 : decode cX11_isRim 60 = .ok (.iconst 1, 1) := by decide +kernel
theorem dX11_isRim_61 : decode cX11_isRim 61 = .ok (.goto 4, 3) := by decide +kernel
theorem dX11_isRim_64 : decode cX11_isRim 64 = .ok (.iconst 0, 1) := by decide +kernel
theorem dX11_isRim_65 : decode cX11_isRim 65 = .ok (.ireturn, 1) := by decide +kernel
theorem dX11_afloat_0 : decode cX11_afloat 0 = .ok (.iconst (-1), 1) := by decide +kernel
theorem dX11_afloat_1 : decode cX11_afloat 1 = .ok (.istore_n 3, 1) := by decide +kernel
theorem dX11_afloat_2 : decode cX11_afloat 2 = .ok (.iconst 0, 1) := by decide +kernel
theorem dX11_afloat_3 : decode cX11_afloat 3 = .ok (.istore 4, 2) := by decide +kernel
theorem dX11_afloat_5 : decode cX11_afloat 5 = .ok (.iload 4, 2) := by decide +kernel
theorem dX11_afloat_7 : decode cX11_afloat 7 = .ok (.aload_n 0, 1) := by decide +kernel
theorem dX11_afloat_8 : decode cX11_afloat 8 = .ok (.getfield 467, 3) := by decide +kernel
theorem dX11_afloat_11 : decode cX11_afloat 11 = .ok (.if_icmp .ge 49, 3) := by decide +kernel
theorem dX11_afloat_14 : decode cX11_afloat 14 = .ok (.aload_n 0, 1) := by decide +kernel
theorem dX11_afloat_15 : decode cX11_afloat 15 = .ok (.iload 4, 2) := by decide +kernel
theorem dX11_afloat_17 : decode cX11_afloat 17 = .ok (.invokevirtual 501, 3) := by decide +kernel
theorem dX11_afloat_20 : decode cX11_afloat 20 = .ok (.ifCond .eq 34, 3) := by decide +kernel
theorem dX11_afloat_23 : decode cX11_afloat 23 = .ok (.aload_n 0, 1) := by decide +kernel
theorem dX11_afloat_24 : decode cX11_afloat 24 = .ok (.getfield 121, 3) := by decide +kernel
theorem dX11_afloat_27 : decode cX11_afloat 27 = .ok (.iconst 5, 1) := by decide +kernel
theorem dX11_afloat_28 : decode cX11_afloat 28 = .ok (.iload 4, 2) := by decide +kernel
theorem dX11_afloat_30 : decode cX11_afloat 30 = .ok (.imul, 1) := by decide +kernel
theorem dX11_afloat_31 : decode cX11_afloat 31 = .ok (.iaload, 1) := by decide +kernel
theorem dX11_afloat_32 : decode cX11_afloat 32 = .ok (.iload_n 1, 1) := by decide +kernel
theorem dX11_afloat_33 : decode cX11_afloat 33 = .ok (.if_icmp .ne 21, 3) := by decide +kernel
theorem dX11_afloat_36 : decode cX11_afloat 36 = .ok (.aload_n 0, 1) := by decide +kernel
theorem dX11_afloat_37 : decode cX11_afloat 37 = .ok (.getfield 121, 3) := by decide +kernel
theorem dX11_afloat_40 : decode cX11_afloat 40 = .ok (.iconst 5, 1) := by decide +kernel
theorem dX11_afloat_41 : decode cX11_afloat 41 = .ok (.iload 4, 2) := by decide +kernel
theorem dX11_afloat_43 : decode cX11_afloat 43 = .ok (.imul, 1) := by decide +kernel
theorem dX11_afloat_44 : decode cX11_afloat 44 = .ok (.iconst 1, 1) := by decide +kernel
theorem dX11_afloat_45 : decode cX11_afloat 45 = .ok (.iadd, 1) := by decide +kernel
theorem dX11_afloat_46 : decode cX11_afloat 46 = .ok (.iaload, 1) := by decide +kernel
theorem dX11_afloat_47 : decode cX11_afloat 47 = .ok (.iload_n 2, 1) := by decide +kernel
theorem dX11_afloat_48 : decode cX11_afloat 48 = .ok (.if_icmp .ne 6, 3) := by decide +kernel
theorem dX11_afloat_51 : decode cX11_afloat 51 = .ok (.iload 4, 2) := by decide +kernel
theorem dX11_afloat_53 : decode cX11_afloat 53 = .ok (.istore_n 3, 1) := by decide +kernel
theorem dX11_afloat_54 : decode cX11_afloat 54 = .ok (.iinc 4 1, 3) := by decide +kernel
theorem dX11_afloat_57 : decode cX11_afloat 57 = .ok (.goto (-52), 3) := by decide +kernel
theorem dX11_afloat_60 : decode cX11_afloat 60 = .ok (.iload_n 3, 1) := by decide +kernel
theorem dX11_afloat_61 : decode cX11_afloat 61 = .ok (.ireturn, 1) := by decide +kernel
theorem dX11_seconds_0 : decode cX11_seconds 0 = .ok (.iload_n 0, 1) := by decide +kernel
theorem dX11_seconds_1 : decode cX11_seconds 1 = .ok (.iconst 2, 1) := by decide +kernel
theorem dX11_seconds_2 : decode cX11_seconds 2 = .ok (.if_icmp .eq 8, 3) := by decide +kernel
theorem dX11_seconds_5 : decode cX11_seconds 5 = .ok (.iload_n 0, 1) := by decide +kernel
theorem dX11_seconds_6 : decode cX11_seconds 6 = .ok (.iconst 3, 1) := by decide +kernel
theorem dX11_seconds_7 : decode cX11_seconds 7 = .ok (.if_icmp .ne 7, 3) := by decide +kernel
theorem dX11_seconds_10 : decode cX11_seconds 10 = .ok (.iload_n 0, 1) := by decide +kernel
theorem dX11_seconds_11 : decode cX11_seconds 11 = .ok (.goto 4, 3) := by decide +kernel
theorem dX11_seconds_14 : decode cX11_seconds 14 = .ok (.iconst 1, 1) := by decide +kernel
theorem dX11_seconds_15 : decode cX11_seconds 15 = .ok (.ireturn, 1) := by decide +kernel
theorem dX11_takesBreath_0 : decode cX11_takesBreath 0 = .ok (.iload_n 0, 1) := by decide +kernel
theorem dX11_takesBreath_1 : decode cX11_takesBreath 1 = .ok (.iconst 2, 1) := by decide +kernel
theorem dX11_takesBreath_2 : decode cX11_takesBreath 2 = .ok (.if_icmp .ne 7, 3) := by decide +kernel
theorem dX11_takesBreath_5 : decode cX11_takesBreath 5 = .ok (.iconst 1, 1) := by decide +kernel
theorem dX11_takesBreath_6 : decode cX11_takesBreath 6 = .ok (.goto 13, 3) := by decide +kernel
theorem dX11_takesBreath_9 : decode cX11_takesBreath 9 = .ok (.iload_n 0, 1) := by decide +kernel
theorem dX11_takesBreath_10 : decode cX11_takesBreath 10 = .ok (.iconst 3, 1) := by decide +kernel
theorem dX11_takesBreath_11 : decode cX11_takesBreath 11 = .ok (.if_icmp .ne 7, 3) := by decide +kernel
theorem dX11_takesBreath_14 : decode cX11_takesBreath 14 = .ok (.iconst 3, 1) := by decide +kernel
theorem dX11_takesBreath_15 : decode cX11_takesBreath 15 = .ok (.goto 4, 3) := by decide +kernel
theorem dX11_takesBreath_18 : decode cX11_takesBreath 18 = .ok (.iconst 0, 1) := by decide +kernel
theorem dX11_takesBreath_19 : decode cX11_takesBreath 19 = .ok (.ireturn, 1) := by decide +kernel
theorem dX11_canTry_0 : decode cX11_canTry 0 = .ok (.aload_n 0, 1) := by decide +kernel
theorem dX11_canTry_1 : decode cX11_canTry 1 = .ok (.iload_n 2, 1) := by decide +kernel
theorem dX11_canTry_2 : decode cX11_canTry 2 = .ok (.invokevirtual 501, 3) := by decide +kernel
theorem dX11_canTry_5 : decode cX11_canTry 5 = .ok (.ifCond .eq 81, 3) := by decide +kernel
theorem dX11_canTry_8 : decode cX11_canTry 8 = .ok (.aload_n 0, 1) := by decide +kernel
theorem dX11_canTry_9 : decode cX11_canTry 9 = .ok (.iload_n 1, 1) := by decide +kernel
theorem dX11_canTry_10 : decode cX11_canTry 10 = .ok (.iload_n 2, 1) := by decide +kernel
theorem dX11_canTry_11 : decode cX11_canTry 11 = .ok (.invokevirtual 361, 3) := by decide +kernel
theorem dX11_canTry_14 : decode cX11_canTry 14 = .ok (.aload_n 0, 1) := by decide +kernel
theorem dX11_canTry_15 : decode cX11_canTry 15 = .ok (.getfield 103, 3) := by decide +kernel
theorem dX11_canTry_18 : decode cX11_canTry 18 = .ok (.iload_n 1, 1) := by decide +kernel
theorem dX11_canTry_19 : decode cX11_canTry 19 = .ok (.iaload, 1) := by decide +kernel
theorem dX11_canTry_20 : decode cX11_canTry 20 = .ok (.if_icmp .gt 66, 3) := by decide +kernel
theorem dX11_canTry_23 : decode cX11_canTry 23 = .ok (.aload_n 0, 1) := by decide +kernel
theorem dX11_canTry_24 : decode cX11_canTry 24 = .ok (.getfield 121, 3) := by decide +kernel
theorem dX11_canTry_27 : decode cX11_canTry 27 = .ok (.bipush 50, 2) := by decide +kernel
theorem dX11_canTry_29 : decode cX11_canTry 29 = .ok (.iconst 3, 1) := by decide +kernel
theorem dX11_canTry_30 : decode cX11_canTry 30 = .ok (.iload_n 1, 1) := by decide +kernel
theorem dX11_canTry_31 : decode cX11_canTry 31 = .ok (.imul, 1) := by decide +kernel
theorem dX11_canTry_32 : decode cX11_canTry 32 = .ok (.iadd, 1) := by decide +kernel
theorem dX11_canTry_33 : decode cX11_canTry 33 = .ok (.iaload, 1) := by decide +kernel
theorem dX11_canTry_34 : decode cX11_canTry 34 = .ok (.iload_n 3, 1) := by decide +kernel
theorem dX11_canTry_35 : decode cX11_canTry 35 = .ok (.invokestatic 504, 3) := by decide +kernel
theorem dX11_canTry_38 : decode cX11_canTry 38 = .ok (.if_icmp .lt 48, 3) := by decide +kernel
theorem dX11_canTry_41 : decode cX11_canTry 41 = .ok (.iload_n 3, 1) := by decide +kernel
theorem dX11_canTry_42 : decode cX11_canTry 42 = .ok (.iconst 1, 1) := by decide +kernel
theorem dX11_canTry_43 : decode cX11_canTry 43 = .ok (.if_icmp .ne 12, 3) := by decide +kernel
theorem dX11_canTry_46 : decode cX11_canTry 46 = .ok (.aload_n 0, 1) := by decide +kernel
theorem dX11_canTry_47 : decode cX11_canTry 47 = .ok (.getfield 115, 3) := by decide +kernel
theorem dX11_canTry_50 : decode cX11_canTry 50 = .ok (.iload_n 2, 1) := by decide +kernel
theorem dX11_canTry_51 : decode cX11_canTry 51 = .ok (.baload, 1) := by decide +kernel
theorem dX11_canTry_52 : decode cX11_canTry 52 = .ok (.ifCond .eq 34, 3) := by decide +kernel
theorem dX11_canTry_55 : decode cX11_canTry 55 = .ok (.iload_n 3, 1) := by decide +kernel
theorem dX11_canTry_56 : decode cX11_canTry 56 = .ok (.iconst 2, 1) := by decide +kernel
theorem dX11_canTry_57 : decode cX11_canTry 57 = .ok (.if_icmp .ne 11, 3) := by decide +kernel
theorem dX11_canTry_60 : decode cX11_canTry 60 = .ok (.aload_n 0, 1) := by decide +kernel
theorem dX11_canTry_61 : decode cX11_canTry 61 = .ok (.iload_n 2, 1) := by decide +kernel
theorem dX11_canTry_62 : decode cX11_canTry 62 = .ok (.invokevirtual 358, 3) := by decide +kernel
theorem dX11_canTry_65 : decode cX11_canTry 65 = .ok (.ifCond .eq 21, 3) := by decide +kernel
theorem dX11_canTry_68 : decode cX11_canTry 68 = .ok (.iload_n 3, 1) := by decide +kernel
theorem dX11_canTry_69 : decode cX11_canTry 69 = .ok (.iconst 4, 1) := by decide +kernel
theorem dX11_canTry_70 : decode cX11_canTry 70 = .ok (.if_icmp .ne 12, 3) := by decide +kernel
theorem dX11_canTry_73 : decode cX11_canTry 73 = .ok (.aload_n 0, 1) := by decide +kernel
theorem dX11_canTry_74 : decode cX11_canTry 74 = .ok (.iload_n 1, 1) := by decide +kernel
theorem dX11_canTry_75 : decode cX11_canTry 75 = .ok (.iload_n 2, 1) := by decide +kernel
theorem dX11_canTry_76 : decode cX11_canTry 76 = .ok (.invokevirtual 507, 3) := by decide +kernel
theorem dX11_canTry_79 : decode cX11_canTry 79 = .ok (.ifCond .eq 7, 3) := by decide +kernel
theorem dX11_canTry_82 : decode cX11_canTry 82 = .ok (.iconst 1, 1) := by decide +kernel
theorem dX11_canTry_83 : decode cX11_canTry 83 = .ok (.goto 4, 3) := by decide +kernel
theorem dX11_canTry_86 : decode cX11_canTry 86 = .ok (.iconst 0, 1) := by decide +kernel
theorem dX11_canTry_87 : decode cX11_canTry 87 = .ok (.ireturn, 1) := by decide +kernel
theorem dX11_oddsOf_0 : decode cX11_oddsOf 0 = .ok (.aload_n 0, 1) := by decide +kernel
theorem dX11_oddsOf_1 : decode cX11_oddsOf 1 = .ok (.getfield 461, 3) := by decide +kernel
theorem dX11_oddsOf_4 : decode cX11_oddsOf 4 = .ok (.iload_n 3, 1) := by decide +kernel
theorem dX11_oddsOf_5 : decode cX11_oddsOf 5 = .ok (.ishr, 1) := by decide +kernel
theorem dX11_oddsOf_6 : decode cX11_oddsOf 6 = .ok (.iconst 1, 1) := by decide +kernel
theorem dX11_oddsOf_7 : decode cX11_oddsOf 7 = .ok (.iand, 1) := by decide +kernel
theorem dX11_oddsOf_8 : decode cX11_oddsOf 8 = .ok (.iconst 1, 1) := by decide +kernel
theorem dX11_oddsOf_9 : decode cX11_oddsOf 9 = .ok (.if_icmp .ne 15, 3) := by decide +kernel
theorem dX11_oddsOf_12 : decode cX11_oddsOf 12 = .ok (.aload_n 0, 1) := by decide +kernel
theorem dX11_oddsOf_13 : decode cX11_oddsOf 13 = .ok (.iload_n 3, 1) := by decide +kernel
theorem dX11_oddsOf_14 : decode cX11_oddsOf 14 = .ok (.iload_n 1, 1) := by decide +kernel
theorem dX11_oddsOf_15 : decode cX11_oddsOf 15 = .ok (.iload_n 2, 1) := by decide +kernel
theorem dX11_oddsOf_16 : decode cX11_oddsOf 16 = .ok (.iconst 0, 1) := by decide +kernel
theorem dX11_oddsOf_17 : decode cX11_oddsOf 17 = .ok (.iconst 0, 1) := by decide +kernel
theorem dX11_oddsOf_18 : decode cX11_oddsOf 18 = .ok (.invokevirtual 511, 3) := by decide +kernel
theorem dX11_oddsOf_21 : decode cX11_oddsOf 21 = .ok (.goto 5, 3) := by decide +kernel
theorem dX11_oddsOf_24 : decode cX11_oddsOf 24 = .ok (.bipush 50, 2) := by decide +kernel
theorem dX11_oddsOf_26 : decode cX11_oddsOf 26 = .ok (.istore 4, 2) := by decide +kernel
theorem dX11_oddsOf_28 : decode cX11_oddsOf 28 = .ok (.iload 4, 2) := by decide +kernel
theorem dX11_oddsOf_30 : decode cX11_oddsOf 30 = .ok (.ifCond .ge 7, 3) := by decide +kernel
theorem dX11_oddsOf_33 : decode cX11_oddsOf 33 = .ok (.iconst 0, 1) := by decide +kernel
theorem dX11_oddsOf_34 : decode cX11_oddsOf 34 = .ok (.goto 17, 3) := by decide +kernel
theorem dX11_oddsOf_37 : decode cX11_oddsOf 37 = .ok (.iload 4, 2) := by decide +kernel
theorem dX11_oddsOf_39 : decode cX11_oddsOf 39 = .ok (.bipush 100, 2) := by decide +kernel
theorem dX11_oddsOf_41 : decode cX11_oddsOf 41 = .ok (.if_icmp .le 8, 3) := by decide +kernel
theorem dX11_oddsOf_44 : decode cX11_oddsOf 44 = .ok (.bipush 100, 2) := by decide +kernel
theorem dX11_oddsOf_46 : decode cX11_oddsOf 46 = .ok (.goto 5, 3) := by decide +kernel
theorem dX11_oddsOf_49 : decode cX11_oddsOf 49 = .ok (.iload 4, 2) := by decide +kernel
theorem dX11_oddsOf_51 : decode cX11_oddsOf 51 = .ok (.ireturn, 1) := by decide +kernel
theorem dX11_layWay_0 : decode cX11_layWay 0 = .ok (.aload_n 0, 1) := by decide +kernel
theorem dX11_layWay_1 : decode cX11_layWay 1 = .ok (.getfield 121, 3) := by decide +kernel
theorem dX11_layWay_4 : decode cX11_layWay 4 = .ok (.iconst 5, 1) := by decide +kernel
theorem dX11_layWay_5 : decode cX11_layWay 5 = .ok (.iload_n 2, 1) := by decide +kernel
theorem dX11_layWay_6 : decode cX11_layWay 6 = .ok (.imul, 1) := by decide +kernel
theorem dX11_layWay_7 : decode cX11_layWay 7 = .ok (.iaload, 1) := by decide +kernel
theorem dX11_layWay_8 : decode cX11_layWay 8 = .ok (.aload_n 0, 1) := by decide +kernel
theorem dX11_layWay_9 : decode cX11_layWay 9 = .ok (.getfield 97, 3) := by decide +kernel
theorem dX11_layWay_12 : decode cX11_layWay 12 = .ok (.iload_n 1, 1) := by decide +kernel
theorem dX11_layWay_13 : decode cX11_layWay 13 = .ok (.iaload, 1) := by decide +kernel
theorem dX11_layWay_14 : decode cX11_layWay 14 = .ok (.isub, 1) := by decide +kernel
theorem dX11_layWay_15 : decode cX11_layWay 15 = .ok (.istore_n 3, 1) := by decide +kernel
theorem dX11_layWay_16 : decode cX11_layWay 16 = .ok (.aload_n 0, 1) := by decide +kernel
theorem dX11_layWay_17 : decode cX11_layWay 17 = .ok (.getfield 121, 3) := by decide +kernel
theorem dX11_layWay_20 : decode cX11_layWay 20 = .ok (.iconst 5, 1) := by decide +kernel
theorem dX11_layWay_21 : decode cX11_layWay 21 = .ok (.iload_n 2, 1) := by decide +kernel
theorem dX11_layWay_22 : decode cX11_layWay 22 = .ok (.imul, 1) := by decide +kernel
theorem dX11_layWay_23 : decode cX11_layWay 23 = .ok (.iconst 1, 1) := by decide +kernel
theorem dX11_layWay_24 : decode cX11_layWay 24 = .ok (.iadd, 1) := by decide +kernel
theorem dX11_layWay_25 : decode cX11_layWay 25 = .ok (.iaload, 1) := by decide +kernel
theorem dX11_layWay_26 : decode cX11_layWay 26 = .ok (.aload_n 0, 1) := by decide +kernel
theorem dX11_layWay_27 : decode cX11_layWay 27 = .ok (.getfield 100, 3) := by decide +kernel
theorem dX11_layWay_30 : decode cX11_layWay 30 = .ok (.iload_n 1, 1) := by decide +kernel
theorem dX11_layWay_31 : decode cX11_layWay 31 = .ok (.iaload, 1) := by decide +kernel
theorem dX11_layWay_32 : decode cX11_layWay 32 = .ok (.isub, 1) := by decide +kernel
theorem dX11_layWay_33 : decode cX11_layWay 33 = .ok (.istore 4, 2) := by decide +kernel
theorem dX11_layWay_35 : decode cX11_layWay 35 = .ok (.iload_n 3, 1) := by decide +kernel
theorem dX11_layWay_36 : decode cX11_layWay 36 = .ok (.invokestatic 498, 3) := by decide +kernel
theorem dX11_layWay_39 : decode cX11_layWay 39 = .ok (.iload 4, 2) := by decide +kernel
theorem dX11_layWay_41 : decode cX11_layWay 41 = .ok (.invokestatic 498, 3) := by decide +kernel
theorem dX11_layWay_44 : decode cX11_layWay 44 = .ok (.if_icmp .lt 7, 3) := by decide +kernel
theorem dX11_layWay_47 : decode cX11_layWay 47 = .ok (.iconst 1, 1) := by decide +kernel
theorem dX11_layWay_48 : decode cX11_layWay 48 = .ok (.goto 4, 3) := by decide +kernel
theorem dX11_layWay_51 : decode cX11_layWay 51 = .ok (.iconst 0, 1) := by decide +kernel
theorem dX11_layWay_52 : decode cX11_layWay 52 = .ok (.istore 5, 2) := by decide +kernel
theorem dX11_layWay_54 : decode cX11_layWay 54 = .ok (.aload_n 0, 1) := by decide +kernel
theorem dX11_layWay_55 : decode cX11_layWay 55 = .ok (.iload 5, 2) := by decide +kernel
theorem dX11_layWay_57 : decode cX11_layWay 57 = .ok (.ifCond .eq 7, 3) := by decide +kernel
theorem dX11_layWay_60 : decode cX11_layWay 60 = .ok (.iload_n 3, 1) := by decide +kernel
theorem dX11_layWay_61 : decode cX11_layWay 61 = .ok (.ifCond .ne 7, 3) := by decide +kernel
theorem dX11_layWay_64 : decode cX11_layWay 64 = .ok (.iconst 0, 1) := by decide +kernel
theorem dX11_layWay_65 : decode cX11_layWay 65 = .ok (.goto 12, 3) := by decide +kernel
theorem dX11_layWay_68 : decode cX11_layWay 68 = .ok (.iload_n 3, 1) := by decide +kernel
theorem dX11_layWay_69 : decode cX11_layWay 69 = .ok (.ifCond .ge 7, 3) := by decide +kernel
theorem dX11_layWay_72 : decode cX11_layWay 72 = .ok (.iconst (-1), 1) := by decide +kernel
theorem dX11_layWay_73 : decode cX11_layWay 73 = .ok (.goto 4, 3) := by decide +kernel
theorem dX11_layWay_76 : decode cX11_layWay 76 = .ok (.iconst 1, 1) := by decide +kernel
theorem dX11_layWay_77 : decode cX11_layWay 77 = .ok (.putfield 514, 3) := by decide +kernel
theorem dX11_layWay_80 : decode cX11_layWay 80 = .ok (.aload_n 0, 1) := by decide +kernel
theorem dX11_layWay_81 : decode cX11_layWay 81 = .ok (.iload 5, 2) := by decide +kernel
theorem dX11_layWay_83 : decode cX11_layWay 83 = .ok (.ifCond .eq 7, 3) := by decide +kernel
theorem dX11_layWay_86 : decode cX11_layWay 86 = .ok (.iconst 0, 1) := by decide +kernel
theorem dX11_layWay_87 : decode cX11_layWay 87 = .ok (.goto 13, 3) := by decide +kernel
theorem dX11_layWay_90 : decode cX11_layWay 90 = .ok (.iload 4, 2) := by decide +kernel
theorem dX11_layWay_92 : decode cX11_layWay 92 = .ok (.ifCond .ge 7, 3) := by decide +kernel
theorem dX11_layWay_95 : decode cX11_layWay 95 = .ok (.iconst (-1), 1) := by decide +kernel
theorem dX11_layWay_96 : decode cX11_layWay 96 = .ok (.goto 4, 3) := by decide +kernel
theorem dX11_layWay_99 : decode cX11_layWay 99 = .ok (.iconst 1, 1) := by decide +kernel
theorem dX11_layWay_100 : decode cX11_layWay 100 = .ok (.putfield 517, 3) := by decide +kernel
theorem dX11_layWay_103 : decode cX11_layWay 103 = .ok (.iload_n 3, 1) := by decide +kernel
theorem dX11_layWay_104 : decode cX11_layWay 104 = .ok (.ifCond .ne 8, 3) := by decide +kernel
theorem dX11_layWay_107 : decode cX11_layWay 107 = .ok (.iload 4, 2) := by decide +kernel
theorem dX11_layWay_109 : decode cX11_layWay 109 = .ok (.ifCond .eq 7, 3) := by decide +kernel
theorem dX11_layWay_112 : decode cX11_layWay 112 = .ok (.iconst 1, 1) := by decide +kernel
theorem dX11_layWay_113 : decode cX11_layWay 113 = .ok (.goto 4, 3) := by decide +kernel
theorem dX11_layWay_116 : decode cX11_layWay 116 = .ok (.iconst 0, 1) := by decide +kernel
theorem dX11_layWay_117 : decode cX11_layWay 117 = .ok (.ireturn, 1) := by decide +kernel
theorem dX11_leans_0 : decode cX11_leans 0 = .ok (.aload_n 0, 1) := by decide +kernel
theorem dX11_leans_1 : decode cX11_leans 1 = .ok (.iload_n 1, 1) := by decide +kernel
theorem dX11_leans_2 : decode cX11_leans 2 = .ok (.iload_n 2, 1) := by decide +kernel
theorem dX11_leans_3 : decode cX11_leans 3 = .ok (.invokevirtual 520, 3) := by decide +kernel
theorem dX11_leans_6 : decode cX11_leans 6 = .ok (.ifCond .eq 42, 3) := by decide +kernel
theorem dX11_leans_9 : decode cX11_leans 9 = .ok (.aload_n 0, 1) := by decide +kernel
theorem dX11_leans_10 : decode cX11_leans 10 = .ok (.aload_n 0, 1) := by decide +kernel
theorem dX11_leans_11 : decode cX11_leans 11 = .ok (.getfield 121, 3) := by decide +kernel
theorem dX11_leans_14 : decode cX11_leans 14 = .ok (.iconst 5, 1) := by decide +kernel
theorem dX11_leans_15 : decode cX11_leans 15 = .ok (.iload_n 2, 1) := by decide +kernel
theorem dX11_leans_16 : decode cX11_leans 16 = .ok (.imul, 1) := by decide +kernel
theorem dX11_leans_17 : decode cX11_leans 17 = .ok (.iaload, 1) := by decide +kernel
theorem dX11_leans_18 : decode cX11_leans 18 = .ok (.aload_n 0, 1) := by decide +kernel
theorem dX11_leans_19 : decode cX11_leans 19 = .ok (.getfield 514, 3) := by decide +kernel
theorem dX11_leans_22 : decode cX11_leans 22 = .ok (.iadd, 1) := by decide +kernel
theorem dX11_leans_23 : decode cX11_leans 23 = .ok (.aload_n 0, 1) := by decide +kernel
theorem dX11_leans_24 : decode cX11_leans 24 = .ok (.getfield 121, 3) := by decide +kernel
theorem dX11_leans_27 : decode cX11_leans 27 = .ok (.iconst 5, 1) := by decide +kernel
theorem dX11_leans_28 : decode cX11_leans 28 = .ok (.iload_n 2, 1) := by decide +kernel
theorem dX11_leans_29 : decode cX11_leans 29 = .ok (.imul, 1) := by decide +kernel
theorem dX11_leans_30 : decode cX11_leans 30 = .ok (.iconst 1, 1) := by decide +kernel
theorem dX11_leans_31 : decode cX11_leans 31 = .ok (.iadd, 1) := by decide +kernel
theorem dX11_leans_32 : decode cX11_leans 32 = .ok (.iaload, 1) := by decide +kernel
theorem dX11_leans_33 : decode cX11_leans 33 = .ok (.aload_n 0, 1) := by decide +kernel
theorem dX11_leans_34 : decode cX11_leans 34 = .ok (.getfield 517, 3) := by decide +kernel
theorem dX11_leans_37 : decode cX11_leans 37 = .ok (.iadd, 1) := by decide +kernel
theorem dX11_leans_38 : decode cX11_leans 38 = .ok (.invokevirtual 523, 3) := by decide +kernel
theorem dX11_leans_41 : decode cX11_leans 41 = .ok (.ifCond .lt 7, 3) := by decide +kernel
theorem dX11_leans_44 : decode cX11_leans 44 = .ok (.iconst 1, 1) := by decide +kernel
theorem dX11_leans_45 : decode cX11_leans 45 = .ok (.goto 4, 3) := by decide +kernel
theorem dX11_leans_48 : decode cX11_leans 48 = .ok (.iconst 0, 1) := by decide +kernel
theorem dX11_leans_49 : decode cX11_leans 49 = .ok (.ireturn, 1) := by decide +kernel
theorem dX11_push_0 : decode cX11_push 0 = .ok (.aload_n 0, 1) := by decide +kernel
theorem dX11_push_1 : decode cX11_push 1 = .ok (.iload_n 1, 1) := by decide +kernel
theorem dX11_push_2 : decode cX11_push 2 = .ok (.iload_n 2, 1) := by decide +kernel
theorem dX11_push_3 : decode cX11_push 3 = .ok (.invokevirtual 520, 3) := by decide +kernel
theorem dX11_push_6 : decode cX11_push 6 = .ok (.ifCond .ne 4, 3) := by decide +kernel
theorem dX11_push_9 : decode cX11_push 9 = .ok (.return_, 1) := by decide +kernel
theorem dX11_push_10 : decode cX11_push 10 = .ok (.aload_n 0, 1) := by decide +kernel
theorem dX11_push_11 : decode cX11_push 11 = .ok (.getfield 121, 3) := by decide +kernel
theorem dX11_push_14 : decode cX11_push 14 = .ok (.iconst 5, 1) := by decide +kernel
theorem dX11_push_15 : decode cX11_push 15 = .ok (.iload_n 2, 1) := by decide +kernel
theorem dX11_push_16 : decode cX11_push 16 = .ok (.imul, 1) := by decide +kernel
theorem dX11_push_17 : decode cX11_push 17 = .ok (.iaload, 1) := by decide +kernel
theorem dX11_push_18 : decode cX11_push 18 = .ok (.istore_n 3, 1) := by decide +kernel
theorem dX11_push_19 : decode cX11_push 19 = .ok (.aload_n 0, 1) := by decide +kernel
theorem dX11_push_20 : decode cX11_push 20 = .ok (.getfield 121, 3) := by decide +kernel
theorem dX11_push_23 : decode cX11_push 23 = .ok (.iconst 5, 1) := by decide +kernel
theorem dX11_push_24 : decode cX11_push 24 = .ok (.iload_n 2, 1) := by decide +kernel
theorem dX11_push_25 : decode cX11_push 25 = .ok (.imul, 1) := by decide +kernel
theorem dX11_push_26 : decode cX11_push 26 = .ok (.iconst 1, 1) := by decide +kernel
theorem dX11_push_27 : decode cX11_push 27 = .ok (.iadd, 1) := by decide +kernel
theorem dX11_push_28 : decode cX11_push 28 = .ok (.iaload, 1) := by decide +kernel
theorem dX11_push_29 : decode cX11_push 29 = .ok (.istore 4, 2) := by decide +kernel
theorem dX11_push_31 : decode cX11_push 31 = .ok (.iconst 0, 1) := by decide +kernel
theorem dX11_push_32 : decode cX11_push 32 = .ok (.istore 5, 2) := by decide +kernel
theorem dX11_push_34 : decode cX11_push 34 = .ok (.aload_n 0, 1) := by decide +kernel
theorem dX11_push_35 : decode cX11_push 35 = .ok (.iload_n 3, 1) := by decide +kernel
theorem dX11_push_36 : decode cX11_push 36 = .ok (.iload 4, 2) := by decide +kernel
theorem dX11_push_38 : decode cX11_push 38 = .ok (.invokevirtual 526, 3) := by decide +kernel
theorem dX11_push_41 : decode cX11_push 41 = .ok (.ifCond .eq 35, 3) := by decide +kernel
theorem dX11_push_44 : decode cX11_push 44 = .ok (.aload_n 0, 1) := by decide +kernel
theorem dX11_push_45 : decode cX11_push 45 = .ok (.iload_n 3, 1) := by decide +kernel
theorem dX11_push_46 : decode cX11_push 46 = .ok (.iload 4, 2) := by decide +kernel
theorem dX11_push_48 : decode cX11_push 48 = .ok (.invokevirtual 523, 3) := by decide +kernel
theorem dX11_push_51 : decode cX11_push 51 = .ok (.ifCond .lt 25, 3) := by decide +kernel
theorem dX11_push_54 : decode cX11_push 54 = .ok (.iload_n 3, 1) := by decide +kernel
theorem dX11_push_55 : decode cX11_push 55 = .ok (.aload_n 0, 1) := by decide +kernel
theorem dX11_push_56 : decode cX11_push 56 = .ok (.getfield 514, 3) := by decide +kernel
theorem dX11_push_59 : decode cX11_push 59 = .ok (.iadd, 1) := by decide +kernel
theorem dX11_push_60 : decode cX11_push 60 = .ok (.istore_n 3, 1) := by decide +kernel
theorem dX11_push_61 : decode cX11_push 61 = .ok (.iload 4, 2) := by decide +kernel
theorem dX11_push_63 : decode cX11_push 63 = .ok (.aload_n 0, 1) := by decide +kernel
theorem dX11_push_64 : decode cX11_push 64 = .ok (.getfield 517, 3) := by decide +kernel
theorem dX11_push_67 : decode cX11_push 67 = .ok (.iadd, 1) := by decide +kernel
theorem dX11_push_68 : decode cX11_push 68 = .ok (.istore 4, 2) := by decide +kernel
theorem dX11_push_70 : decode cX11_push 70 = .ok (.iinc 5 1, 3) := by decide +kernel
theorem dX11_push_73 : decode cX11_push 73 = .ok (.goto (-39), 3) := by decide +kernel
theorem dX11_push_76 : decode cX11_push 76 = .ok (.aload_n 0, 1) := by decide +kernel
theorem dX11_push_77 : decode cX11_push 77 = .ok (.iload_n 3, 1) := by decide +kernel
theorem dX11_push_78 : decode cX11_push 78 = .ok (.iload 4, 2) := by decide +kernel
theorem dX11_push_80 : decode cX11_push 80 = .ok (.invokevirtual 526, 3) := by decide +kernel
theorem dX11_push_83 : decode cX11_push 83 = .ok (.ifCond .ne 4, 3) := by decide +kernel
theorem dX11_push_86 : decode cX11_push 86 = .ok (.return_, 1) := by decide +kernel
theorem dX11_push_87 : decode cX11_push 87 = .ok (.iconst 0, 1) := by decide +kernel
theorem dX11_push_88 : decode cX11_push 88 = .ok (.istore 6, 2) := by decide +kernel
theorem dX11_push_90 : decode cX11_push 90 = .ok (.iload 6, 2) := by decide +kernel
theorem dX11_push_92 : decode cX11_push 92 = .ok (.iload 5, 2) := by decide +kernel
theorem dX11_push_94 : decode cX11_push 94 = .ok (.if_icmp .ge 67, 3) := by decide +kernel
theorem dX11_push_97 : decode cX11_push 97 = .ok (.aload_n 0, 1) := by decide +kernel
theorem dX11_push_98 : decode cX11_push 98 = .ok (.iload_n 3, 1) := by decide +kernel
theorem dX11_push_99 : decode cX11_push 99 = .ok (.aload_n 0, 1) := by decide +kernel
theorem dX11_push_100 : decode cX11_push 100 = .ok (.getfield 514, 3) := by decide +kernel
theorem dX11_push_103 : decode cX11_push 103 = .ok (.isub, 1) := by decide +kernel
theorem dX11_push_104 : decode cX11_push 104 = .ok (.iload 4, 2) := by decide +kernel
theorem dX11_push_106 : decode cX11_push 106 = .ok (.aload_n 0, 1) := by decide +kernel
theorem dX11_push_107 : decode cX11_push 107 = .ok (.getfield 517, 3) := by decide +kernel
theorem dX11_push_110 : decode cX11_push 110 = .ok (.isub, 1) := by decide +kernel
theorem dX11_push_111 : decode cX11_push 111 = .ok (.invokevirtual 523, 3) := by decide +kernel
theorem dX11_push_114 : decode cX11_push 114 = .ok (.istore 7, 2) := by decide +kernel
theorem dX11_push_116 : decode cX11_push 116 = .ok (.aload_n 0, 1) := by decide +kernel
theorem dX11_push_117 : decode cX11_push 117 = .ok (.getfield 121, 3) := by decide +kernel
theorem dX11_push_120 : decode cX11_push 120 = .ok (.iconst 5, 1) := by decide +kernel
theorem dX11_push_121 : decode cX11_push 121 = .ok (.iload 7, 2) := by decide +kernel
theorem dX11_push_123 : decode cX11_push 123 = .ok (.imul, 1) := by decide +kernel
theorem dX11_push_124 : decode cX11_push 124 = .ok (.iload_n 3, 1) := by decide +kernel
theorem dX11_push_125 : decode cX11_push 125 = .ok (.iastore, 1) := by decide +kernel
theorem dX11_push_126 : decode cX11_push 126 = .ok (.aload_n 0, 1) := by decide +kernel
theorem dX11_push_127 : decode cX11_push 127 = .ok (.getfield 121, 3) := by decide +kernel
theorem dX11_push_130 : decode cX11_push 130 = .ok (.iconst 5, 1) := by decide +kernel
theorem dX11_push_131 : decode cX11_push 131 = .ok (.iload 7, 2) := by decide +kernel
theorem dX11_push_133 : decode cX11_push 133 = .ok (.imul, 1) := by decide +kernel
theorem dX11_push_134 : decode cX11_push 134 = .ok (.iconst 1, 1) := by decide +kernel
theorem dX11_push_135 : decode cX11_push 135 = .ok (.iadd, 1) := by decide +kernel
theorem dX11_push_136 : decode cX11_push 136 = .ok (.iload 4, 2) := by decide +kernel
theorem dX11_push_138 : decode cX11_push 138 = .ok (.iastore, 1) := by decide +kernel
theorem dX11_push_139 : decode cX11_push 139 = .ok (.iload_n 3, 1) := by decide +kernel
theorem dX11_push_140 : decode cX11_push 140 = .ok (.aload_n 0, 1) := by decide +kernel
theorem dX11_push_141 : decode cX11_push 141 = .ok (.getfield 514, 3) := by decide +kernel
theorem dX11_push_144 : decode cX11_push 144 = .ok (.isub, 1) := by decide +kernel
theorem dX11_push_145 : decode cX11_push 145 = .ok (.istore_n 3, 1) := by decide +kernel
theorem dX11_push_146 : decode cX11_push 146 = .ok (.iload 4, 2) := by decide +kernel
theorem dX11_push_148 : decode cX11_push 148 = .ok (.aload_n 0, 1) := by decide +kernel
theorem dX11_push_149 : decode cX11_push 149 = .ok (.getfield 517, 3) := by decide +kernel
theorem dX11_push_152 : decode cX11_push 152 = .ok (.isub, 1) := by decide +kernel
theorem dX11_push_153 : decode cX11_push 153 = .ok (.istore 4, 2) := by decide +kernel
theorem dX11_push_155 : decode cX11_push 155 = .ok (.iinc 6 1, 3) := by decide +kernel
theorem dX11_push_158 : decode cX11_push 158 = .ok (.goto (-68), 3) := by decide +kernel
theorem dX11_push_161 : decode cX11_push 161 = .ok (.return_, 1) := by decide +kernel
theorem dX11_spend_0 : decode cX11_spend 0 = .ok (.aload_n 0, 1) := by decide +kernel
theorem dX11_spend_1 : decode cX11_spend 1 = .ok (.getfield 121, 3) := by decide +kernel
theorem dX11_spend_4 : decode cX11_spend 4 = .ok (.bipush 50, 2) := by decide +kernel
theorem dX11_spend_6 : decode cX11_spend 6 = .ok (.iconst 3, 1) := by decide +kernel
theorem dX11_spend_7 : decode cX11_spend 7 = .ok (.iload_n 1, 1) := by decide +kernel
theorem dX11_spend_8 : decode cX11_spend 8 = .ok (.imul, 1) := by decide +kernel
theorem dX11_spend_9 : decode cX11_spend 9 = .ok (.iadd, 1) := by decide +kernel
theorem dX11_spend_10 : decode cX11_spend 10 = .ok (.dup2, 1) := by decide +kernel
theorem dX11_spend_11 : decode cX11_spend 11 = .ok (.iaload, 1) := by decide +kernel
theorem dX11_spend_12 : decode cX11_spend 12 = .ok (.iload_n 2, 1) := by decide +kernel
theorem dX11_spend_13 : decode cX11_spend 13 = .ok (.invokestatic 504, 3) := by decide +kernel
theorem dX11_spend_16 : decode cX11_spend 16 = .ok (.isub, 1) := by decide +kernel
theorem dX11_spend_17 : decode cX11_spend 17 = .ok (.iastore, 1) := by decide +kernel
theorem dX11_spend_18 : decode cX11_spend 18 = .ok (.aload_n 0, 1) := by decide +kernel
theorem dX11_spend_19 : decode cX11_spend 19 = .ok (.getfield 121, 3) := by decide +kernel
theorem dX11_spend_22 : decode cX11_spend 22 = .ok (.bipush 52, 2) := by decide +kernel
theorem dX11_spend_24 : decode cX11_spend 24 = .ok (.iconst 3, 1) := by decide +kernel
theorem dX11_spend_25 : decode cX11_spend 25 = .ok (.iload_n 1, 1) := by decide +kernel
theorem dX11_spend_26 : decode cX11_spend 26 = .ok (.imul, 1) := by decide +kernel
theorem dX11_spend_27 : decode cX11_spend 27 = .ok (.iadd, 1) := by decide +kernel
theorem dX11_spend_28 : decode cX11_spend 28 = .ok (.dup2, 1) := by decide +kernel
theorem dX11_spend_29 : decode cX11_spend 29 = .ok (.iaload, 1) := by decide +kernel
theorem dX11_spend_30 : decode cX11_spend 30 = .ok (.iload_n 2, 1) := by decide +kernel
theorem dX11_spend_31 : decode cX11_spend 31 = .ok (.invokestatic 529, 3) := by decide +kernel
theorem dX11_spend_34 : decode cX11_spend 34 = .ok (.iadd, 1) := by decide +kernel
theorem dX11_spend_35 : decode cX11_spend 35 = .ok (.iastore, 1) := by decide +kernel
theorem dX11_spend_36 : decode cX11_spend 36 = .ok (.return_, 1) := by decide +kernel
theorem dX11_get_0 : decode cX11_get 0 = .ok (.aload_n 0, 1) := by decide +kernel
theorem dX11_get_1 : decode cX11_get 1 = .ok (.iload_n 1, 1) := by decide +kernel
theorem dX11_get_2 : decode cX11_get 2 = .ok (.iload_n 3, 1) := by decide +kernel
theorem dX11_get_3 : decode cX11_get 3 = .ok (.invokevirtual 532, 3) := by decide +kernel
theorem dX11_get_6 : decode cX11_get 6 = .ok (.aload_n 0, 1) := by decide +kernel
theorem dX11_get_7 : decode cX11_get 7 = .ok (.getfield 121, 3) := by decide +kernel
theorem dX11_get_10 : decode cX11_get 10 = .ok (.iconst 5, 1) := by decide +kernel
theorem dX11_get_11 : decode cX11_get 11 = .ok (.iload_n 2, 1) := by decide +kernel
theorem dX11_get_12 : decode cX11_get 12 = .ok (.imul, 1) := by decide +kernel
theorem dX11_get_13 : decode cX11_get 13 = .ok (.iconst 2, 1) := by decide +kernel
theorem dX11_get_14 : decode cX11_get 14 = .ok (.iadd, 1) := by decide +kernel
theorem dX11_get_15 : decode cX11_get 15 = .ok (.iload_n 1, 1) := by decide +kernel
theorem dX11_get_16 : decode cX11_get 16 = .ok (.iastore, 1) := by decide +kernel
theorem dX11_get_17 : decode cX11_get 17 = .ok (.aload_n 0, 1) := by decide +kernel
theorem dX11_get_18 : decode cX11_get 18 = .ok (.getfield 121, 3) := by decide +kernel
theorem dX11_get_21 : decode cX11_get 21 = .ok (.bipush 51, 2) := by decide +kernel
theorem dX11_get_23 : decode cX11_get 23 = .ok (.iconst 3, 1) := by decide +kernel
theorem dX11_get_24 : decode cX11_get 24 = .ok (.iload_n 1, 1) := by decide +kernel
theorem dX11_get_25 : decode cX11_get 25 = .ok (.imul, 1) := by decide +kernel
theorem dX11_get_26 : decode cX11_get 26 = .ok (.iadd, 1) := by decide +kernel
theorem dX11_get_27 : decode cX11_get 27 = .ok (.dup2, 1) := by decide +kernel
theorem dX11_get_28 : decode cX11_get 28 = .ok (.iaload, 1) := by decide +kernel
theorem dX11_get_29 : decode cX11_get 29 = .ok (.iconst 1, 1) := by decide +kernel
theorem dX11_get_30 : decode cX11_get 30 = .ok (.iadd, 1) := by decide +kernel
theorem dX11_get_31 : decode cX11_get 31 = .ok (.iastore, 1) := by decide +kernel
theorem dX11_get_32 : decode cX11_get 32 = .ok (.return_, 1) := by decide +kernel
theorem dX11_miss_0 : decode cX11_miss 0 = .ok (.aload_n 0, 1) := by decide +kernel
theorem dX11_miss_1 : decode cX11_miss 1 = .ok (.iload_n 1, 1) := by decide +kernel
theorem dX11_miss_2 : decode cX11_miss 2 = .ok (.iload_n 3, 1) := by decide +kernel
theorem dX11_miss_3 : decode cX11_miss 3 = .ok (.invokevirtual 532, 3) := by decide +kernel
theorem dX11_miss_6 : decode cX11_miss 6 = .ok (.aload_n 0, 1) := by decide +kernel
theorem dX11_miss_7 : decode cX11_miss 7 = .ok (.getfield 121, 3) := by decide +kernel
theorem dX11_miss_10 : decode cX11_miss 10 = .ok (.iconst 5, 1) := by decide +kernel
theorem dX11_miss_11 : decode cX11_miss 11 = .ok (.iload_n 2, 1) := by decide +kernel
theorem dX11_miss_12 : decode cX11_miss 12 = .ok (.imul, 1) := by decide +kernel
theorem dX11_miss_13 : decode cX11_miss 13 = .ok (.iconst 3, 1) := by decide +kernel
theorem dX11_miss_14 : decode cX11_miss 14 = .ok (.iadd, 1) := by decide +kernel
theorem dX11_miss_15 : decode cX11_miss 15 = .ok (.dup2, 1) := by decide +kernel
theorem dX11_miss_16 : decode cX11_miss 16 = .ok (.iaload, 1) := by decide +kernel
theorem dX11_miss_17 : decode cX11_miss 17 = .ok (.iconst 1, 1) := by decide +kernel
theorem dX11_miss_18 : decode cX11_miss 18 = .ok (.iadd, 1) := by decide +kernel
theorem dX11_miss_19 : decode cX11_miss 19 = .ok (.iastore, 1) := by decide +kernel
theorem dX11_miss_20 : decode cX11_miss 20 = .ok (.iload_n 3, 1) := by decide +kernel
theorem dX11_miss_21 : decode cX11_miss 21 = .ok (.ifCond .ne 37, 3) := by decide +kernel
theorem dX11_miss_24 : decode cX11_miss 24 = .ok (.aload_n 0, 1) := by decide +kernel
theorem dX11_miss_25 : decode cX11_miss 25 = .ok (.getfield 85, 3) := by decide +kernel
theorem dX11_miss_28 : decode cX11_miss 28 = .ok (.iload_n 2, 1) := by decide +kernel
theorem dX11_miss_29 : decode cX11_miss 29 = .ok (.iaload, 1) := by decide +kernel
theorem dX11_miss_30 : decode cX11_miss 30 = .ok (.aload_n 0, 1) := by decide +kernel
theorem dX11_miss_31 : decode cX11_miss 31 = .ok (.getfield 118, 3) := by decide +kernel
theorem dX11_miss_34 : decode cX11_miss 34 = .ok (.if_icmp .lt 24, 3) := by decide +kernel
theorem dX11_miss_37 : decode cX11_miss 37 = .ok (.aload_n 0, 1) := by decide +kernel
theorem dX11_miss_38 : decode cX11_miss 38 = .ok (.getfield 121, 3) := by decide +kernel
theorem dX11_miss_41 : decode cX11_miss 41 = .ok (.iconst 5, 1) := by decide +kernel
theorem dX11_miss_42 : decode cX11_miss 42 = .ok (.iload_n 2, 1) := by decide +kernel
theorem dX11_miss_43 : decode cX11_miss 43 = .ok (.imul, 1) := by decide +kernel
theorem dX11_miss_44 : decode cX11_miss 44 = .ok (.iconst 4, 1) := by decide +kernel
theorem dX11_miss_45 : decode cX11_miss 45 = .ok (.iadd, 1) := by decide +kernel
theorem dX11_miss_46 : decode cX11_miss 46 = .ok (.dup2, 1) := by decide +kernel
theorem dX11_miss_47 : decode cX11_miss 47 = .ok (.iaload, 1) := by decide +kernel
theorem dX11_miss_48 : decode cX11_miss 48 = .ok (.aload_n 0, 1) := by decide +kernel
theorem dX11_miss_49 : decode cX11_miss 49 = .ok (.getfield 109, 3) := by decide +kernel
theorem dX11_miss_52 : decode cX11_miss 52 = .ok (.iload_n 1, 1) := by decide +kernel
theorem dX11_miss_53 : decode cX11_miss 53 = .ok (.iaload, 1) := by decide +kernel
theorem dX11_miss_54 : decode cX11_miss 54 = .ok (.iconst 1, 1) := by decide +kernel
theorem dX11_miss_55 : decode cX11_miss 55 = .ok (.iadd, 1) := by decide +kernel
theorem dX11_miss_56 : decode cX11_miss 56 = .ok (.isub, 1) := by decide +kernel
theorem dX11_miss_57 : decode cX11_miss 57 = .ok (.iastore, 1) := by decide +kernel
theorem dX11_miss_58 : decode cX11_miss 58 = .ok (.aload_n 0, 1) := by decide +kernel
theorem dX11_miss_59 : decode cX11_miss 59 = .ok (.getfield 121, 3) := by decide +kernel
theorem dX11_miss_62 : decode cX11_miss 62 = .ok (.iconst 5, 1) := by decide +kernel
theorem dX11_miss_63 : decode cX11_miss 63 = .ok (.iload_n 2, 1) := by decide +kernel
theorem dX11_miss_64 : decode cX11_miss 64 = .ok (.imul, 1) := by decide +kernel
theorem dX11_miss_65 : decode cX11_miss 65 = .ok (.iconst 4, 1) := by decide +kernel
theorem dX11_miss_66 : decode cX11_miss 66 = .ok (.iadd, 1) := by decide +kernel
theorem dX11_miss_67 : decode cX11_miss 67 = .ok (.iaload, 1) := by decide +kernel
theorem dX11_miss_68 : decode cX11_miss 68 = .ok (.ifCond .gt 26, 3) := by decide +kernel
theorem dX11_miss_71 : decode cX11_miss 71 = .ok (.aload_n 0, 1) := by decide +kernel
theorem dX11_miss_72 : decode cX11_miss 72 = .ok (.getfield 121, 3) := by decide +kernel
theorem dX11_miss_75 : decode cX11_miss 75 = .ok (.iconst 5, 1) := by decide +kernel
theorem dX11_miss_76 : decode cX11_miss 76 = .ok (.iload_n 2, 1) := by decide +kernel
theorem dX11_miss_77 : decode cX11_miss 77 = .ok (.imul, 1) := by decide +kernel
theorem dX11_miss_78 : decode cX11_miss 78 = .ok (.iconst 4, 1) := by decide +kernel
theorem dX11_miss_79 : decode cX11_miss 79 = .ok (.iadd, 1) := by decide +kernel
theorem dX11_miss_80 : decode cX11_miss 80 = .ok (.iconst 0, 1) := by decide +kernel
theorem dX11_miss_81 : decode cX11_miss 81 = .ok (.iastore, 1) := by decide +kernel
theorem dX11_miss_82 : decode cX11_miss 82 = .ok (.aload_n 0, 1) := by decide +kernel
theorem dX11_miss_83 : decode cX11_miss 83 = .ok (.getfield 121, 3) := by decide +kernel
theorem dX11_miss_86 : decode cX11_miss 86 = .ok (.iconst 5, 1) := by decide +kernel
theorem dX11_miss_87 : decode cX11_miss 87 = .ok (.iload_n 2, 1) := by decide +kernel
theorem dX11_miss_88 : decode cX11_miss 88 = .ok (.imul, 1) := by decide +kernel
theorem dX11_miss_89 : decode cX11_miss 89 = .ok (.iconst 2, 1) := by decide +kernel
theorem dX11_miss_90 : decode cX11_miss 90 = .ok (.iadd, 1) := by decide +kernel
theorem dX11_miss_91 : decode cX11_miss 91 = .ok (.bipush 9, 2) := by decide +kernel
theorem dX11_miss_93 : decode cX11_miss 93 = .ok (.iastore, 1) := by decide +kernel
theorem dX11_miss_94 : decode cX11_miss 94 = .ok (.iload_n 3, 1) := by decide +kernel
theorem dX11_miss_95 : decode cX11_miss 95 = .ok (.iconst 2, 1) := by decide +kernel
theorem dX11_miss_96 : decode cX11_miss 96 = .ok (.if_icmp .ge 17, 3) := by decide +kernel
theorem dX11_miss_99 : decode cX11_miss 99 = .ok (.aload_n 0, 1) := by decide +kernel
theorem dX11_miss_100 : decode cX11_miss 100 = .ok (.iload_n 2, 1) := by decide +kernel
theorem dX11_miss_101 : decode cX11_miss 101 = .ok (.invokevirtual 501, 3) := by decide +kernel
theorem dX11_miss_104 : decode cX11_miss 104 = .ok (.ifCond .eq 9, 3) := by decide +kernel
theorem dX11_miss_107 : decode cX11_miss 107 = .ok (.aload_n 0, 1) := by decide +kernel
theorem dX11_miss_108 : decode cX11_miss 108 = .ok (.iload_n 1, 1) := by decide +kernel
theorem dX11_miss_109 : decode cX11_miss 109 = .ok (.iload_n 2, 1) := by decide +kernel
theorem dX11_miss_110 : decode cX11_miss 110 = .ok (.invokevirtual 535, 3) := by decide +kernel
theorem dX11_miss_113 : decode cX11_miss 113 = .ok (.return_, 1) := by decide +kernel
theorem dX11_tries_0 : decode cX11_tries 0 = .ok (.aload_n 0, 1) := by decide +kernel
theorem dX11_tries_1 : decode cX11_tries 1 = .ok (.iload_n 1, 1) := by decide +kernel
theorem dX11_tries_2 : decode cX11_tries 2 = .ok (.iload_n 2, 1) := by decide +kernel
theorem dX11_tries_3 : decode cX11_tries 3 = .ok (.iload_n 3, 1) := by decide +kernel
theorem dX11_tries_4 : decode cX11_tries 4 = .ok (.invokevirtual 538, 3) := by decide +kernel
theorem dX11_tries_7 : decode cX11_tries 7 = .ok (.istore 4, 2) := by decide +kernel
theorem dX11_tries_9 : decode cX11_tries 9 = .ok (.aload_n 0, 1) := by decide +kernel
theorem dX11_tries_10 : decode cX11_tries 10 = .ok (.getfield 121, 3) := by decide +kernel
theorem dX11_tries_13 : decode cX11_tries 13 = .ok (.bipush 62, 2) := by decide +kernel
theorem dX11_tries_15 : decode cX11_tries 15 = .ok (.aload_n 0, 1) := by decide +kernel
theorem dX11_tries_16 : decode cX11_tries 16 = .ok (.getfield 121, 3) := by decide +kernel
theorem dX11_tries_19 : decode cX11_tries 19 = .ok (.bipush 62, 2) := by decide +kernel
theorem dX11_tries_21 : decode cX11_tries 21 = .ok (.iaload, 1) := by decide +kernel
theorem dX11_tries_22 : decode cX11_tries 22 = .ok (.sipush 137, 3) := by decide +kernel
theorem dX11_tries_25 : decode cX11_tries 25 = .ok (.imul, 1) := by decide +kernel
theorem dX11_tries_26 : decode cX11_tries 26 = .ok (.bipush 71, 2) := by decide +kernel
theorem dX11_tries_28 : decode cX11_tries 28 = .ok (.iadd, 1) := by decide +kernel
theorem dX11_tries_29 : decode cX11_tries 29 = .ok (.sipush 1000, 3) := by decide +kernel
theorem dX11_tries_32 : decode cX11_tries 32 = .ok (.irem, 1) := by decide +kernel
theorem dX11_tries_33 : decode cX11_tries 33 = .ok (.iastore, 1) := by decide +kernel
theorem dX11_tries_34 : decode cX11_tries 34 = .ok (.aload_n 0, 1) := by decide +kernel
theorem dX11_tries_35 : decode cX11_tries 35 = .ok (.getfield 121, 3) := by decide +kernel
theorem dX11_tries_38 : decode cX11_tries 38 = .ok (.bipush 62, 2) := by decide +kernel
theorem dX11_tries_40 : decode cX11_tries 40 = .ok (.iaload, 1) := by decide +kernel
theorem dX11_tries_41 : decode cX11_tries 41 = .ok (.bipush 10, 2) := by decide +kernel
theorem dX11_tries_43 : decode cX11_tries 43 = .ok (.idiv, 1) := by decide +kernel
theorem dX11_tries_44 : decode cX11_tries 44 = .ok (.iload 4, 2) := by decide +kernel
theorem dX11_tries_46 : decode cX11_tries 46 = .ok (.if_icmp .ge 7, 3) := by decide +kernel
theorem dX11_tries_49 : decode cX11_tries 49 = .ok (.iconst 1, 1) := by decide +kernel
theorem dX11_tries_50 : decode cX11_tries 50 = .ok (.goto 4, 3) := by decide +kernel
theorem dX11_tries_53 : decode cX11_tries 53 = .ok (.iconst 0, 1) := by decide +kernel
theorem dX11_tries_54 : decode cX11_tries 54 = .ok (.istore 5, 2) := by decide +kernel
theorem dX11_tries_56 : decode cX11_tries 56 = .ok (.bipush 63, 2) := by decide +kernel
theorem dX11_tries_58 : decode cX11_tries 58 = .ok (.bipush 15, 2) := by decide +kernel
theorem dX11_tries_60 : decode cX11_tries 60 = .ok (.iload_n 1, 1) := by decide +kernel
theorem dX11_tries_61 : decode cX11_tries 61 = .ok (.imul, 1) := by decide +kernel
theorem dX11_tries_62 : decode cX11_tries 62 = .ok (.iadd, 1) := by decide +kernel
theorem dX11_tries_63 : decode cX11_tries 63 = .ok (.iconst 3, 1) := by decide +kernel
theorem dX11_tries_64 : decode cX11_tries 64 = .ok (.iload_n 3, 1) := by decide +kernel
theorem dX11_tries_65 : decode cX11_tries 65 = .ok (.imul, 1) := by decide +kernel
theorem dX11_tries_66 : decode cX11_tries 66 = .ok (.iadd, 1) := by decide +kernel
theorem dX11_tries_67 : decode cX11_tries 67 = .ok (.istore 6, 2) := by decide +kernel
theorem dX11_tries_69 : decode cX11_tries 69 = .ok (.aload_n 0, 1) := by decide +kernel
theorem dX11_tries_70 : decode cX11_tries 70 = .ok (.getfield 121, 3) := by decide +kernel
theorem dX11_tries_73 : decode cX11_tries 73 = .ok (.iload 6, 2) := by decide +kernel
theorem dX11_tries_75 : decode cX11_tries 75 = .ok (.dup2, 1) := by decide +kernel
theorem dX11_tries_76 : decode cX11_tries 76 = .ok (.iaload, 1) := by decide +kernel
theorem dX11_tries_77 : decode cX11_tries 77 = .ok (.iconst 1, 1) := by decide +kernel
theorem dX11_tries_78 : decode cX11_tries 78 = .ok (.iadd, 1) := by decide +kernel
theorem dX11_tries_79 : decode cX11_tries 79 = .ok (.iastore, 1) := by decide +kernel
theorem dX11_tries_80 : decode cX11_tries 80 = .ok (.aload_n 0, 1) := by decide +kernel
theorem dX11_tries_81 : decode cX11_tries 81 = .ok (.getfield 121, 3) := by decide +kernel
theorem dX11_tries_84 : decode cX11_tries 84 = .ok (.iload 6, 2) := by decide +kernel
theorem dX11_tries_86 : decode cX11_tries 86 = .ok (.iconst 1, 1) := by decide +kernel
theorem dX11_tries_87 : decode cX11_tries 87 = .ok (.iadd, 1) := by decide +kernel
theorem dX11_tries_88 : decode cX11_tries 88 = .ok (.dup2, 1) := by decide +kernel
theorem dX11_tries_89 : decode cX11_tries 89 = .ok (.iaload, 1) := by decide +kernel
theorem dX11_tries_90 : decode cX11_tries 90 = .ok (.iload 5, 2) := by decide +kernel
theorem dX11_tries_92 : decode cX11_tries 92 = .ok (.ifCond .eq 7, 3) := by decide +kernel
theorem dX11_tries_95 : decode cX11_tries 95 = .ok (.iconst 1, 1) := by decide +kernel
theorem dX11_tries_96 : decode cX11_tries 96 = .ok (.goto 4, 3) := by decide +kernel
theorem dX11_tries_99 : decode cX11_tries 99 = .ok (.iconst 0, 1) := by decide +kernel
theorem dX11_tries_100 : decode cX11_tries 100 = .ok (.iadd, 1) := by decide +kernel
theorem dX11_tries_101 : decode cX11_tries 101 = .ok (.iastore, 1) := by decide +kernel
theorem dX11_tries_102 : decode cX11_tries 102 = .ok (.aload_n 0, 1) := by decide +kernel
theorem dX11_tries_103 : decode cX11_tries 103 = .ok (.getfield 121, 3) := by decide +kernel
theorem dX11_tries_106 : decode cX11_tries 106 = .ok (.iload 6, 2) := by decide +kernel
theorem dX11_tries_108 : decode cX11_tries 108 = .ok (.iconst 2, 1) := by decide +kernel
theorem dX11_tries_109 : decode cX11_tries 109 = .ok (.iadd, 1) := by decide +kernel
theorem dX11_tries_110 : decode cX11_tries 110 = .ok (.dup2, 1) := by decide +kernel
theorem dX11_tries_111 : decode cX11_tries 111 = .ok (.iaload, 1) := by decide +kernel
theorem dX11_tries_112 : decode cX11_tries 112 = .ok (.iload 4, 2) := by decide +kernel
theorem dX11_tries_114 : decode cX11_tries 114 = .ok (.iadd, 1) := by decide +kernel
theorem dX11_tries_115 : decode cX11_tries 115 = .ok (.iastore, 1) := by decide +kernel
theorem dX11_tries_116 : decode cX11_tries 116 = .ok (.iload 5, 2) := by decide +kernel
theorem dX11_tries_118 : decode cX11_tries 118 = .ok (.ifCond .eq 13, 3) := by decide +kernel
theorem dX11_tries_121 : decode cX11_tries 121 = .ok (.aload_n 0, 1) := by decide +kernel
theorem dX11_tries_122 : decode cX11_tries 122 = .ok (.iload_n 1, 1) := by decide +kernel
theorem dX11_tries_123 : decode cX11_tries 123 = .ok (.iload_n 2, 1) := by decide +kernel
theorem dX11_tries_124 : decode cX11_tries 124 = .ok (.iload_n 3, 1) := by decide +kernel
theorem dX11_tries_125 : decode cX11_tries 125 = .ok (.invokevirtual 541, 3) := by decide +kernel
theorem dX11_tries_128 : decode cX11_tries 128 = .ok (.goto 10, 3) := by decide +kernel
theorem dX11_tries_131 : decode cX11_tries 131 = .ok (.aload_n 0, 1) := by decide +kernel
theorem dX11_tries_132 : decode cX11_tries 132 = .ok (.iload_n 1, 1) := by decide +kernel
theorem dX11_tries_133 : decode cX11_tries 133 = .ok (.iload_n 2, 1) := by decide +kernel
theorem dX11_tries_134 : decode cX11_tries 134 = .ok (.iload_n 3, 1) := by decide +kernel
theorem dX11_tries_135 : decode cX11_tries 135 = .ok (.invokevirtual 545, 3) := by decide +kernel
theorem dX11_tries_138 : decode cX11_tries 138 = .ok (.iload 5, 2) := by decide +kernel
theorem dX11_tries_140 : decode cX11_tries 140 = .ok (.ireturn, 1) := by decide +kernel
theorem dX11_breathes_0 : decode cX11_breathes 0 = .ok (.aload_n 0, 1) := by decide +kernel
theorem dX11_breathes_1 : decode cX11_breathes 1 = .ok (.getfield 121, 3) := by decide +kernel
theorem dX11_breathes_4 : decode cX11_breathes 4 = .ok (.bipush 50, 2) := by decide +kernel
theorem dX11_breathes_6 : decode cX11_breathes 6 = .ok (.iconst 3, 1) := by decide +kernel
theorem dX11_breathes_7 : decode cX11_breathes 7 = .ok (.iload_n 1, 1) := by decide +kernel
theorem dX11_breathes_8 : decode cX11_breathes 8 = .ok (.imul, 1) := by decide +kernel
theorem dX11_breathes_9 : decode cX11_breathes 9 = .ok (.iadd, 1) := by decide +kernel
theorem dX11_breathes_10 : decode cX11_breathes 10 = .ok (.aload_n 0, 1) := by decide +kernel
theorem dX11_breathes_11 : decode cX11_breathes 11 = .ok (.getfield 106, 3) := by decide +kernel
theorem dX11_breathes_14 : decode cX11_breathes 14 = .ok (.iload_n 1, 1) := by decide +kernel
theorem dX11_breathes_15 : decode cX11_breathes 15 = .ok (.iaload, 1) := by decide +kernel
theorem dX11_breathes_16 : decode cX11_breathes 16 = .ok (.iastore, 1) := by decide +kernel
theorem dX11_breathes_17 : decode cX11_breathes 17 = .ok (.aload_n 0, 1) := by decide +kernel
theorem dX11_breathes_18 : decode cX11_breathes 18 = .ok (.getfield 121, 3) := by decide +kernel
theorem dX11_breathes_21 : decode cX11_breathes 21 = .ok (.bipush 52, 2) := by decide +kernel
theorem dX11_breathes_23 : decode cX11_breathes 23 = .ok (.iconst 3, 1) := by decide +kernel
theorem dX11_breathes_24 : decode cX11_breathes 24 = .ok (.iload_n 1, 1) := by decide +kernel
theorem dX11_breathes_25 : decode cX11_breathes 25 = .ok (.imul, 1) := by decide +kernel
theorem dX11_breathes_26 : decode cX11_breathes 26 = .ok (.iadd, 1) := by decide +kernel
theorem dX11_breathes_27 : decode cX11_breathes 27 = .ok (.dup2, 1) := by decide +kernel
theorem dX11_breathes_28 : decode cX11_breathes 28 = .ok (.iaload, 1) := by decide +kernel
theorem dX11_breathes_29 : decode cX11_breathes 29 = .ok (.iconst 2, 1) := by decide +kernel
theorem dX11_breathes_30 : decode cX11_breathes 30 = .ok (.iadd, 1) := by decide +kernel
theorem dX11_breathes_31 : decode cX11_breathes 31 = .ok (.iastore, 1) := by decide +kernel
theorem dX11_breathes_32 : decode cX11_breathes 32 = .ok (.return_, 1) := by decide +kernel
theorem dX11_choice_0 : decode cX11_choice 0 = .ok (.iconst (-1), 1) := by decide +kernel
theorem dX11_choice_1 : decode cX11_choice 1 = .ok (.istore_n 3, 1) := by decide +kernel
theorem dX11_choice_2 : decode cX11_choice 2 = .ok (.iconst 0, 1) := by decide +kernel
theorem dX11_choice_3 : decode cX11_choice 3 = .ok (.istore 4, 2) := by decide +kernel
theorem dX11_choice_5 : decode cX11_choice 5 = .ok (.iconst 0, 1) := by decide +kernel
theorem dX11_choice_6 : decode cX11_choice 6 = .ok (.istore 5, 2) := by decide +kernel
theorem dX11_choice_8 : decode cX11_choice 8 = .ok (.iload 5, 2) := by decide +kernel
theorem dX11_choice_10 : decode cX11_choice 10 = .ok (.iconst 5, 1) := by decide +kernel
theorem dX11_choice_11 : decode cX11_choice 11 = .ok (.aload_n 0, 1) := by decide +kernel
theorem dX11_choice_12 : decode cX11_choice 12 = .ok (.getfield 467, 3) := by decide +kernel
theorem dX11_choice_15 : decode cX11_choice 15 = .ok (.imul, 1) := by decide +kernel
theorem dX11_choice_16 : decode cX11_choice 16 = .ok (.if_icmp .ge 91, 3) := by decide +kernel
theorem dX11_choice_19 : decode cX11_choice 19 = .ok (.aload_n 0, 1) := by decide +kernel
theorem dX11_choice_20 : decode cX11_choice 20 = .ok (.iload_n 1, 1) := by decide +kernel
theorem dX11_choice_21 : decode cX11_choice 21 = .ok (.iload 5, 2) := by decide +kernel
theorem dX11_choice_23 : decode cX11_choice 23 = .ok (.iconst 5, 1) := by decide +kernel
theorem dX11_choice_24 : decode cX11_choice 24 = .ok (.idiv, 1) := by decide +kernel
theorem dX11_choice_25 : decode cX11_choice 25 = .ok (.iload 5, 2) := by decide +kernel
theorem dX11_choice_27 : decode cX11_choice 27 = .ok (.iconst 5, 1) := by decide +kernel
theorem dX11_choice_28 : decode cX11_choice 28 = .ok (.irem, 1) := by decide +kernel
theorem dX11_choice_29 : decode cX11_choice 29 = .ok (.invokevirtual 548, 3) := by decide +kernel
theorem dX11_choice_32 : decode cX11_choice 32 = .ok (.ifCond .ne 6, 3) := by decide +kernel
theorem dX11_choice_35 : decode cX11_choice 35 = .ok (.goto 66, 3) := by decide +kernel
theorem dX11_choice_38 : decode cX11_choice 38 = .ok (.aload_n 0, 1) := by decide +kernel
theorem dX11_choice_39 : decode cX11_choice 39 = .ok (.getfield 464, 3) := by decide +kernel
theorem dX11_choice_42 : decode cX11_choice 42 = .ok (.ifCond .ne 7, 3) := by decide +kernel
theorem dX11_choice_45 : decode cX11_choice 45 = .ok (.iconst 0, 1) := by decide +kernel
theorem dX11_choice_46 : decode cX11_choice 46 = .ok (.goto 32, 3) := by decide +kernel
theorem dX11_choice_49 : decode cX11_choice 49 = .ok (.aload_n 0, 1) := by decide +kernel
theorem dX11_choice_50 : decode cX11_choice 50 = .ok (.iconst 5, 1) := by decide +kernel
theorem dX11_choice_51 : decode cX11_choice 51 = .ok (.iload_n 2, 1) := by decide +kernel
theorem dX11_choice_52 : decode cX11_choice 52 = .ok (.iadd, 1) := by decide +kernel
theorem dX11_choice_53 : decode cX11_choice 53 = .ok (.iload_n 1, 1) := by decide +kernel
theorem dX11_choice_54 : decode cX11_choice 54 = .ok (.iload 5, 2) := by decide +kernel
theorem dX11_choice_56 : decode cX11_choice 56 = .ok (.iconst 5, 1) := by decide +kernel
theorem dX11_choice_57 : decode cX11_choice 57 = .ok (.idiv, 1) := by decide +kernel
theorem dX11_choice_58 : decode cX11_choice 58 = .ok (.iload 5, 2) := by decide +kernel
theorem dX11_choice_60 : decode cX11_choice 60 = .ok (.iconst 5, 1) := by decide +kernel
theorem dX11_choice_61 : decode cX11_choice 61 = .ok (.irem, 1) := by decide +kernel
theorem dX11_choice_62 : decode cX11_choice 62 = .ok (.aload_n 0, 1) := by decide +kernel
theorem dX11_choice_63 : decode cX11_choice 63 = .ok (.iload_n 1, 1) := by decide +kernel
theorem dX11_choice_64 : decode cX11_choice 64 = .ok (.iload 5, 2) := by decide +kernel
theorem dX11_choice_66 : decode cX11_choice 66 = .ok (.iconst 5, 1) := by decide +kernel
theorem dX11_choice_67 : decode cX11_choice 67 = .ok (.idiv, 1) := by decide +kernel
theorem dX11_choice_68 : decode cX11_choice 68 = .ok (.iload 5, 2) := by decide +kernel
theorem dX11_choice_70 : decode cX11_choice 70 = .ok (.iconst 5, 1) := by decide +kernel
theorem dX11_choice_71 : decode cX11_choice 71 = .ok (.irem, 1) := by decide +kernel
theorem dX11_choice_72 : decode cX11_choice 72 = .ok (.invokevirtual 538, 3) := by decide +kernel
theorem dX11_choice_75 : decode cX11_choice 75 = .ok (.invokevirtual 511, 3) := by decide +kernel
theorem dX11_choice_78 : decode cX11_choice 78 = .ok (.istore 6, 2) := by decide +kernel
theorem dX11_choice_80 : decode cX11_choice 80 = .ok (.iload_n 3, 1) := by decide +kernel
theorem dX11_choice_81 : decode cX11_choice 81 = .ok (.ifCond .lt 13, 3) := by decide +kernel
theorem dX11_choice_84 : decode cX11_choice 84 = .ok (.iload 6, 2) := by decide +kernel
theorem dX11_choice_86 : decode cX11_choice 86 = .ok (.iload 4, 2) := by decide +kernel
theorem dX11_choice_88 : decode cX11_choice 88 = .ok (.if_icmp .gt 6, 3) := by decide +kernel
theorem dX11_choice_91 : decode cX11_choice 91 = .ok (.goto 10, 3) := by decide +kernel
theorem dX11_choice_94 : decode cX11_choice 94 = .ok (.iload 5, 2) := by decide +kernel
theorem dX11_choice_96 : decode cX11_choice 96 = .ok (.istore_n 3, 1) := by decide +kernel
theorem dX11_choice_97 : decode cX11_choice 97 = .ok (.iload 6, 2) := by decide +kernel
theorem dX11_choice_99 : decode cX11_choice 99 = .ok (.istore 4, 2) := by decide +kernel
theorem dX11_choice_101 : decode cX11_choice 101 = .ok (.iinc 5 1, 3) := by decide +kernel
theorem dX11_choice_104 : decode cX11_choice 104 = .ok (.goto (-96), 3) := by decide +kernel
theorem dX11_choice_107 : decode cX11_choice 107 = .ok (.iload_n 3, 1) := by decide +kernel
theorem dX11_choice_108 : decode cX11_choice 108 = .ok (.ireturn, 1) := by decide +kernel
theorem dX11_actsBy_0 : decode cX11_actsBy 0 = .ok (.aload_n 0, 1) := by decide +kernel
theorem dX11_actsBy_1 : decode cX11_actsBy 1 = .ok (.iload_n 1, 1) := by decide +kernel
theorem dX11_actsBy_2 : decode cX11_actsBy 2 = .ok (.iload_n 2, 1) := by decide +kernel
theorem dX11_actsBy_3 : decode cX11_actsBy 3 = .ok (.invokevirtual 551, 3) := by decide +kernel
theorem dX11_actsBy_6 : decode cX11_actsBy 6 = .ok (.istore_n 3, 1) := by decide +kernel
theorem dX11_actsBy_7 : decode cX11_actsBy 7 = .ok (.iload_n 3, 1) := by decide +kernel
theorem dX11_actsBy_8 : decode cX11_actsBy 8 = .ok (.ifCond .lt 15, 3) := by decide +kernel
theorem dX11_actsBy_11 : decode cX11_actsBy 11 = .ok (.aload_n 0, 1) := by decide +kernel
theorem dX11_actsBy_12 : decode cX11_actsBy 12 = .ok (.iload_n 1, 1) := by decide +kernel
theorem dX11_actsBy_13 : decode cX11_actsBy 13 = .ok (.iload_n 3, 1) := by decide +kernel
theorem dX11_actsBy_14 : decode cX11_actsBy 14 = .ok (.iconst 5, 1) := by decide +kernel
theorem dX11_actsBy_15 : decode cX11_actsBy 15 = .ok (.idiv, 1) := by decide +kernel
theorem dX11_actsBy_16 : decode cX11_actsBy 16 = .ok (.iload_n 3, 1) := by decide +kernel
theorem dX11_actsBy_17 : decode cX11_actsBy 17 = .ok (.iconst 5, 1) := by decide +kernel
theorem dX11_actsBy_18 : decode cX11_actsBy 18 = .ok (.irem, 1) := by decide +kernel
theorem dX11_actsBy_19 : decode cX11_actsBy 19 = .ok (.invokevirtual 554, 3) := by decide +kernel
theorem dX11_actsBy_22 : decode cX11_actsBy 22 = .ok (.ireturn, 1) := by decide +kernel
theorem dX11_actsBy_23 : decode cX11_actsBy 23 = .ok (.aload_n 0, 1) := by decide +kernel
theorem dX11_actsBy_24 : decode cX11_actsBy 24 = .ok (.iload_n 1, 1) := by decide +kernel
theorem dX11_actsBy_25 : decode cX11_actsBy 25 = .ok (.invokevirtual 557, 3) := by decide +kernel
theorem dX11_actsBy_28 : decode cX11_actsBy 28 = .ok (.iconst 0, 1) := by decide +kernel
theorem dX11_actsBy_29 : decode cX11_actsBy 29 = .ok (.ireturn, 1) := by decide +kernel
theorem dX11_afloatAll_0 : decode cX11_afloatAll 0 = .ok (.iconst 0, 1) := by decide +kernel
theorem dX11_afloatAll_1 : decode cX11_afloatAll 1 = .ok (.istore_n 1, 1) := by decide +kernel
theorem dX11_afloatAll_2 : decode cX11_afloatAll 2 = .ok (.iconst 0, 1) := by decide +kernel
theorem dX11_afloatAll_3 : decode cX11_afloatAll 3 = .ok (.istore_n 2, 1) := by decide +kernel
theorem dX11_afloatAll_4 : decode cX11_afloatAll 4 = .ok (.iload_n 2, 1) := by decide +kernel
theorem dX11_afloatAll_5 : decode cX11_afloatAll 5 = .ok (.aload_n 0, 1) := by decide +kernel
theorem dX11_afloatAll_6 : decode cX11_afloatAll 6 = .ok (.getfield 467, 3) := by decide +kernel
theorem dX11_afloatAll_9 : decode cX11_afloatAll 9 = .ok (.if_icmp .ge 25, 3) := by decide +kernel
theorem dX11_afloatAll_12 : decode cX11_afloatAll 12 = .ok (.iload_n 1, 1) := by decide +kernel
theorem dX11_afloatAll_13 : decode cX11_afloatAll 13 = .ok (.aload_n 0, 1) := by decide +kernel
theorem dX11_afloatAll_14 : decode cX11_afloatAll 14 = .ok (.iload_n 2, 1) := by decide +kernel
theorem dX11_afloatAll_15 : decode cX11_afloatAll 15 = .ok (.invokevirtual 501, 3) := by decide +kernel
theorem dX11_afloatAll_18 : decode cX11_afloatAll 18 = .ok (.ifCond .eq 7, 3) := by decide +kernel
theorem dX11_afloatAll_21 : decode cX11_afloatAll 21 = .ok (.iconst 1, 1) := by decide +kernel
theorem dX11_afloatAll_22 : decode cX11_afloatAll 22 = .ok (.goto 4, 3) := by decide +kernel
theorem dX11_afloatAll_25 : decode cX11_afloatAll 25 = .ok (.iconst 0, 1) := by decide +kernel
theorem dX11_afloatAll_26 : decode cX11_afloatAll 26 = .ok (.iadd, 1) := by decide +kernel
theorem dX11_afloatAll_27 : decode cX11_afloatAll 27 = .ok (.istore_n 1, 1) := by decide +kernel
theorem dX11_afloatAll_28 : decode cX11_afloatAll 28 = .ok (.iinc 2 1, 3) := by decide +kernel
theorem dX11_afloatAll_31 : decode cX11_afloatAll 31 = .ok (.goto (-27), 3) := by decide +kernel
theorem dX11_afloatAll_34 : decode cX11_afloatAll 34 = .ok (.iload_n 1, 1) := by decide +kernel
theorem dX11_afloatAll_35 : decode cX11_afloatAll 35 = .ok (.ireturn, 1) := by decide +kernel
theorem dX11_apple_0 : decode cX11_apple 0 = .ok (.aload_n 0, 1) := by decide +kernel
theorem dX11_apple_1 : decode cX11_apple 1 = .ok (.iload_n 1, 1) := by decide +kernel
theorem dX11_apple_2 : decode cX11_apple 2 = .ok (.invokevirtual 560, 3) := by decide +kernel
theorem dX11_apple_5 : decode cX11_apple 5 = .ok (.ifCond .eq 25, 3) := by decide +kernel
theorem dX11_apple_8 : decode cX11_apple 8 = .ok (.iload_n 2, 1) := by decide +kernel
theorem dX11_apple_9 : decode cX11_apple 9 = .ok (.iconst 0, 1) := by decide +kernel
theorem dX11_apple_10 : decode cX11_apple 10 = .ok (.iconst 4, 1) := by decide +kernel
theorem dX11_apple_11 : decode cX11_apple 11 = .ok (.invokestatic 494, 3) := by decide +kernel
theorem dX11_apple_14 : decode cX11_apple 14 = .ok (.ifCond .eq 16, 3) := by decide +kernel
theorem dX11_apple_17 : decode cX11_apple 17 = .ok (.aload_n 0, 1) := by decide +kernel
theorem dX11_apple_18 : decode cX11_apple 18 = .ok (.getfield 124, 3) := by decide +kernel
theorem dX11_apple_21 : decode cX11_apple 21 = .ok (.iconst 5, 1) := by decide +kernel
theorem dX11_apple_22 : decode cX11_apple 22 = .ok (.iload_n 1, 1) := by decide +kernel
theorem dX11_apple_23 : decode cX11_apple 23 = .ok (.imul, 1) := by decide +kernel
theorem dX11_apple_24 : decode cX11_apple 24 = .ok (.iload_n 2, 1) := by decide +kernel
theorem dX11_apple_25 : decode cX11_apple 25 = .ok (.iadd, 1) := by decide +kernel
theorem dX11_apple_26 : decode cX11_apple 26 = .ok (.iaload, 1) := by decide +kernel
theorem dX11_apple_27 : decode cX11_apple 27 = .ok (.goto 5, 3) := by decide +kernel
theorem dX11_apple_30 : decode cX11_apple 30 = .ok (.bipush (-2), 2) := by decide +kernel
theorem dX11_apple_32 : decode cX11_apple 32 = .ok (.ireturn, 1) := by decide +kernel
theorem dX11_bobber_0 : decode cX11_bobber 0 = .ok (.aload_n 0, 1) := by decide +kernel
theorem dX11_bobber_1 : decode cX11_bobber 1 = .ok (.iload_n 1, 1) := by decide +kernel
theorem dX11_bobber_2 : decode cX11_bobber 2 = .ok (.invokevirtual 563, 3) := by decide +kernel
theorem dX11_bobber_5 : decode cX11_bobber 5 = .ok (.ifCond .eq 28, 3) := by decide +kernel
theorem dX11_bobber_8 : decode cX11_bobber 8 = .ok (.iload_n 2, 1) := by decide +kernel
theorem dX11_bobber_9 : decode cX11_bobber 9 = .ok (.iconst 0, 1) := by decide +kernel
theorem dX11_bobber_10 : decode cX11_bobber 10 = .ok (.iconst 2, 1) := by decide +kernel
theorem dX11_bobber_11 : decode cX11_bobber 11 = .ok (.invokestatic 494, 3) := by decide +kernel
theorem dX11_bobber_14 : decode cX11_bobber 14 = .ok (.ifCond .eq 19, 3) := by decide +kernel
theorem dX11_bobber_17 : decode cX11_bobber 17 = .ok (.aload_n 0, 1) := by decide +kernel
theorem dX11_bobber_18 : decode cX11_bobber 18 = .ok (.getfield 124, 3) := by decide +kernel
theorem dX11_bobber_21 : decode cX11_bobber 21 = .ok (.bipush 50, 2) := by decide +kernel
theorem dX11_bobber_23 : decode cX11_bobber 23 = .ok (.iconst 3, 1) := by decide +kernel
theorem dX11_bobber_24 : decode cX11_bobber 24 = .ok (.iload_n 1, 1) := by decide +kernel
theorem dX11_bobber_25 : decode cX11_bobber 25 = .ok (.imul, 1) := by decide +kernel
theorem dX11_bobber_26 : decode cX11_bobber 26 = .ok (.iadd, 1) := by decide +kernel
theorem dX11_bobber_27 : decode cX11_bobber 27 = .ok (.iload_n 2, 1) := by decide +kernel
theorem dX11_bobber_28 : decode cX11_bobber 28 = .ok (.iadd, 1) := by decide +kernel
theorem dX11_bobber_29 : decode cX11_bobber 29 = .ok (.iaload, 1) := by decide +kernel
theorem dX11_bobber_30 : decode cX11_bobber 30 = .ok (.goto 4, 3) := by decide +kernel
theorem dX11_bobber_33 : decode cX11_bobber 33 = .ok (.iconst (-1), 1) := by decide +kernel
theorem dX11_bobber_34 : decode cX11_bobber 34 = .ok (.ireturn, 1) := by decide +kernel
theorem dX11_mayTry_0 : decode cX11_mayTry 0 = .ok (.aload_n 0, 1) := by decide +kernel
theorem dX11_mayTry_1 : decode cX11_mayTry 1 = .ok (.invokevirtual 566, 3) := by decide +kernel
theorem dX11_mayTry_4 : decode cX11_mayTry 4 = .ok (.aload_n 0, 1) := by decide +kernel
theorem dX11_mayTry_5 : decode cX11_mayTry 5 = .ok (.iload_n 1, 1) := by decide +kernel
theorem dX11_mayTry_6 : decode cX11_mayTry 6 = .ok (.invokevirtual 563, 3) := by decide +kernel
theorem dX11_mayTry_9 : decode cX11_mayTry 9 = .ok (.ifCond .eq 34, 3) := by decide +kernel
theorem dX11_mayTry_12 : decode cX11_mayTry 12 = .ok (.aload_n 0, 1) := by decide +kernel
theorem dX11_mayTry_13 : decode cX11_mayTry 13 = .ok (.iload_n 2, 1) := by decide +kernel
theorem dX11_mayTry_14 : decode cX11_mayTry 14 = .ok (.invokevirtual 560, 3) := by decide +kernel
theorem dX11_mayTry_17 : decode cX11_mayTry 17 = .ok (.ifCond .eq 26, 3) := by decide +kernel
theorem dX11_mayTry_20 : decode cX11_mayTry 20 = .ok (.iload_n 3, 1) := by decide +kernel
theorem dX11_mayTry_21 : decode cX11_mayTry 21 = .ok (.iconst 0, 1) := by decide +kernel
theorem dX11_mayTry_22 : decode cX11_mayTry 22 = .ok (.iconst 4, 1) := by decide +kernel
theorem dX11_mayTry_23 : decode cX11_mayTry 23 = .ok (.invokestatic 494, 3) := by decide +kernel
theorem dX11_mayTry_26 : decode cX11_mayTry 26 = .ok (.ifCond .eq 17, 3) := by decide +kernel
theorem dX11_mayTry_29 : decode cX11_mayTry 29 = .ok (.aload_n 0, 1) := by decide +kernel
theorem dX11_mayTry_30 : decode cX11_mayTry 30 = .ok (.iload_n 1, 1) := by decide +kernel
theorem dX11_mayTry_31 : decode cX11_mayTry 31 = .ok (.iload_n 2, 1) := by decide +kernel
theorem dX11_mayTry_32 : decode cX11_mayTry 32 = .ok (.iload_n 3, 1) := by decide +kernel
theorem dX11_mayTry_33 : decode cX11_mayTry 33 = .ok (.invokevirtual 548, 3) := by decide +kernel
theorem dX11_mayTry_36 : decode cX11_mayTry 36 = .ok (.ifCond .eq 7, 3) := by decide +kernel
theorem dX11_mayTry_39 : decode cX11_mayTry 39 = .ok (.iconst 1, 1) := by decide +kernel
theorem dX11_mayTry_40 : decode cX11_mayTry 40 = .ok (.goto 4, 3) := by decide +kernel
theorem dX11_mayTry_43 : decode cX11_mayTry 43 = .ok (.iconst 0, 1) := by decide +kernel
theorem dX11_mayTry_44 : decode cX11_mayTry 44 = .ok (.ireturn, 1) := by decide +kernel
theorem dX11_odds_0 : decode cX11_odds 0 = .ok (.aload_n 0, 1) := by decide +kernel
theorem dX11_odds_1 : decode cX11_odds 1 = .ok (.iload_n 1, 1) := by decide +kernel
theorem dX11_odds_2 : decode cX11_odds 2 = .ok (.iload_n 2, 1) := by decide +kernel
theorem dX11_odds_3 : decode cX11_odds 3 = .ok (.iload_n 3, 1) := by decide +kernel
theorem dX11_odds_4 : decode cX11_odds 4 = .ok (.invokevirtual 569, 3) := by decide +kernel
theorem dX11_odds_7 : decode cX11_odds 7 = .ok (.ifCond .eq 13, 3) := by decide +kernel
theorem dX11_odds_10 : decode cX11_odds 10 = .ok (.aload_n 0, 1) := by decide +kernel
theorem dX11_odds_11 : decode cX11_odds 11 = .ok (.iload_n 1, 1) := by decide +kernel
theorem dX11_odds_12 : decode cX11_odds 12 = .ok (.iload_n 2, 1) := by decide +kernel
theorem dX11_odds_13 : decode cX11_odds 13 = .ok (.iload_n 3, 1) := by decide +kernel
theorem dX11_odds_14 : decode cX11_odds 14 = .ok (.invokevirtual 538, 3) := by decide +kernel
theorem dX11_odds_17 : decode cX11_odds 17 = .ok (.goto 4, 3) := by decide +kernel
theorem dX11_odds_20 : decode cX11_odds 20 = .ok (.iconst (-1), 1) := by decide +kernel
theorem dX11_odds_21 : decode cX11_odds 21 = .ok (.ireturn, 1) := by decide +kernel
theorem dX11_told10_0 : decode cX11_told10 0 = .ok (.iload_n 0, 1) := by decide +kernel
theorem dX11_told10_1 : decode cX11_told10 1 = .ok (.ifCond .ge 7, 3) := by decide +kernel
theorem dX11_told10_4 : decode cX11_told10 4 = .ok (.iconst (-1), 1) := by decide +kernel
theorem dX11_told10_5 : decode cX11_told10 5 = .ok (.goto 13, 3) := by decide +kernel
theorem dX11_told10_8 : decode cX11_told10 8 = .ok (.bipush 10, 2) := by decide +kernel
theorem dX11_told10_10 : decode cX11_told10 10 = .ok (.iload_n 0, 1) := by decide +kernel
theorem dX11_told10_11 : decode cX11_told10 11 = .ok (.iconst 5, 1) := by decide +kernel
theorem dX11_told10_12 : decode cX11_told10 12 = .ok (.idiv, 1) := by decide +kernel
theorem dX11_told10_13 : decode cX11_told10 13 = .ok (.imul, 1) := by decide +kernel
theorem dX11_told10_14 : decode cX11_told10 14 = .ok (.iload_n 0, 1) := by decide +kernel
theorem dX11_told10_15 : decode cX11_told10 15 = .ok (.iconst 5, 1) := by decide +kernel
theorem dX11_told10_16 : decode cX11_told10 16 = .ok (.irem, 1) := by decide +kernel
theorem dX11_told10_17 : decode cX11_told10 17 = .ok (.iadd, 1) := by decide +kernel
theorem dX11_told10_18 : decode cX11_told10 18 = .ok (.ireturn, 1) := by decide +kernel
theorem dX11_chooses_0 : decode cX11_chooses 0 = .ok (.aload_n 0, 1) := by decide +kernel
theorem dX11_chooses_1 : decode cX11_chooses 1 = .ok (.iload_n 1, 1) := by decide +kernel
theorem dX11_chooses_2 : decode cX11_chooses 2 = .ok (.invokevirtual 563, 3) := by decide +kernel
theorem dX11_chooses_5 : decode cX11_chooses 5 = .ok (.ifCond .ne 6, 3) := by decide +kernel
theorem dX11_chooses_8 : decode cX11_chooses 8 = .ok (.bipush (-2), 2) := by decide +kernel
theorem dX11_chooses_10 : decode cX11_chooses 10 = .ok (.ireturn, 1) := by decide +kernel
theorem dX11_chooses_11 : decode cX11_chooses 11 = .ok (.aload_n 0, 1) := by decide +kernel
theorem dX11_chooses_12 : decode cX11_chooses 12 = .ok (.invokevirtual 566, 3) := by decide +kernel
theorem dX11_chooses_15 : decode cX11_chooses 15 = .ok (.aload_n 0, 1) := by decide +kernel
theorem dX11_chooses_16 : decode cX11_chooses 16 = .ok (.iload_n 1, 1) := by decide +kernel
theorem dX11_chooses_17 : decode cX11_chooses 17 = .ok (.aload_n 0, 1) := by decide +kernel
theorem dX11_chooses_18 : decode cX11_chooses 18 = .ok (.getfield 112, 3) := by decide +kernel
theorem dX11_chooses_21 : decode cX11_chooses 21 = .ok (.iload_n 1, 1) := by decide +kernel
theorem dX11_chooses_22 : decode cX11_chooses 22 = .ok (.iaload, 1) := by decide +kernel
theorem dX11_chooses_23 : decode cX11_chooses 23 = .ok (.invokevirtual 551, 3) := by decide +kernel
theorem dX11_chooses_26 : decode cX11_chooses 26 = .ok (.invokestatic 572, 3) := by decide +kernel
theorem dX11_chooses_29 : decode cX11_chooses 29 = .ok (.ireturn, 1) := by decide +kernel
theorem dX11_act_0 : decode cX11_act 0 = .ok (.aload_n 0, 1) := by decide +kernel
theorem dX11_act_1 : decode cX11_act 1 = .ok (.getfield 482, 3) := by decide +kernel
theorem dX11_act_4 : decode cX11_act 4 = .ok (.bipush 40, 2) := by decide +kernel
theorem dX11_act_6 : decode cX11_act 6 = .ok (.if_icmp .ne 44, 3) := by decide +kernel
theorem dX11_act_9 : decode cX11_act 9 = .ok (.iconst 0, 1) := by decide +kernel
theorem dX11_act_10 : decode cX11_act 10 = .ok (.istore_n 1, 1) := by decide +kernel
theorem dX11_act_11 : decode cX11_act 11 = .ok (.iload_n 1, 1) := by decide +kernel
theorem dX11_act_12 : decode cX11_act 12 = .ok (.sipush 4992, 3) := by decide +kernel
theorem dX11_act_15 : decode cX11_act 15 = .ok (.if_icmp .ge 25, 3) := by decide +kernel
theorem dX11_act_18 : decode cX11_act 18 = .ok (.aload_n 0, 1) := by decide +kernel
theorem dX11_act_19 : decode cX11_act 19 = .ok (.getfield 127, 3) := by decide +kernel
theorem dX11_act_22 : decode cX11_act 22 = .ok (.iload_n 1, 1) := by decide +kernel
theorem dX11_act_23 : decode cX11_act 23 = .ok (.aload_n 0, 1) := by decide +kernel
theorem dX11_act_24 : decode cX11_act 24 = .ok (.getfield 127, 3) := by decide +kernel
theorem dX11_act_27 : decode cX11_act 27 = .ok (.sipush 128, 3) := by decide +kernel
theorem dX11_act_30 : decode cX11_act 30 = .ok (.iload_n 1, 1) := by decide +kernel
theorem dX11_act_31 : decode cX11_act 31 = .ok (.iadd, 1) := by decide +kernel
theorem dX11_act_32 : decode cX11_act 32 = .ok (.iaload, 1) := by decide +kernel
theorem dX11_act_33 : decode cX11_act 33 = .ok (.iastore, 1) := by decide +kernel
theorem dX11_act_34 : decode cX11_act 34 = .ok (.iinc 1 1, 3) := by decide +kernel
theorem dX11_act_37 : decode cX11_act 37 = .ok (.goto (-26), 3) := by decide +kernel
theorem dX11_act_40 : decode cX11_act 40 = .ok (.aload_n 0, 1) := by decide +kernel
theorem dX11_act_41 : decode cX11_act 41 = .ok (.dup, 1) := by decide +kernel
theorem dX11_act_42 : decode cX11_act 42 = .ok (.getfield 482, 3) := by decide +kernel
theorem dX11_act_45 : decode cX11_act 45 = .ok (.iconst 1, 1) := by decide +kernel
theorem dX11_act_46 : decode cX11_act 46 = .ok (.isub, 1) := by decide +kernel
theorem dX11_act_47 : decode cX11_act 47 = .ok (.putfield 482, 3) := by decide +kernel
theorem dX11_act_50 : decode cX11_act 50 = .ok (.iconst 0, 1) := by decide +kernel
theorem dX11_act_51 : decode cX11_act 51 = .ok (.istore_n 1, 1) := by decide +kernel
theorem dX11_act_52 : decode cX11_act 52 = .ok (.iload_n 1, 1) := by decide +kernel
theorem dX11_act_53 : decode cX11_act 53 = .ok (.bipush 123, 2) := by decide +kernel
theorem dX11_act_55 : decode cX11_act 55 = .ok (.if_icmp .ge 30, 3) := by decide +kernel
theorem dX11_act_58 : decode cX11_act 58 = .ok (.aload_n 0, 1) := by decide +kernel
theorem dX11_act_59 : decode cX11_act 59 = .ok (.getfield 127, 3) := by decide +kernel
theorem dX11_act_62 : decode cX11_act 62 = .ok (.sipush 128, 3) := by decide +kernel
theorem dX11_act_65 : decode cX11_act 65 = .ok (.aload_n 0, 1) := by decide +kernel
theorem dX11_act_66 : decode cX11_act 66 = .ok (.getfield 482, 3) := by decide +kernel
theorem dX11_act_69 : decode cX11_act 69 = .ok (.imul, 1) := by decide +kernel
theorem dX11_act_70 : decode cX11_act 70 = .ok (.iload_n 1, 1) := by decide +kernel
theorem dX11_act_71 : decode cX11_act 71 = .ok (.iadd, 1) := by decide +kernel
theorem dX11_act_72 : decode cX11_act 72 = .ok (.aload_n 0, 1) := by decide +kernel
theorem dX11_act_73 : decode cX11_act 73 = .ok (.getfield 124, 3) := by decide +kernel
theorem dX11_act_76 : decode cX11_act 76 = .ok (.iload_n 1, 1) := by decide +kernel
theorem dX11_act_77 : decode cX11_act 77 = .ok (.iaload, 1) := by decide +kernel
theorem dX11_act_78 : decode cX11_act 78 = .ok (.iastore, 1) := by decide +kernel
theorem dX11_act_79 : decode cX11_act 79 = .ok (.iinc 1 1, 3) := by decide +kernel
theorem dX11_act_82 : decode cX11_act 82 = .ok (.goto (-30), 3) := by decide +kernel
theorem dX11_act_85 : decode cX11_act 85 = .ok (.aload_n 0, 1) := by decide +kernel
theorem dX11_act_86 : decode cX11_act 86 = .ok (.dup, 1) := by decide +kernel
theorem dX11_act_87 : decode cX11_act 87 = .ok (.getfield 482, 3) := by decide +kernel
theorem dX11_act_90 : decode cX11_act 90 = .ok (.iconst 1, 1) := by decide +kernel
theorem dX11_act_91 : decode cX11_act 91 = .ok (.iadd, 1) := by decide +kernel
theorem dX11_act_92 : decode cX11_act 92 = .ok (.putfield 482, 3) := by decide +kernel
theorem dX11_act_95 : decode cX11_act 95 = .ok (.aload_n 0, 1) := by decide +kernel
theorem dX11_act_96 : decode cX11_act 96 = .ok (.iconst 0, 1) := by decide +kernel
theorem dX11_act_97 : decode cX11_act 97 = .ok (.putfield 485, 3) := by decide +kernel
theorem dX11_act_100 : decode cX11_act 100 = .ok (.return_, 1) := by decide +kernel
theorem dX11_exchange_0 : decode cX11_exchange 0 = .ok (.iconst 0, 1) := by decide +kernel
theorem dX11_exchange_1 : decode cX11_exchange 1 = .ok (.istore_n 2, 1) := by decide +kernel
theorem dX11_exchange_2 : decode cX11_exchange 2 = .ok (.iload_n 2, 1) := by decide +kernel
theorem dX11_exchange_3 : decode cX11_exchange 3 = .ok (.bipush 123, 2) := by decide +kernel
theorem dX11_exchange_5 : decode cX11_exchange 5 = .ok (.if_icmp .ge 39, 3) := by decide +kernel
theorem dX11_exchange_8 : decode cX11_exchange 8 = .ok (.aload_n 0, 1) := by decide +kernel
theorem dX11_exchange_9 : decode cX11_exchange 9 = .ok (.getfield 127, 3) := by decide +kernel
theorem dX11_exchange_12 : decode cX11_exchange 12 = .ok (.iload_n 1, 1) := by decide +kernel
theorem dX11_exchange_13 : decode cX11_exchange 13 = .ok (.iload_n 2, 1) := by decide +kernel
theorem dX11_exchange_14 : decode cX11_exchange 14 = .ok (.iadd, 1) := by decide +kernel
theorem dX11_exchange_15 : decode cX11_exchange 15 = .ok (.iaload, 1) := by decide +kernel
theorem dX11_exchange_16 : decode cX11_exchange 16 = .ok (.istore_n 3, 1) := by decide +kernel
theorem dX11_exchange_17 : decode cX11_exchange 17 = .ok (.aload_n 0, 1) := by decide +kernel
theorem dX11_exchange_18 : decode cX11_exchange 18 = .ok (.getfield 127, 3) := by decide +kernel
theorem dX11_exchange_21 : decode cX11_exchange 21 = .ok (.iload_n 1, 1) := by decide +kernel
theorem dX11_exchange_22 : decode cX11_exchange 22 = .ok (.iload_n 2, 1) := by decide +kernel
theorem dX11_exchange_23 : decode cX11_exchange 23 = .ok (.iadd, 1) := by decide +kernel
theorem dX11_exchange_24 : decode cX11_exchange 24 = .ok (.aload_n 0, 1) := by decide +kernel
theorem dX11_exchange_25 : decode cX11_exchange 25 = .ok (.getfield 124, 3) := by decide +kernel
theorem dX11_exchange_28 : decode cX11_exchange 28 = .ok (.iload_n 2, 1) := by decide +kernel
theorem dX11_exchange_29 : decode cX11_exchange 29 = .ok (.iaload, 1) := by decide +kernel
theorem dX11_exchange_30 : decode cX11_exchange 30 = .ok (.iastore, 1) := by decide +kernel
theorem dX11_exchange_31 : decode cX11_exchange 31 = .ok (.aload_n 0, 1) := by decide +kernel
theorem dX11_exchange_32 : decode cX11_exchange 32 = .ok (.getfield 124, 3) := by decide +kernel
theorem dX11_exchange_35 : decode cX11_exchange 35 = .ok (.iload_n 2, 1) := by decide +kernel
theorem dX11_exchange_36 : decode cX11_exchange 36 = .ok (.iload_n 3, 1) := by decide +kernel
theorem dX11_exchange_37 : decode cX11_exchange 37 = .ok (.iastore, 1) := by decide +kernel
theorem dX11_exchange_38 : decode cX11_exchange 38 = .ok (.iinc 2 1, 3) := by decide +kernel
theorem dX11_exchange_41 : decode cX11_exchange 41 = .ok (.goto (-39), 3) := by decide +kernel
theorem dX11_exchange_44 : decode cX11_exchange 44 = .ok (.return_, 1) := by decide +kernel
theorem dX11_go_0 : decode cX11_go 0 = .ok (.aload_n 0, 1) := by decide +kernel
theorem dX11_go_1 : decode cX11_go 1 = .ok (.iload_n 1, 1) := by decide +kernel
theorem dX11_go_2 : decode cX11_go 2 = .ok (.iload_n 2, 1) := by decide +kernel
theorem dX11_go_3 : decode cX11_go 3 = .ok (.iload_n 3, 1) := by decide +kernel
theorem dX11_go_4 : decode cX11_go 4 = .ok (.invokevirtual 569, 3) := by decide +kernel
theorem dX11_go_7 : decode cX11_go 7 = .ok (.ifCond .ne 5, 3) := by decide +kernel
theorem dX11_go_10 : decode cX11_go 10 = .ok (.iconst (-1), 1) := by decide +kernel
theorem dX11_go_11 : decode cX11_go 11 = .ok (.ireturn, 1) := by decide +kernel
theorem dX11_go_12 : decode cX11_go 12 = .ok (.aload_n 0, 1) := by decide +kernel
theorem dX11_go_13 : decode cX11_go 13 = .ok (.invokevirtual 575, 3) := by decide +kernel
theorem dX11_go_16 : decode cX11_go 16 = .ok (.aload_n 0, 1) := by decide +kernel
theorem dX11_go_17 : decode cX11_go 17 = .ok (.iload_n 1, 1) := by decide +kernel
theorem dX11_go_18 : decode cX11_go 18 = .ok (.iload_n 2, 1) := by decide +kernel
theorem dX11_go_19 : decode cX11_go 19 = .ok (.iload_n 3, 1) := by decide +kernel
theorem dX11_go_20 : decode cX11_go 20 = .ok (.invokevirtual 554, 3) := by decide +kernel
theorem dX11_go_23 : decode cX11_go 23 = .ok (.istore 4, 2) := by decide +kernel
theorem dX11_go_25 : decode cX11_go 25 = .ok (.aload_n 0, 1) := by decide +kernel
theorem dX11_go_26 : decode cX11_go 26 = .ok (.invokevirtual 479, 3) := by decide +kernel
theorem dX11_go_29 : decode cX11_go 29 = .ok (.iload 4, 2) := by decide +kernel
theorem dX11_go_31 : decode cX11_go 31 = .ok (.ifCond .eq 7, 3) := by decide +kernel
theorem dX11_go_34 : decode cX11_go 34 = .ok (.iconst 1, 1) := by decide +kernel
theorem dX11_go_35 : decode cX11_go 35 = .ok (.goto 4, 3) := by decide +kernel
theorem dX11_go_38 : decode cX11_go 38 = .ok (.iconst 0, 1) := by decide +kernel
theorem dX11_go_39 : decode cX11_go 39 = .ok (.ireturn, 1) := by decide +kernel
theorem dX11_breathe_0 : decode cX11_breathe 0 = .ok (.aload_n 0, 1) := by decide +kernel
theorem dX11_breathe_1 : decode cX11_breathe 1 = .ok (.iload_n 1, 1) := by decide +kernel
theorem dX11_breathe_2 : decode cX11_breathe 2 = .ok (.invokevirtual 563, 3) := by decide +kernel
theorem dX11_breathe_5 : decode cX11_breathe 5 = .ok (.ifCond .ne 5, 3) := by decide +kernel
theorem dX11_breathe_8 : decode cX11_breathe 8 = .ok (.iconst (-1), 1) := by decide +kernel
theorem dX11_breathe_9 : decode cX11_breathe 9 = .ok (.ireturn, 1) := by decide +kernel
theorem dX11_breathe_10 : decode cX11_breathe 10 = .ok (.aload_n 0, 1) := by decide +kernel
theorem dX11_breathe_11 : decode cX11_breathe 11 = .ok (.invokevirtual 575, 3) := by decide +kernel
theorem dX11_breathe_14 : decode cX11_breathe 14 = .ok (.aload_n 0, 1) := by decide +kernel
theorem dX11_breathe_15 : decode cX11_breathe 15 = .ok (.invokevirtual 566, 3) := by decide +kernel
theorem dX11_breathe_18 : decode cX11_breathe 18 = .ok (.aload_n 0, 1) := by decide +kernel
theorem dX11_breathe_19 : decode cX11_breathe 19 = .ok (.iload_n 1, 1) := by decide +kernel
theorem dX11_breathe_20 : decode cX11_breathe 20 = .ok (.invokevirtual 557, 3) := by decide +kernel
theorem dX11_breathe_23 : decode cX11_breathe 23 = .ok (.aload_n 0, 1) := by decide +kernel
theorem dX11_breathe_24 : decode cX11_breathe 24 = .ok (.invokevirtual 479, 3) := by decide +kernel
theorem dX11_breathe_27 : decode cX11_breathe 27 = .ok (.aload_n 0, 1) := by decide +kernel
theorem dX11_breathe_28 : decode cX11_breathe 28 = .ok (.getfield 106, 3) := by decide +kernel
theorem dX11_breathe_31 : decode cX11_breathe 31 = .ok (.iload_n 1, 1) := by decide +kernel
theorem dX11_breathe_32 : decode cX11_breathe 32 = .ok (.iaload, 1) := by decide +kernel
theorem dX11_breathe_33 : decode cX11_breathe 33 = .ok (.ireturn, 1) := by decide +kernel
theorem dX11_goesOn_0 : decode cX11_goesOn 0 = .ok (.aload_n 0, 1) := by decide +kernel
theorem dX11_goesOn_1 : decode cX11_goesOn 1 = .ok (.iload_n 1, 1) := by decide +kernel
theorem dX11_goesOn_2 : decode cX11_goesOn 2 = .ok (.iload_n 2, 1) := by decide +kernel
theorem dX11_goesOn_3 : decode cX11_goesOn 3 = .ok (.invokevirtual 523, 3) := by decide +kernel
theorem dX11_goesOn_6 : decode cX11_goesOn 6 = .ok (.istore 4, 2) := by decide +kernel
theorem dX11_goesOn_8 : decode cX11_goesOn 8 = .ok (.iload_n 3, 1) := by decide +kernel
theorem dX11_goesOn_9 : decode cX11_goesOn 9 = .ok (.ifCond .ne 9, 3) := by decide +kernel
theorem dX11_goesOn_12 : decode cX11_goesOn 12 = .ok (.iload_n 1, 1) := by decide +kernel
theorem dX11_goesOn_13 : decode cX11_goesOn 13 = .ok (.iconst 1, 1) := by decide +kernel
theorem dX11_goesOn_14 : decode cX11_goesOn 14 = .ok (.isub, 1) := by decide +kernel
theorem dX11_goesOn_15 : decode cX11_goesOn 15 = .ok (.goto 15, 3) := by decide +kernel
theorem dX11_goesOn_18 : decode cX11_goesOn 18 = .ok (.iload_n 3, 1) := by decide +kernel
theorem dX11_goesOn_19 : decode cX11_goesOn 19 = .ok (.iconst 1, 1) := by decide +kernel
theorem dX11_goesOn_20 : decode cX11_goesOn 20 = .ok (.if_icmp .ne 9, 3) := by decide +kernel
theorem dX11_goesOn_23 : decode cX11_goesOn 23 = .ok (.iload_n 1, 1) := by decide +kernel
theorem dX11_goesOn_24 : decode cX11_goesOn 24 = .ok (.iconst 1, 1) := by decide +kernel
theorem dX11_goesOn_25 : decode cX11_goesOn 25 = .ok (.iadd, 1) := by decide +kernel
theorem dX11_goesOn_26 : decode cX11_goesOn 26 = .ok (.goto 4, 3) := by decide +kernel
theorem dX11_goesOn_29 : decode cX11_goesOn 29 = .ok (.iload_n 1, 1) := by decide +kernel
theorem dX11_goesOn_30 : decode cX11_goesOn 30 = .ok (.istore 5, 2) := by decide +kernel
theorem dX11_goesOn_32 : decode cX11_goesOn 32 = .ok (.iload_n 3, 1) := by decide +kernel
theorem dX11_goesOn_33 : decode cX11_goesOn 33 = .ok (.iconst 2, 1) := by decide +kernel
theorem dX11_goesOn_34 : decode cX11_goesOn 34 = .ok (.if_icmp .ne 9, 3) := by decide +kernel
theorem dX11_goesOn_37 : decode cX11_goesOn 37 = .ok (.iload_n 2, 1) := by decide +kernel
theorem dX11_goesOn_38 : decode cX11_goesOn 38 = .ok (.iconst 1, 1) := by decide +kernel
theorem dX11_goesOn_39 : decode cX11_goesOn 39 = .ok (.iadd, 1) := by decide +kernel
theorem dX11_goesOn_40 : decode cX11_goesOn 40 = .ok (.goto 15, 3) := by decide +kernel
theorem dX11_goesOn_43 : decode cX11_goesOn 43 = .ok (.iload_n 3, 1) := by decide +kernel
theorem dX11_goesOn_44 : decode cX11_goesOn 44 = .ok (.iconst 3, 1) := by decide +kernel
theorem dX11_goesOn_45 : decode cX11_goesOn 45 = .ok (.if_icmp .ne 9, 3) := by decide +kernel
theorem dX11_goesOn_48 : decode cX11_goesOn 48 = .ok (.iload_n 2, 1) := by decide +kernel
theorem dX11_goesOn_49 : decode cX11_goesOn 49 = .ok (.iconst 1, 1) := by decide +kernel
theorem dX11_goesOn_50 : decode cX11_goesOn 50 = .ok (.isub, 1) := by decide +kernel
theorem dX11_goesOn_51 : decode cX11_goesOn 51 = .ok (.goto 4, 3) := by decide +kernel
theorem dX11_goesOn_54 : decode cX11_goesOn 54 = .ok (.iload_n 2, 1) := by decide +kernel
theorem dX11_goesOn_55 : decode cX11_goesOn 55 = .ok (.istore 6, 2) := by decide +kernel
theorem dX11_goesOn_57 : decode cX11_goesOn 57 = .ok (.iload 4, 2) := by decide +kernel
theorem dX11_goesOn_59 : decode cX11_goesOn 59 = .ok (.ifCond .lt 25, 3) := by decide +kernel
theorem dX11_goesOn_62 : decode cX11_goesOn 62 = .ok (.aload_n 0, 1) := by decide +kernel
theorem dX11_goesOn_63 : decode cX11_goesOn 63 = .ok (.iload 5, 2) := by decide +kernel
theorem dX11_goesOn_65 : decode cX11_goesOn 65 = .ok (.iload 6, 2) := by decide +kernel
theorem dX11_goesOn_67 : decode cX11_goesOn 67 = .ok (.invokevirtual 526, 3) := by decide +kernel
theorem dX11_goesOn_70 : decode cX11_goesOn 70 = .ok (.ifCond .eq 14, 3) := by decide +kernel
theorem dX11_goesOn_73 : decode cX11_goesOn 73 = .ok (.aload_n 0, 1) := by decide +kernel
theorem dX11_goesOn_74 : decode cX11_goesOn 74 = .ok (.iload 5, 2) := by decide +kernel
theorem dX11_goesOn_76 : decode cX11_goesOn 76 = .ok (.iload 6, 2) := by decide +kernel
theorem dX11_goesOn_78 : decode cX11_goesOn 78 = .ok (.invokevirtual 523, 3) := by decide +kernel
theorem dX11_goesOn_81 : decode cX11_goesOn 81 = .ok (.ifCond .lt 5, 3) := by decide +kernel
theorem dX11_goesOn_84 : decode cX11_goesOn 84 = .ok (.iconst 0, 1) := by decide +kernel
theorem dX11_goesOn_85 : decode cX11_goesOn 85 = .ok (.ireturn, 1) := by decide +kernel
theorem dX11_goesOn_86 : decode cX11_goesOn 86 = .ok (.aload_n 0, 1) := by decide +kernel
theorem dX11_goesOn_87 : decode cX11_goesOn 87 = .ok (.getfield 121, 3) := by decide +kernel
theorem dX11_goesOn_90 : decode cX11_goesOn 90 = .ok (.iconst 5, 1) := by decide +kernel
theorem dX11_goesOn_91 : decode cX11_goesOn 91 = .ok (.iload 4, 2) := by decide +kernel
theorem dX11_goesOn_93 : decode cX11_goesOn 93 = .ok (.imul, 1) := by decide +kernel
theorem dX11_goesOn_94 : decode cX11_goesOn 94 = .ok (.iload 5, 2) := by decide +kernel
theorem dX11_goesOn_96 : decode cX11_goesOn 96 = .ok (.iastore, 1) := by decide +kernel
theorem dX11_goesOn_97 : decode cX11_goesOn 97 = .ok (.aload_n 0, 1) := by decide +kernel
theorem dX11_goesOn_98 : decode cX11_goesOn 98 = .ok (.getfield 121, 3) := by decide +kernel
theorem dX11_goesOn_101 : decode cX11_goesOn 101 = .ok (.iconst 5, 1) := by decide +kernel
theorem dX11_goesOn_102 : decode cX11_goesOn 102 = .ok (.iload 4, 2) := by decide +kernel
theorem dX11_goesOn_104 : decode cX11_goesOn 104 = .ok (.imul, 1) := by decide +kernel
theorem dX11_goesOn_105 : decode cX11_goesOn 105 = .ok (.iconst 1, 1) := by decide +kernel
theorem dX11_goesOn_106 : decode cX11_goesOn 106 = .ok (.iadd, 1) := by decide +kernel
theorem dX11_goesOn_107 : decode cX11_goesOn 107 = .ok (.iload 6, 2) := by decide +kernel
theorem dX11_goesOn_109 : decode cX11_goesOn 109 = .ok (.iastore, 1) := by decide +kernel
theorem dX11_goesOn_110 : decode cX11_goesOn 110 = .ok (.iconst 1, 1) := by decide +kernel
theorem dX11_goesOn_111 : decode cX11_goesOn 111 = .ok (.ireturn, 1) := by decide +kernel
theorem dX11_wavesTo_0 : decode cX11_wavesTo 0 = .ok (.iconst 0, 1) := by decide +kernel
theorem dX11_wavesTo_1 : decode cX11_wavesTo 1 = .ok (.istore_n 2, 1) := by decide +kernel
theorem dX11_wavesTo_2 : decode cX11_wavesTo 2 = .ok (.iload_n 1, 1) := by decide +kernel
theorem dX11_wavesTo_3 : decode cX11_wavesTo 3 = .ok (.iconst 2, 1) := by decide +kernel
theorem dX11_wavesTo_4 : decode cX11_wavesTo 4 = .ok (.if_icmp .ge 10, 3) := by decide +kernel
theorem dX11_wavesTo_7 : decode cX11_wavesTo 7 = .ok (.aload_n 0, 1) := by decide +kernel
theorem dX11_wavesTo_8 : decode cX11_wavesTo 8 = .ok (.getfield 455, 3) := by decide +kernel
theorem dX11_wavesTo_11 : decode cX11_wavesTo 11 = .ok (.goto 7, 3) := by decide +kernel
theorem dX11_wavesTo_14 : decode cX11_wavesTo 14 = .ok (.aload_n 0, 1) := by decide +kernel
theorem dX11_wavesTo_15 : decode cX11_wavesTo 15 = .ok (.getfield 458, 3) := by decide +kernel
theorem dX11_wavesTo_18 : decode cX11_wavesTo 18 = .ok (.istore_n 3, 1) := by decide +kernel
theorem dX11_wavesTo_19 : decode cX11_wavesTo 19 = .ok (.iload_n 1, 1) := by decide +kernel
theorem dX11_wavesTo_20 : decode cX11_wavesTo 20 = .ok (.iconst 2, 1) := by decide +kernel
theorem dX11_wavesTo_21 : decode cX11_wavesTo 21 = .ok (.if_icmp .ge 10, 3) := by decide +kernel
theorem dX11_wavesTo_24 : decode cX11_wavesTo 24 = .ok (.aload_n 0, 1) := by decide +kernel
theorem dX11_wavesTo_25 : decode cX11_wavesTo 25 = .ok (.getfield 458, 3) := by decide +kernel
theorem dX11_wavesTo_28 : decode cX11_wavesTo 28 = .ok (.goto 7, 3) := by decide +kernel
theorem dX11_wavesTo_31 : decode cX11_wavesTo 31 = .ok (.aload_n 0, 1) := by decide +kernel
theorem dX11_wavesTo_32 : decode cX11_wavesTo 32 = .ok (.getfield 455, 3) := by decide +kernel
theorem dX11_wavesTo_35 : decode cX11_wavesTo 35 = .ok (.istore 4, 2) := by decide +kernel
theorem dX11_wavesTo_37 : decode cX11_wavesTo 37 = .ok (.iconst 0, 1) := by decide +kernel
theorem dX11_wavesTo_38 : decode cX11_wavesTo 38 = .ok (.istore 5, 2) := by decide +kernel
theorem dX11_wavesTo_40 : decode cX11_wavesTo 40 = .ok (.iload 5, 2) := by decide +kernel
theorem dX11_wavesTo_42 : decode cX11_wavesTo 42 = .ok (.iload_n 3, 1) := by decide +kernel
theorem dX11_wavesTo_43 : decode cX11_wavesTo 43 = .ok (.if_icmp .ge 88, 3) := by decide +kernel
theorem dX11_wavesTo_46 : decode cX11_wavesTo 46 = .ok (.iconst 0, 1) := by decide +kernel
theorem dX11_wavesTo_47 : decode cX11_wavesTo 47 = .ok (.istore 6, 2) := by decide +kernel
theorem dX11_wavesTo_49 : decode cX11_wavesTo 49 = .ok (.iload 6, 2) := by decide +kernel
theorem dX11_wavesTo_51 : decode cX11_wavesTo 51 = .ok (.iload 4, 2) := by decide +kernel
theorem dX11_wavesTo_53 : decode cX11_wavesTo 53 = .ok (.if_icmp .ge 72, 3) := by decide +kernel
theorem dX11_wavesTo_56 : decode cX11_wavesTo 56 = .ok (.iload_n 1, 1) := by decide +kernel
theorem dX11_wavesTo_57 : decode cX11_wavesTo 57 = .ok (.iconst 1, 1) := by decide +kernel
theorem dX11_wavesTo_58 : decode cX11_wavesTo 58 = .ok (.if_icmp .eq 8, 3) := by decide +kernel
theorem dX11_wavesTo_61 : decode cX11_wavesTo 61 = .ok (.iload_n 1, 1) := by decide +kernel
theorem dX11_wavesTo_62 : decode cX11_wavesTo 62 = .ok (.iconst 2, 1) := by decide +kernel
theorem dX11_wavesTo_63 : decode cX11_wavesTo 63 = .ok (.if_icmp .ne 12, 3) := by decide +kernel
theorem dX11_wavesTo_66 : decode cX11_wavesTo 66 = .ok (.iload_n 3, 1) := by decide +kernel
theorem dX11_wavesTo_67 : decode cX11_wavesTo 67 = .ok (.iconst 1, 1) := by decide +kernel
theorem dX11_wavesTo_68 : decode cX11_wavesTo 68 = .ok (.isub, 1) := by decide +kernel
theorem dX11_wavesTo_69 : decode cX11_wavesTo 69 = .ok (.iload 5, 2) := by decide +kernel
theorem dX11_wavesTo_71 : decode cX11_wavesTo 71 = .ok (.isub, 1) := by decide +kernel
theorem dX11_wavesTo_72 : decode cX11_wavesTo 72 = .ok (.goto 5, 3) := by decide +kernel
theorem dX11_wavesTo_75 : decode cX11_wavesTo 75 = .ok (.iload 5, 2) := by decide +kernel
theorem dX11_wavesTo_77 : decode cX11_wavesTo 77 = .ok (.istore 7, 2) := by decide +kernel
theorem dX11_wavesTo_79 : decode cX11_wavesTo 79 = .ok (.iload_n 2, 1) := by decide +kernel
theorem dX11_wavesTo_80 : decode cX11_wavesTo 80 = .ok (.aload_n 0, 1) := by decide +kernel
theorem dX11_wavesTo_81 : decode cX11_wavesTo 81 = .ok (.iload_n 1, 1) := by decide +kernel
theorem dX11_wavesTo_82 : decode cX11_wavesTo 82 = .ok (.iconst 2, 1) := by decide +kernel
theorem dX11_wavesTo_83 : decode cX11_wavesTo 83 = .ok (.if_icmp .ge 8, 3) := by decide +kernel
theorem dX11_wavesTo_86 : decode cX11_wavesTo 86 = .ok (.iload 7, 2) := by decide +kernel
theorem dX11_wavesTo_88 : decode cX11_wavesTo 88 = .ok (.goto 5, 3) := by decide +kernel
theorem dX11_wavesTo_91 : decode cX11_wavesTo 91 = .ok (.iload 6, 2) := by decide +kernel
theorem dX11_wavesTo_93 : decode cX11_wavesTo 93 = .ok (.iload_n 1, 1) := by decide +kernel
theorem dX11_wavesTo_94 : decode cX11_wavesTo 94 = .ok (.iconst 2, 1) := by decide +kernel
theorem dX11_wavesTo_95 : decode cX11_wavesTo 95 = .ok (.if_icmp .ge 8, 3) := by decide +kernel
theorem dX11_wavesTo_98 : decode cX11_wavesTo 98 = .ok (.iload 6, 2) := by decide +kernel
theorem dX11_wavesTo_100 : decode cX11_wavesTo 100 = .ok (.goto 5, 3) := by decide +kernel
theorem dX11_wavesTo_103 : decode cX11_wavesTo 103 = .ok (.iload 7, 2) := by decide +kernel
theorem dX11_wavesTo_105 : decode cX11_wavesTo 105 = .ok (.iload_n 1, 1) := by decide +kernel
theorem dX11_wavesTo_106 : decode cX11_wavesTo 106 = .ok (.invokevirtual 578, 3) := by decide +kernel
theorem dX11_wavesTo_109 : decode cX11_wavesTo 109 = .ok (.ifCond .eq 7, 3) := by decide +kernel
theorem dX11_wavesTo_112 : decode cX11_wavesTo 112 = .ok (.iconst 1, 1) := by decide +kernel
theorem dX11_wavesTo_113 : decode cX11_wavesTo 113 = .ok (.goto 4, 3) := by decide +kernel
theorem dX11_wavesTo_116 : decode cX11_wavesTo 116 = .ok (.iconst 0, 1) := by decide +kernel
theorem dX11_wavesTo_117 : decode cX11_wavesTo 117 = .ok (.iadd, 1) := by decide +kernel
theorem dX11_wavesTo_118 : decode cX11_wavesTo 118 = .ok (.istore_n 2, 1) := by decide +kernel
theorem dX11_wavesTo_119 : decode cX11_wavesTo 119 = .ok (.iinc 6 1, 3) := by decide +kernel
theorem dX11_wavesTo_122 : decode cX11_wavesTo 122 = .ok (.goto (-73), 3) := by decide +kernel
theorem dX11_wavesTo_125 : decode cX11_wavesTo 125 = .ok (.iinc 5 1, 3) := by decide +kernel
theorem dX11_wavesTo_128 : decode cX11_wavesTo 128 = .ok (.goto (-88), 3) := by decide +kernel
theorem dX11_wavesTo_131 : decode cX11_wavesTo 131 = .ok (.iload_n 2, 1) := by decide +kernel
theorem dX11_wavesTo_132 : decode cX11_wavesTo 132 = .ok (.ireturn, 1) := by decide +kernel
theorem dX11_wave_0 : decode cX11_wave 0 = .ok (.iload_n 1, 1) := by decide +kernel
theorem dX11_wave_1 : decode cX11_wave 1 = .ok (.iconst 0, 1) := by decide +kernel
theorem dX11_wave_2 : decode cX11_wave 2 = .ok (.iconst 3, 1) := by decide +kernel
theorem dX11_wave_3 : decode cX11_wave 3 = .ok (.invokestatic 494, 3) := by decide +kernel
theorem dX11_wave_6 : decode cX11_wave 6 = .ok (.ifCond .ne 5, 3) := by decide +kernel
theorem dX11_wave_9 : decode cX11_wave 9 = .ok (.iconst (-1), 1) := by decide +kernel
theorem dX11_wave_10 : decode cX11_wave 10 = .ok (.ireturn, 1) := by decide +kernel
theorem dX11_wave_11 : decode cX11_wave 11 = .ok (.aload_n 0, 1) := by decide +kernel
theorem dX11_wave_12 : decode cX11_wave 12 = .ok (.invokevirtual 575, 3) := by decide +kernel
theorem dX11_wave_15 : decode cX11_wave 15 = .ok (.aload_n 0, 1) := by decide +kernel
theorem dX11_wave_16 : decode cX11_wave 16 = .ok (.invokevirtual 566, 3) := by decide +kernel
theorem dX11_wave_19 : decode cX11_wave 19 = .ok (.aload_n 0, 1) := by decide +kernel
theorem dX11_wave_20 : decode cX11_wave 20 = .ok (.iload_n 1, 1) := by decide +kernel
theorem dX11_wave_21 : decode cX11_wave 21 = .ok (.invokevirtual 581, 3) := by decide +kernel
theorem dX11_wave_24 : decode cX11_wave 24 = .ok (.istore_n 2, 1) := by decide +kernel
theorem dX11_wave_25 : decode cX11_wave 25 = .ok (.aload_n 0, 1) := by decide +kernel
theorem dX11_wave_26 : decode cX11_wave 26 = .ok (.invokevirtual 479, 3) := by decide +kernel
theorem dX11_wave_29 : decode cX11_wave 29 = .ok (.iload_n 2, 1) := by decide +kernel
theorem dX11_wave_30 : decode cX11_wave 30 = .ok (.ireturn, 1) := by decide +kernel
theorem dX11_party_0 : decode cX11_party 0 = .ok (.iload_n 1, 1) := by decide +kernel
theorem dX11_party_1 : decode cX11_party 1 = .ok (.iconst 0, 1) := by decide +kernel
theorem dX11_party_2 : decode cX11_party 2 = .ok (.bipush 20, 2) := by decide +kernel
theorem dX11_party_4 : decode cX11_party 4 = .ok (.invokestatic 494, 3) := by decide +kernel
theorem dX11_party_7 : decode cX11_party 7 = .ok (.ifCond .ne 5, 3) := by decide +kernel
theorem dX11_party_10 : decode cX11_party 10 = .ok (.iconst (-1), 1) := by decide +kernel
theorem dX11_party_11 : decode cX11_party 11 = .ok (.ireturn, 1) := by decide +kernel
theorem dX11_party_12 : decode cX11_party 12 = .ok (.aload_n 0, 1) := by decide +kernel
theorem dX11_party_13 : decode cX11_party 13 = .ok (.invokevirtual 575, 3) := by decide +kernel
theorem dX11_party_16 : decode cX11_party 16 = .ok (.aload_n 0, 1) := by decide +kernel
theorem dX11_party_17 : decode cX11_party 17 = .ok (.invokevirtual 566, 3) := by decide +kernel
theorem dX11_party_20 : decode cX11_party 20 = .ok (.iconst 0, 1) := by decide +kernel
theorem dX11_party_21 : decode cX11_party 21 = .ok (.istore_n 2, 1) := by decide +kernel
theorem dX11_party_22 : decode cX11_party 22 = .ok (.iconst 0, 1) := by decide +kernel
theorem dX11_party_23 : decode cX11_party 23 = .ok (.istore_n 3, 1) := by decide +kernel
theorem dX11_party_24 : decode cX11_party 24 = .ok (.iload_n 3, 1) := by decide +kernel
theorem dX11_party_25 : decode cX11_party 25 = .ok (.iload_n 1, 1) := by decide +kernel
theorem dX11_party_26 : decode cX11_party 26 = .ok (.if_icmp .ge 51, 3) := by decide +kernel
theorem dX11_party_29 : decode cX11_party 29 = .ok (.iconst 0, 1) := by decide +kernel
theorem dX11_party_30 : decode cX11_party 30 = .ok (.istore 4, 2) := by decide +kernel
theorem dX11_party_32 : decode cX11_party 32 = .ok (.iload 4, 2) := by decide +kernel
theorem dX11_party_34 : decode cX11_party 34 = .ok (.aload_n 0, 1) := by decide +kernel
theorem dX11_party_35 : decode cX11_party 35 = .ok (.getfield 470, 3) := by decide +kernel
theorem dX11_party_38 : decode cX11_party 38 = .ok (.if_icmp .ge 33, 3) := by decide +kernel
theorem dX11_party_41 : decode cX11_party 41 = .ok (.iload_n 2, 1) := by decide +kernel
theorem dX11_party_42 : decode cX11_party 42 = .ok (.aload_n 0, 1) := by decide +kernel
theorem dX11_party_43 : decode cX11_party 43 = .ok (.iload 4, 2) := by decide +kernel
theorem dX11_party_45 : decode cX11_party 45 = .ok (.aload_n 0, 1) := by decide +kernel
theorem dX11_party_46 : decode cX11_party 46 = .ok (.getfield 112, 3) := by decide +kernel
theorem dX11_party_49 : decode cX11_party 49 = .ok (.iload 4, 2) := by decide +kernel
theorem dX11_party_51 : decode cX11_party 51 = .ok (.iaload, 1) := by decide +kernel
theorem dX11_party_52 : decode cX11_party 52 = .ok (.invokevirtual 584, 3) := by decide +kernel
theorem dX11_party_55 : decode cX11_party 55 = .ok (.ifCond .eq 7, 3) := by decide +kernel
theorem dX11_party_58 : decode cX11_party 58 = .ok (.iconst 1, 1) := by decide +kernel
theorem dX11_party_59 : decode cX11_party 59 = .ok (.goto 4, 3) := by decide +kernel
theorem dX11_party_62 : decode cX11_party 62 = .ok (.iconst 0, 1) := by decide +kernel
theorem dX11_party_63 : decode cX11_party 63 = .ok (.iadd, 1) := by decide +kernel
theorem dX11_party_64 : decode cX11_party 64 = .ok (.istore_n 2, 1) := by decide +kernel
theorem dX11_party_65 : decode cX11_party 65 = .ok (.iinc 4 1, 3) := by decide +kernel
theorem dX11_party_68 : decode cX11_party 68 = .ok (.goto (-36), 3) := by decide +kernel
theorem dX11_party_71 : decode cX11_party 71 = .ok (.iinc 3 1, 3) := by decide +kernel
theorem dX11_party_74 : decode cX11_party 74 = .ok (.goto (-50), 3) := by decide +kernel
theorem dX11_party_77 : decode cX11_party 77 = .ok (.aload_n 0, 1) := by decide +kernel
theorem dX11_party_78 : decode cX11_party 78 = .ok (.invokevirtual 479, 3) := by decide +kernel
theorem dX11_party_81 : decode cX11_party 81 = .ok (.iload_n 2, 1) := by decide +kernel
theorem dX11_party_82 : decode cX11_party 82 = .ok (.ireturn, 1) := by decide +kernel
theorem dX11_undo_0 : decode cX11_undo 0 = .ok (.aload_n 0, 1) := by decide +kernel
theorem dX11_undo_1 : decode cX11_undo 1 = .ok (.getfield 482, 3) := by decide +kernel
theorem dX11_undo_4 : decode cX11_undo 4 = .ok (.ifCond .ne 5, 3) := by decide +kernel
theorem dX11_undo_7 : decode cX11_undo 7 = .ok (.iconst 0, 1) := by decide +kernel
theorem dX11_undo_8 : decode cX11_undo 8 = .ok (.ireturn, 1) := by decide +kernel
theorem dX11_undo_9 : decode cX11_undo 9 = .ok (.aload_n 0, 1) := by decide +kernel
theorem dX11_undo_10 : decode cX11_undo 10 = .ok (.dup, 1) := by decide +kernel
theorem dX11_undo_11 : decode cX11_undo 11 = .ok (.getfield 482, 3) := by decide +kernel
theorem dX11_undo_14 : decode cX11_undo 14 = .ok (.iconst 1, 1) := by decide +kernel
theorem dX11_undo_15 : decode cX11_undo 15 = .ok (.isub, 1) := by decide +kernel
theorem dX11_undo_16 : decode cX11_undo 16 = .ok (.putfield 482, 3) := by decide +kernel
theorem dX11_undo_19 : decode cX11_undo 19 = .ok (.aload_n 0, 1) := by decide +kernel
theorem dX11_undo_20 : decode cX11_undo 20 = .ok (.dup, 1) := by decide +kernel
theorem dX11_undo_21 : decode cX11_undo 21 = .ok (.getfield 485, 3) := by decide +kernel
theorem dX11_undo_24 : decode cX11_undo 24 = .ok (.iconst 1, 1) := by decide +kernel
theorem dX11_undo_25 : decode cX11_undo 25 = .ok (.iadd, 1) := by decide +kernel
theorem dX11_undo_26 : decode cX11_undo 26 = .ok (.putfield 485, 3) := by decide +kernel
theorem dX11_undo_29 : decode cX11_undo 29 = .ok (.aload_n 0, 1) := by decide +kernel
theorem dX11_undo_30 : decode cX11_undo 30 = .ok (.sipush 128, 3) := by decide +kernel
theorem dX11_undo_33 : decode cX11_undo 33 = .ok (.aload_n 0, 1) := by decide +kernel
theorem dX11_undo_34 : decode cX11_undo 34 = .ok (.getfield 482, 3) := by decide +kernel
theorem dX11_undo_37 : decode cX11_undo 37 = .ok (.imul, 1) := by decide +kernel
theorem dX11_undo_38 : decode cX11_undo 38 = .ok (.invokevirtual 587, 3) := by decide +kernel
theorem dX11_undo_41 : decode cX11_undo 41 = .ok (.iconst 1, 1) := by decide +kernel
theorem dX11_undo_42 : decode cX11_undo 42 = .ok (.ireturn, 1) := by decide +kernel
theorem dX11_redo_0 : decode cX11_redo 0 = .ok (.aload_n 0, 1) := by decide +kernel
theorem dX11_redo_1 : decode cX11_redo 1 = .ok (.getfield 485, 3) := by decide +kernel
theorem dX11_redo_4 : decode cX11_redo 4 = .ok (.ifCond .ne 5, 3) := by decide +kernel
theorem dX11_redo_7 : decode cX11_redo 7 = .ok (.iconst 0, 1) := by decide +kernel
theorem dX11_redo_8 : decode cX11_redo 8 = .ok (.ireturn, 1) := by decide +kernel
theorem dX11_redo_9 : decode cX11_redo 9 = .ok (.aload_n 0, 1) := by decide +kernel
theorem dX11_redo_10 : decode cX11_redo 10 = .ok (.sipush 128, 3) := by decide +kernel
theorem dX11_redo_13 : decode cX11_redo 13 = .ok (.aload_n 0, 1) := by decide +kernel
theorem dX11_redo_14 : decode cX11_redo 14 = .ok (.getfield 482, 3) := by decide +kernel
theorem dX11_redo_17 : decode cX11_redo 17 = .ok (.imul, 1) := by decide +kernel
theorem dX11_redo_18 : decode cX11_redo 18 = .ok (.invokevirtual 587, 3) := by decide +kernel
theorem dX11_redo_21 : decode cX11_redo 21 = .ok (.aload_n 0, 1) := by decide +kernel
theorem dX11_redo_22 : decode cX11_redo 22 = .ok (.dup, 1) := by decide +kernel
theorem dX11_redo_23 : decode cX11_redo 23 = .ok (.getfield 482, 3) := by decide +kernel
theorem dX11_redo_26 : decode cX11_redo 26 = .ok (.iconst 1, 1) := by decide +kernel
theorem dX11_redo_27 : decode cX11_redo 27 = .ok (.iadd, 1) := by decide +kernel
theorem dX11_redo_28 : decode cX11_redo 28 = .ok (.putfield 482, 3) := by decide +kernel
theorem dX11_redo_31 : decode cX11_redo 31 = .ok (.aload_n 0, 1) := by decide +kernel
theorem dX11_redo_32 : decode cX11_redo 32 = .ok (.dup, 1) := by decide +kernel
theorem dX11_redo_33 : decode cX11_redo 33 = .ok (.getfield 485, 3) := by decide +kernel
theorem dX11_redo_36 : decode cX11_redo 36 = .ok (.iconst 1, 1) := by decide +kernel
theorem dX11_redo_37 : decode cX11_redo 37 = .ok (.isub, 1) := by decide +kernel
theorem dX11_redo_38 : decode cX11_redo 38 = .ok (.putfield 485, 3) := by decide +kernel
theorem dX11_redo_41 : decode cX11_redo 41 = .ok (.iconst 1, 1) := by decide +kernel
theorem dX11_redo_42 : decode cX11_redo 42 = .ok (.ireturn, 1) := by decide +kernel
theorem dX11_loadRow_0 : decode cX11_loadRow 0 = .ok (.iconst 0, 1) := by decide +kernel
theorem dX11_loadRow_1 : decode cX11_loadRow 1 = .ok (.istore_n 2, 1) := by decide +kernel
theorem dX11_loadRow_2 : decode cX11_loadRow 2 = .ok (.iload_n 2, 1) := by decide +kernel
theorem dX11_loadRow_3 : decode cX11_loadRow 3 = .ok (.bipush 123, 2) := by decide +kernel
theorem dX11_loadRow_5 : decode cX11_loadRow 5 = .ok (.if_icmp .ge 27, 3) := by decide +kernel
theorem dX11_loadRow_8 : decode cX11_loadRow 8 = .ok (.aload_n 0, 1) := by decide +kernel
theorem dX11_loadRow_9 : decode cX11_loadRow 9 = .ok (.getfield 121, 3) := by decide +kernel
theorem dX11_loadRow_12 : decode cX11_loadRow 12 = .ok (.iload_n 2, 1) := by decide +kernel
theorem dX11_loadRow_13 : decode cX11_loadRow 13 = .ok (.aload_n 0, 1) := by decide +kernel
theorem dX11_loadRow_14 : decode cX11_loadRow 14 = .ok (.getfield 130, 3) := by decide +kernel
theorem dX11_loadRow_17 : decode cX11_loadRow 17 = .ok (.sipush 128, 3) := by decide +kernel
theorem dX11_loadRow_20 : decode cX11_loadRow 20 = .ok (.iload_n 1, 1) := by decide +kernel
theorem dX11_loadRow_21 : decode cX11_loadRow 21 = .ok (.imul, 1) := by decide +kernel
theorem dX11_loadRow_22 : decode cX11_loadRow 22 = .ok (.iload_n 2, 1) := by decide +kernel
theorem dX11_loadRow_23 : decode cX11_loadRow 23 = .ok (.iadd, 1) := by decide +kernel
theorem dX11_loadRow_24 : decode cX11_loadRow 24 = .ok (.iaload, 1) := by decide +kernel
theorem dX11_loadRow_25 : decode cX11_loadRow 25 = .ok (.iastore, 1) := by decide +kernel
theorem dX11_loadRow_26 : decode cX11_loadRow 26 = .ok (.iinc 2 1, 3) := by decide +kernel
theorem dX11_loadRow_29 : decode cX11_loadRow 29 = .ok (.goto (-27), 3) := by decide +kernel
theorem dX11_loadRow_32 : decode cX11_loadRow 32 = .ok (.return_, 1) := by decide +kernel
theorem dX11_goDeeper_0 : decode cX11_goDeeper 0 = .ok (.iconst 0, 1) := by decide +kernel
theorem dX11_goDeeper_1 : decode cX11_goDeeper 1 = .ok (.istore_n 3, 1) := by decide +kernel
theorem dX11_goDeeper_2 : decode cX11_goDeeper 2 = .ok (.iload_n 3, 1) := by decide +kernel
theorem dX11_goDeeper_3 : decode cX11_goDeeper 3 = .ok (.bipush 123, 2) := by decide +kernel
theorem dX11_goDeeper_5 : decode cX11_goDeeper 5 = .ok (.if_icmp .ge 27, 3) := by decide +kernel
theorem dX11_goDeeper_8 : decode cX11_goDeeper 8 = .ok (.aload_n 0, 1) := by decide +kernel
theorem dX11_goDeeper_9 : decode cX11_goDeeper 9 = .ok (.getfield 130, 3) := by decide +kernel
theorem dX11_goDeeper_12 : decode cX11_goDeeper 12 = .ok (.sipush 128, 3) := by decide +kernel
theorem dX11_goDeeper_15 : decode cX11_goDeeper 15 = .ok (.iload_n 1, 1) := by decide +kernel
theorem dX11_goDeeper_16 : decode cX11_goDeeper 16 = .ok (.imul, 1) := by decide +kernel
theorem dX11_goDeeper_17 : decode cX11_goDeeper 17 = .ok (.iload_n 3, 1) := by decide +kernel
theorem dX11_goDeeper_18 : decode cX11_goDeeper 18 = .ok (.iadd, 1) := by decide +kernel
theorem dX11_goDeeper_19 : decode cX11_goDeeper 19 = .ok (.aload_n 0, 1) := by decide +kernel
theorem dX11_goDeeper_20 : decode cX11_goDeeper 20 = .ok (.getfield 121, 3) := by decide +kernel
theorem dX11_goDeeper_23 : decode cX11_goDeeper 23 = .ok (.iload_n 3, 1) := by decide +kernel
theorem dX11_goDeeper_24 : decode cX11_goDeeper 24 = .ok (.iaload, 1) := by decide +kernel
theorem dX11_goDeeper_25 : decode cX11_goDeeper 25 = .ok (.iastore, 1) := by decide +kernel
theorem dX11_goDeeper_26 : decode cX11_goDeeper 26 = .ok (.iinc 3 1, 3) := by decide +kernel
theorem dX11_goDeeper_29 : decode cX11_goDeeper 29 = .ok (.goto (-27), 3) := by decide +kernel
theorem dX11_goDeeper_32 : decode cX11_goDeeper 32 = .ok (.aload_n 0, 1) := by decide +kernel
theorem dX11_goDeeper_33 : decode cX11_goDeeper 33 = .ok (.getfield 133, 3) := by decide +kernel
theorem dX11_goDeeper_36 : decode cX11_goDeeper 36 = .ok (.iload_n 1, 1) := by decide +kernel
theorem dX11_goDeeper_37 : decode cX11_goDeeper 37 = .ok (.iload_n 2, 1) := by decide +kernel
theorem dX11_goDeeper_38 : decode cX11_goDeeper 38 = .ok (.iastore, 1) := by decide +kernel
theorem dX11_goDeeper_39 : decode cX11_goDeeper 39 = .ok (.aload_n 0, 1) := by decide +kernel
theorem dX11_goDeeper_40 : decode cX11_goDeeper 40 = .ok (.getfield 136, 3) := by decide +kernel
theorem dX11_goDeeper_43 : decode cX11_goDeeper 43 = .ok (.iload_n 1, 1) := by decide +kernel
theorem dX11_goDeeper_44 : decode cX11_goDeeper 44 = .ok (.iconst (-1), 1) := by decide +kernel
theorem dX11_goDeeper_45 : decode cX11_goDeeper 45 = .ok (.iastore, 1) := by decide +kernel
theorem dX11_goDeeper_46 : decode cX11_goDeeper 46 = .ok (.aload_n 0, 1) := by decide +kernel
theorem dX11_goDeeper_47 : decode cX11_goDeeper 47 = .ok (.getfield 139, 3) := by decide +kernel
theorem dX11_goDeeper_50 : decode cX11_goDeeper 50 = .ok (.iload_n 1, 1) := by decide +kernel
theorem dX11_goDeeper_51 : decode cX11_goDeeper 51 = .ok (.iconst 0, 1) := by decide +kernel
theorem dX11_goDeeper_52 : decode cX11_goDeeper 52 = .ok (.iastore, 1) := by decide +kernel
theorem dX11_goDeeper_53 : decode cX11_goDeeper 53 = .ok (.aload_n 0, 1) := by decide +kernel
theorem dX11_goDeeper_54 : decode cX11_goDeeper 54 = .ok (.getfield 145, 3) := by decide +kernel
theorem dX11_goDeeper_57 : decode cX11_goDeeper 57 = .ok (.iload_n 1, 1) := by decide +kernel
theorem dX11_goDeeper_58 : decode cX11_goDeeper 58 = .ok (.iconst 0, 1) := by decide +kernel
theorem dX11_goDeeper_59 : decode cX11_goDeeper 59 = .ok (.iastore, 1) := by decide +kernel
theorem dX11_goDeeper_60 : decode cX11_goDeeper 60 = .ok (.aload_n 0, 1) := by decide +kernel
theorem dX11_goDeeper_61 : decode cX11_goDeeper 61 = .ok (.getfield 148, 3) := by decide +kernel
theorem dX11_goDeeper_64 : decode cX11_goDeeper 64 = .ok (.iload_n 1, 1) := by decide +kernel
theorem dX11_goDeeper_65 : decode cX11_goDeeper 65 = .ok (.iconst (-1), 1) := by decide +kernel
theorem dX11_goDeeper_66 : decode cX11_goDeeper 66 = .ok (.iastore, 1) := by decide +kernel
theorem dX11_goDeeper_67 : decode cX11_goDeeper 67 = .ok (.aload_n 0, 1) := by decide +kernel
theorem dX11_goDeeper_68 : decode cX11_goDeeper 68 = .ok (.dup, 1) := by decide +kernel
theorem dX11_goDeeper_69 : decode cX11_goDeeper 69 = .ok (.getfield 590, 3) := by decide +kernel
theorem dX11_goDeeper_72 : decode cX11_goDeeper 72 = .ok (.iconst 1, 1) := by decide +kernel
theorem dX11_goDeeper_73 : decode cX11_goDeeper 73 = .ok (.iadd, 1) := by decide +kernel
theorem dX11_goDeeper_74 : decode cX11_goDeeper 74 = .ok (.putfield 590, 3) := by decide +kernel
theorem dX11_goDeeper_77 : decode cX11_goDeeper 77 = .ok (.return_, 1) := by decide +kernel
theorem dX11_mayGo_0 : decode cX11_mayGo 0 = .ok (.iload_n 3, 1) := by decide +kernel
theorem dX11_mayGo_1 : decode cX11_mayGo 1 = .ok (.bipush 50, 2) := by decide +kernel
theorem dX11_mayGo_3 : decode cX11_mayGo 3 = .ok (.if_icmp .ne 39, 3) := by decide +kernel
theorem dX11_mayGo_6 : decode cX11_mayGo 6 = .ok (.aload_n 0, 1) := by decide +kernel
theorem dX11_mayGo_7 : decode cX11_mayGo 7 = .ok (.getfield 133, 3) := by decide +kernel
theorem dX11_mayGo_10 : decode cX11_mayGo 10 = .ok (.iload_n 2, 1) := by decide +kernel
theorem dX11_mayGo_11 : decode cX11_mayGo 11 = .ok (.iaload, 1) := by decide +kernel
theorem dX11_mayGo_12 : decode cX11_mayGo 12 = .ok (.iconst 2, 1) := by decide +kernel
theorem dX11_mayGo_13 : decode cX11_mayGo 13 = .ok (.if_icmp .lt 27, 3) := by decide +kernel
theorem dX11_mayGo_16 : decode cX11_mayGo 16 = .ok (.aload_n 0, 1) := by decide +kernel
theorem dX11_mayGo_17 : decode cX11_mayGo 17 = .ok (.getfield 121, 3) := by decide +kernel
theorem dX11_mayGo_20 : decode cX11_mayGo 20 = .ok (.bipush 50, 2) := by decide +kernel
theorem dX11_mayGo_22 : decode cX11_mayGo 22 = .ok (.iconst 3, 1) := by decide +kernel
theorem dX11_mayGo_23 : decode cX11_mayGo 23 = .ok (.iload_n 1, 1) := by decide +kernel
theorem dX11_mayGo_24 : decode cX11_mayGo 24 = .ok (.imul, 1) := by decide +kernel
theorem dX11_mayGo_25 : decode cX11_mayGo 25 = .ok (.iadd, 1) := by decide +kernel
theorem dX11_mayGo_26 : decode cX11_mayGo 26 = .ok (.iaload, 1) := by decide +kernel
theorem dX11_mayGo_27 : decode cX11_mayGo 27 = .ok (.aload_n 0, 1) := by decide +kernel
theorem dX11_mayGo_28 : decode cX11_mayGo 28 = .ok (.getfield 106, 3) := by decide +kernel
theorem dX11_mayGo_31 : decode cX11_mayGo 31 = .ok (.iload_n 1, 1) := by decide +kernel
theorem dX11_mayGo_32 : decode cX11_mayGo 32 = .ok (.iaload, 1) := by decide +kernel
theorem dX11_mayGo_33 : decode cX11_mayGo 33 = .ok (.if_icmp .ge 7, 3) := by decide +kernel
theorem dX11_mayGo_36 : decode cX11_mayGo 36 = .ok (.iconst 1, 1) := by decide +kernel
theorem dX11_mayGo_37 : decode cX11_mayGo 37 = .ok (.goto 4, 3) := by decide +kernel
theorem dX11_mayGo_40 : decode cX11_mayGo 40 = .ok (.iconst 0, 1) := by decide +kernel
theorem dX11_mayGo_41 : decode cX11_mayGo 41 = .ok (.ireturn, 1) := by decide +kernel
theorem dX11_mayGo_42 : decode cX11_mayGo 42 = .ok (.iload_n 3, 1) := by decide +kernel
theorem dX11_mayGo_43 : decode cX11_mayGo 43 = .ok (.iconst 5, 1) := by decide +kernel
theorem dX11_mayGo_44 : decode cX11_mayGo 44 = .ok (.idiv, 1) := by decide +kernel
theorem dX11_mayGo_45 : decode cX11_mayGo 45 = .ok (.aload_n 0, 1) := by decide +kernel
theorem dX11_mayGo_46 : decode cX11_mayGo 46 = .ok (.getfield 467, 3) := by decide +kernel
theorem dX11_mayGo_49 : decode cX11_mayGo 49 = .ok (.if_icmp .ge 36, 3) := by decide +kernel
theorem dX11_mayGo_52 : decode cX11_mayGo 52 = .ok (.aload_n 0, 1) := by decide +kernel
theorem dX11_mayGo_53 : decode cX11_mayGo 53 = .ok (.getfield 133, 3) := by decide +kernel
theorem dX11_mayGo_56 : decode cX11_mayGo 56 = .ok (.iload_n 2, 1) := by decide +kernel
theorem dX11_mayGo_57 : decode cX11_mayGo 57 = .ok (.iaload, 1) := by decide +kernel
theorem dX11_mayGo_58 : decode cX11_mayGo 58 = .ok (.iload_n 3, 1) := by decide +kernel
theorem dX11_mayGo_59 : decode cX11_mayGo 59 = .ok (.iconst 5, 1) := by decide +kernel
theorem dX11_mayGo_60 : decode cX11_mayGo 60 = .ok (.irem, 1) := by decide +kernel
theorem dX11_mayGo_61 : decode cX11_mayGo 61 = .ok (.invokestatic 529, 3) := by decide +kernel
theorem dX11_mayGo_64 : decode cX11_mayGo 64 = .ok (.if_icmp .lt 21, 3) := by decide +kernel
theorem dX11_mayGo_67 : decode cX11_mayGo 67 = .ok (.aload_n 0, 1) := by decide +kernel
theorem dX11_mayGo_68 : decode cX11_mayGo 68 = .ok (.iload_n 1, 1) := by decide +kernel
theorem dX11_mayGo_69 : decode cX11_mayGo 69 = .ok (.iload_n 3, 1) := by decide +kernel
theorem dX11_mayGo_70 : decode cX11_mayGo 70 = .ok (.iconst 5, 1) := by decide +kernel
theorem dX11_mayGo_71 : decode cX11_mayGo 71 = .ok (.idiv, 1) := by decide +kernel
theorem dX11_mayGo_72 : decode cX11_mayGo 72 = .ok (.iload_n 3, 1) := by decide +kernel
theorem dX11_mayGo_73 : decode cX11_mayGo 73 = .ok (.iconst 5, 1) := by decide +kernel
theorem dX11_mayGo_74 : decode cX11_mayGo 74 = .ok (.irem, 1) := by decide +kernel
theorem dX11_mayGo_75 : decode cX11_mayGo 75 = .ok (.invokevirtual 548, 3) := by decide +kernel
theorem dX11_mayGo_78 : decode cX11_mayGo 78 = .ok (.ifCond .eq 7, 3) := by decide +kernel
theorem dX11_mayGo_81 : decode cX11_mayGo 81 = .ok (.iconst 1, 1) := by decide +kernel
theorem dX11_mayGo_82 : decode cX11_mayGo 82 = .ok (.goto 4, 3) := by decide +kernel
theorem dX11_mayGo_85 : decode cX11_mayGo 85 = .ok (.iconst 0, 1) := by decide +kernel
theorem dX11_mayGo_86 : decode cX11_mayGo 86 = .ok (.ireturn, 1) := by decide +kernel
theorem dX11_weigh_0 : decode cX11_weigh 0 = .ok (.iload_n 2, 1) := by decide +kernel
theorem dX11_weigh_1 : decode cX11_weigh 1 = .ok (.aload_n 0, 1) := by decide +kernel
theorem dX11_weigh_2 : decode cX11_weigh 2 = .ok (.getfield 145, 3) := by decide +kernel
theorem dX11_weigh_5 : decode cX11_weigh 5 = .ok (.iload_n 1, 1) := by decide +kernel
theorem dX11_weigh_6 : decode cX11_weigh 6 = .ok (.iaload, 1) := by decide +kernel
theorem dX11_weigh_7 : decode cX11_weigh 7 = .ok (.if_icmp .gt 4, 3) := by decide +kernel
theorem dX11_weigh_10 : decode cX11_weigh 10 = .ok (.return_, 1) := by decide +kernel
theorem dX11_weigh_11 : decode cX11_weigh 11 = .ok (.aload_n 0, 1) := by decide +kernel
theorem dX11_weigh_12 : decode cX11_weigh 12 = .ok (.getfield 145, 3) := by decide +kernel
theorem dX11_weigh_15 : decode cX11_weigh 15 = .ok (.iload_n 1, 1) := by decide +kernel
theorem dX11_weigh_16 : decode cX11_weigh 16 = .ok (.iload_n 2, 1) := by decide +kernel
theorem dX11_weigh_17 : decode cX11_weigh 17 = .ok (.iastore, 1) := by decide +kernel
theorem dX11_weigh_18 : decode cX11_weigh 18 = .ok (.aload_n 0, 1) := by decide +kernel
theorem dX11_weigh_19 : decode cX11_weigh 19 = .ok (.getfield 148, 3) := by decide +kernel
theorem dX11_weigh_22 : decode cX11_weigh 22 = .ok (.iload_n 1, 1) := by decide +kernel
theorem dX11_weigh_23 : decode cX11_weigh 23 = .ok (.aload_n 0, 1) := by decide +kernel
theorem dX11_weigh_24 : decode cX11_weigh 24 = .ok (.getfield 136, 3) := by decide +kernel
theorem dX11_weigh_27 : decode cX11_weigh 27 = .ok (.iload_n 1, 1) := by decide +kernel
theorem dX11_weigh_28 : decode cX11_weigh 28 = .ok (.iaload, 1) := by decide +kernel
theorem dX11_weigh_29 : decode cX11_weigh 29 = .ok (.iastore, 1) := by decide +kernel
theorem dX11_weigh_30 : decode cX11_weigh 30 = .ok (.return_, 1) := by decide +kernel
theorem dX11_layBest_0 : decode cX11_layBest 0 = .ok (.aload_n 0, 1) := by decide +kernel
theorem dX11_layBest_1 : decode cX11_layBest 1 = .ok (.iconst 0, 1) := by decide +kernel
theorem dX11_layBest_2 : decode cX11_layBest 2 = .ok (.putfield 590, 3) := by decide +kernel
theorem dX11_layBest_5 : decode cX11_layBest 5 = .ok (.aload_n 0, 1) := by decide +kernel
theorem dX11_layBest_6 : decode cX11_layBest 6 = .ok (.invokevirtual 566, 3) := by decide +kernel
theorem dX11_layBest_9 : decode cX11_layBest 9 = .ok (.aload_n 0, 1) := by decide +kernel
theorem dX11_layBest_10 : decode cX11_layBest 10 = .ok (.iconst 0, 1) := by decide +kernel
theorem dX11_layBest_11 : decode cX11_layBest 11 = .ok (.iload_n 2, 1) := by decide +kernel
theorem dX11_layBest_12 : decode cX11_layBest 12 = .ok (.invokevirtual 593, 3) := by decide +kernel
theorem dX11_layBest_15 : decode cX11_layBest 15 = .ok (.iconst 0, 1) := by decide +kernel
theorem dX11_layBest_16 : decode cX11_layBest 16 = .ok (.istore_n 3, 1) := by decide +kernel
theorem dX11_layBest_17 : decode cX11_layBest 17 = .ok (.iconst 0, 1) := by decide +kernel
theorem dX11_layBest_18 : decode cX11_layBest 18 = .ok (.istore 4, 2) := by decide +kernel
theorem dX11_layBest_20 : decode cX11_layBest 20 = .ok (.iload_n 3, 1) := by decide +kernel
theorem dX11_layBest_21 : decode cX11_layBest 21 = .ok (.ifCond .lt 327, 3) := by decide +kernel
theorem dX11_layBest_24 : decode cX11_layBest 24 = .ok (.aload_n 0, 1) := by decide +kernel
theorem dX11_layBest_25 : decode cX11_layBest 25 = .ok (.getfield 590, 3) := by decide +kernel
theorem dX11_layBest_28 : decode cX11_layBest 28 = .ok (.sipush 20000, 3) := by decide +kernel
theorem dX11_layBest_31 : decode cX11_layBest 31 = .ok (.if_icmp .gt 317, 3) := by decide +kernel
theorem dX11_layBest_34 : decode cX11_layBest 34 = .ok (.aload_n 0, 1) := by decide +kernel
theorem dX11_layBest_35 : decode cX11_layBest 35 = .ok (.iload_n 3, 1) := by decide +kernel
theorem dX11_layBest_36 : decode cX11_layBest 36 = .ok (.invokevirtual 596, 3) := by decide +kernel
theorem dX11_layBest_39 : decode cX11_layBest 39 = .ok (.aload_n 0, 1) := by decide +kernel
theorem dX11_layBest_40 : decode cX11_layBest 40 = .ok (.getfield 136, 3) := by decide +kernel
theorem dX11_layBest_43 : decode cX11_layBest 43 = .ok (.iload_n 3, 1) := by decide +kernel
theorem dX11_layBest_44 : decode cX11_layBest 44 = .ok (.iaload, 1) := by decide +kernel
theorem dX11_layBest_45 : decode cX11_layBest 45 = .ok (.istore 5, 2) := by decide +kernel
theorem dX11_layBest_47 : decode cX11_layBest 47 = .ok (.aload_n 0, 1) := by decide +kernel
theorem dX11_layBest_48 : decode cX11_layBest 48 = .ok (.getfield 139, 3) := by decide +kernel
theorem dX11_layBest_51 : decode cX11_layBest 51 = .ok (.iload_n 3, 1) := by decide +kernel
theorem dX11_layBest_52 : decode cX11_layBest 52 = .ok (.iaload, 1) := by decide +kernel
theorem dX11_layBest_53 : decode cX11_layBest 53 = .ok (.iconst 1, 1) := by decide +kernel
theorem dX11_layBest_54 : decode cX11_layBest 54 = .ok (.if_icmp .ne 58, 3) := by decide +kernel
theorem dX11_layBest_57 : decode cX11_layBest 57 = .ok (.aload_n 0, 1) := by decide +kernel
theorem dX11_layBest_58 : decode cX11_layBest 58 = .ok (.getfield 142, 3) := by decide +kernel
theorem dX11_layBest_61 : decode cX11_layBest 61 = .ok (.iload_n 3, 1) := by decide +kernel
theorem dX11_layBest_62 : decode cX11_layBest 62 = .ok (.iload 4, 2) := by decide +kernel
theorem dX11_layBest_64 : decode cX11_layBest 64 = .ok (.iastore, 1) := by decide +kernel
theorem dX11_layBest_65 : decode cX11_layBest 65 = .ok (.aload_n 0, 1) := by decide +kernel
theorem dX11_layBest_66 : decode cX11_layBest 66 = .ok (.getfield 139, 3) := by decide +kernel
theorem dX11_layBest_69 : decode cX11_layBest 69 = .ok (.iload_n 3, 1) := by decide +kernel
theorem dX11_layBest_70 : decode cX11_layBest 70 = .ok (.iconst 2, 1) := by decide +kernel
theorem dX11_layBest_71 : decode cX11_layBest 71 = .ok (.iastore, 1) := by decide +kernel
theorem dX11_layBest_72 : decode cX11_layBest 72 = .ok (.aload_n 0, 1) := by decide +kernel
theorem dX11_layBest_73 : decode cX11_layBest 73 = .ok (.iload_n 1, 1) := by decide +kernel
theorem dX11_layBest_74 : decode cX11_layBest 74 = .ok (.iload 5, 2) := by decide +kernel
theorem dX11_layBest_76 : decode cX11_layBest 76 = .ok (.iconst 5, 1) := by decide +kernel
theorem dX11_layBest_77 : decode cX11_layBest 77 = .ok (.idiv, 1) := by decide +kernel
theorem dX11_layBest_78 : decode cX11_layBest 78 = .ok (.iload 5, 2) := by decide +kernel
theorem dX11_layBest_80 : decode cX11_layBest 80 = .ok (.iconst 5, 1) := by decide +kernel
theorem dX11_layBest_81 : decode cX11_layBest 81 = .ok (.irem, 1) := by decide +kernel
theorem dX11_layBest_82 : decode cX11_layBest 82 = .ok (.invokevirtual 545, 3) := by decide +kernel
theorem dX11_layBest_85 : decode cX11_layBest 85 = .ok (.aload_n 0, 1) := by decide +kernel
theorem dX11_layBest_86 : decode cX11_layBest 86 = .ok (.iload_n 3, 1) := by decide +kernel
theorem dX11_layBest_87 : decode cX11_layBest 87 = .ok (.iconst 1, 1) := by decide +kernel
theorem dX11_layBest_88 : decode cX11_layBest 88 = .ok (.iadd, 1) := by decide +kernel
theorem dX11_layBest_89 : decode cX11_layBest 89 = .ok (.aload_n 0, 1) := by decide +kernel
theorem dX11_layBest_90 : decode cX11_layBest 90 = .ok (.getfield 133, 3) := by decide +kernel
theorem dX11_layBest_93 : decode cX11_layBest 93 = .ok (.iload_n 3, 1) := by decide +kernel
theorem dX11_layBest_94 : decode cX11_layBest 94 = .ok (.iaload, 1) := by decide +kernel
theorem dX11_layBest_95 : decode cX11_layBest 95 = .ok (.iload 5, 2) := by decide +kernel
theorem dX11_layBest_97 : decode cX11_layBest 97 = .ok (.iconst 5, 1) := by decide +kernel
theorem dX11_layBest_98 : decode cX11_layBest 98 = .ok (.irem, 1) := by decide +kernel
theorem dX11_layBest_99 : decode cX11_layBest 99 = .ok (.invokestatic 529, 3) := by decide +kernel
theorem dX11_layBest_102 : decode cX11_layBest 102 = .ok (.isub, 1) := by decide +kernel
theorem dX11_layBest_103 : decode cX11_layBest 103 = .ok (.invokevirtual 593, 3) := by decide +kernel
theorem dX11_layBest_106 : decode cX11_layBest 106 = .ok (.iinc 3 1, 3) := by decide +kernel
theorem dX11_layBest_109 : decode cX11_layBest 109 = .ok (.goto 236, 3) := by decide +kernel
theorem dX11_layBest_112 : decode cX11_layBest 112 = .ok (.aload_n 0, 1) := by decide +kernel
theorem dX11_layBest_113 : decode cX11_layBest 113 = .ok (.getfield 139, 3) := by decide +kernel
theorem dX11_layBest_116 : decode cX11_layBest 116 = .ok (.iload_n 3, 1) := by decide +kernel
theorem dX11_layBest_117 : decode cX11_layBest 117 = .ok (.iaload, 1) := by decide +kernel
theorem dX11_layBest_118 : decode cX11_layBest 118 = .ok (.ifCond .ne 146, 3) := by decide +kernel
theorem dX11_layBest_121 : decode cX11_layBest 121 = .ok (.iinc 5 1, 3) := by decide +kernel
theorem dX11_layBest_124 : decode cX11_layBest 124 = .ok (.iload 5, 2) := by decide +kernel
theorem dX11_layBest_126 : decode cX11_layBest 126 = .ok (.bipush 50, 2) := by decide +kernel
theorem dX11_layBest_128 : decode cX11_layBest 128 = .ok (.if_icmp .gt 20, 3) := by decide +kernel
theorem dX11_layBest_131 : decode cX11_layBest 131 = .ok (.aload_n 0, 1) := by decide +kernel
theorem dX11_layBest_132 : decode cX11_layBest 132 = .ok (.iload_n 1, 1) := by decide +kernel
theorem dX11_layBest_133 : decode cX11_layBest 133 = .ok (.iload_n 3, 1) := by decide +kernel
theorem dX11_layBest_134 : decode cX11_layBest 134 = .ok (.iload 5, 2) := by decide +kernel
theorem dX11_layBest_136 : decode cX11_layBest 136 = .ok (.invokevirtual 599, 3) := by decide +kernel
theorem dX11_layBest_139 : decode cX11_layBest 139 = .ok (.ifCond .ne 9, 3) := by decide +kernel
theorem dX11_layBest_142 : decode cX11_layBest 142 = .ok (.iinc 5 1, 3) := by decide +kernel
theorem dX11_layBest_145 : decode cX11_layBest 145 = .ok (.goto (-21), 3) := by decide +kernel
theorem dX11_layBest_148 : decode cX11_layBest 148 = .ok (.aload_n 0, 1) := by decide +kernel
theorem dX11_layBest_149 : decode cX11_layBest 149 = .ok (.getfield 136, 3) := by decide +kernel
theorem dX11_layBest_152 : decode cX11_layBest 152 = .ok (.iload_n 3, 1) := by decide +kernel
theorem dX11_layBest_153 : decode cX11_layBest 153 = .ok (.iload 5, 2) := by decide +kernel
theorem dX11_layBest_155 : decode cX11_layBest 155 = .ok (.iastore, 1) := by decide +kernel
theorem dX11_layBest_156 : decode cX11_layBest 156 = .ok (.iload 5, 2) := by decide +kernel
theorem dX11_layBest_158 : decode cX11_layBest 158 = .ok (.bipush 50, 2) := by decide +kernel
theorem dX11_layBest_160 : decode cX11_layBest 160 = .ok (.if_icmp .le 17, 3) := by decide +kernel
theorem dX11_layBest_163 : decode cX11_layBest 163 = .ok (.aload_n 0, 1) := by decide +kernel
theorem dX11_layBest_164 : decode cX11_layBest 164 = .ok (.getfield 145, 3) := by decide +kernel
theorem dX11_layBest_167 : decode cX11_layBest 167 = .ok (.iload_n 3, 1) := by decide +kernel
theorem dX11_layBest_168 : decode cX11_layBest 168 = .ok (.iaload, 1) := by decide +kernel
theorem dX11_layBest_169 : decode cX11_layBest 169 = .ok (.istore 4, 2) := by decide +kernel
theorem dX11_layBest_171 : decode cX11_layBest 171 = .ok (.iinc 3 (-1), 3) := by decide +kernel
theorem dX11_layBest_174 : decode cX11_layBest 174 = .ok (.goto 171, 3) := by decide +kernel
theorem dX11_layBest_177 : decode cX11_layBest 177 = .ok (.iload 5, 2) := by decide +kernel
theorem dX11_layBest_179 : decode cX11_layBest 179 = .ok (.bipush 50, 2) := by decide +kernel
theorem dX11_layBest_181 : decode cX11_layBest 181 = .ok (.if_icmp .ne 36, 3) := by decide +kernel
theorem dX11_layBest_184 : decode cX11_layBest 184 = .ok (.aload_n 0, 1) := by decide +kernel
theorem dX11_layBest_185 : decode cX11_layBest 185 = .ok (.getfield 139, 3) := by decide +kernel
theorem dX11_layBest_188 : decode cX11_layBest 188 = .ok (.iload_n 3, 1) := by decide +kernel
theorem dX11_layBest_189 : decode cX11_layBest 189 = .ok (.iconst 3, 1) := by decide +kernel
theorem dX11_layBest_190 : decode cX11_layBest 190 = .ok (.iastore, 1) := by decide +kernel
theorem dX11_layBest_191 : decode cX11_layBest 191 = .ok (.aload_n 0, 1) := by decide +kernel
theorem dX11_layBest_192 : decode cX11_layBest 192 = .ok (.iload_n 1, 1) := by decide +kernel
theorem dX11_layBest_193 : decode cX11_layBest 193 = .ok (.invokevirtual 557, 3) := by decide +kernel
theorem dX11_layBest_196 : decode cX11_layBest 196 = .ok (.aload_n 0, 1) := by decide +kernel
theorem dX11_layBest_197 : decode cX11_layBest 197 = .ok (.iload_n 3, 1) := by decide +kernel
theorem dX11_layBest_198 : decode cX11_layBest 198 = .ok (.iconst 1, 1) := by decide +kernel
theorem dX11_layBest_199 : decode cX11_layBest 199 = .ok (.iadd, 1) := by decide +kernel
theorem dX11_layBest_200 : decode cX11_layBest 200 = .ok (.aload_n 0, 1) := by decide +kernel
theorem dX11_layBest_201 : decode cX11_layBest 201 = .ok (.getfield 133, 3) := by decide +kernel
theorem dX11_layBest_204 : decode cX11_layBest 204 = .ok (.iload_n 3, 1) := by decide +kernel
theorem dX11_layBest_205 : decode cX11_layBest 205 = .ok (.iaload, 1) := by decide +kernel
theorem dX11_layBest_206 : decode cX11_layBest 206 = .ok (.iconst 2, 1) := by decide +kernel
theorem dX11_layBest_207 : decode cX11_layBest 207 = .ok (.isub, 1) := by decide +kernel
theorem dX11_layBest_208 : decode cX11_layBest 208 = .ok (.invokevirtual 593, 3) := by decide +kernel
theorem dX11_layBest_211 : decode cX11_layBest 211 = .ok (.iinc 3 1, 3) := by decide +kernel
theorem dX11_layBest_214 : decode cX11_layBest 214 = .ok (.goto 131, 3) := by decide +kernel
theorem dX11_layBest_217 : decode cX11_layBest 217 = .ok (.aload_n 0, 1) := by decide +kernel
theorem dX11_layBest_218 : decode cX11_layBest 218 = .ok (.getfield 139, 3) := by decide +kernel
theorem dX11_layBest_221 : decode cX11_layBest 221 = .ok (.iload_n 3, 1) := by decide +kernel
theorem dX11_layBest_222 : decode cX11_layBest 222 = .ok (.iconst 1, 1) := by decide +kernel
theorem dX11_layBest_223 : decode cX11_layBest 223 = .ok (.iastore, 1) := by decide +kernel
theorem dX11_layBest_224 : decode cX11_layBest 224 = .ok (.aload_n 0, 1) := by decide +kernel
theorem dX11_layBest_225 : decode cX11_layBest 225 = .ok (.iload_n 1, 1) := by decide +kernel
theorem dX11_layBest_226 : decode cX11_layBest 226 = .ok (.iload 5, 2) := by decide +kernel
theorem dX11_layBest_228 : decode cX11_layBest 228 = .ok (.iconst 5, 1) := by decide +kernel
theorem dX11_layBest_229 : decode cX11_layBest 229 = .ok (.idiv, 1) := by decide +kernel
theorem dX11_layBest_230 : decode cX11_layBest 230 = .ok (.iload 5, 2) := by decide +kernel
theorem dX11_layBest_232 : decode cX11_layBest 232 = .ok (.iconst 5, 1) := by decide +kernel
theorem dX11_layBest_233 : decode cX11_layBest 233 = .ok (.irem, 1) := by decide +kernel
theorem dX11_layBest_234 : decode cX11_layBest 234 = .ok (.invokevirtual 541, 3) := by decide +kernel
theorem dX11_layBest_237 : decode cX11_layBest 237 = .ok (.aload_n 0, 1) := by decide +kernel
theorem dX11_layBest_238 : decode cX11_layBest 238 = .ok (.iload_n 3, 1) := by decide +kernel
theorem dX11_layBest_239 : decode cX11_layBest 239 = .ok (.iconst 1, 1) := by decide +kernel
theorem dX11_layBest_240 : decode cX11_layBest 240 = .ok (.iadd, 1) := by decide +kernel
theorem dX11_layBest_241 : decode cX11_layBest 241 = .ok (.aload_n 0, 1) := by decide +kernel
theorem dX11_layBest_242 : decode cX11_layBest 242 = .ok (.getfield 133, 3) := by decide +kernel
theorem dX11_layBest_245 : decode cX11_layBest 245 = .ok (.iload_n 3, 1) := by decide +kernel
theorem dX11_layBest_246 : decode cX11_layBest 246 = .ok (.iaload, 1) := by decide +kernel
theorem dX11_layBest_247 : decode cX11_layBest 247 = .ok (.iload 5, 2) := by decide +kernel
theorem dX11_layBest_249 : decode cX11_layBest 249 = .ok (.iconst 5, 1) := by decide +kernel
theorem dX11_layBest_250 : decode cX11_layBest 250 = .ok (.irem, 1) := by decide +kernel
theorem dX11_layBest_251 : decode cX11_layBest 251 = .ok (.invokestatic 529, 3) := by decide +kernel
theorem dX11_layBest_254 : decode cX11_layBest 254 = .ok (.isub, 1) := by decide +kernel
theorem dX11_layBest_255 : decode cX11_layBest 255 = .ok (.invokevirtual 593, 3) := by decide +kernel
theorem dX11_layBest_258 : decode cX11_layBest 258 = .ok (.iinc 3 1, 3) := by decide +kernel
theorem dX11_layBest_261 : decode cX11_layBest 261 = .ok (.goto 84, 3) := by decide +kernel
theorem dX11_layBest_264 : decode cX11_layBest 264 = .ok (.aload_n 0, 1) := by decide +kernel
theorem dX11_layBest_265 : decode cX11_layBest 265 = .ok (.getfield 139, 3) := by decide +kernel
theorem dX11_layBest_268 : decode cX11_layBest 268 = .ok (.iload_n 3, 1) := by decide +kernel
theorem dX11_layBest_269 : decode cX11_layBest 269 = .ok (.iaload, 1) := by decide +kernel
theorem dX11_layBest_270 : decode cX11_layBest 270 = .ok (.iconst 2, 1) := by decide +kernel
theorem dX11_layBest_271 : decode cX11_layBest 271 = .ok (.if_icmp .ne 19, 3) := by decide +kernel
theorem dX11_layBest_274 : decode cX11_layBest 274 = .ok (.aload_n 0, 1) := by decide +kernel
theorem dX11_layBest_275 : decode cX11_layBest 275 = .ok (.iload_n 1, 1) := by decide +kernel
theorem dX11_layBest_276 : decode cX11_layBest 276 = .ok (.iload 5, 2) := by decide +kernel
theorem dX11_layBest_278 : decode cX11_layBest 278 = .ok (.iconst 5, 1) := by decide +kernel
theorem dX11_layBest_279 : decode cX11_layBest 279 = .ok (.idiv, 1) := by decide +kernel
theorem dX11_layBest_280 : decode cX11_layBest 280 = .ok (.iload 5, 2) := by decide +kernel
theorem dX11_layBest_282 : decode cX11_layBest 282 = .ok (.iconst 5, 1) := by decide +kernel
theorem dX11_layBest_283 : decode cX11_layBest 283 = .ok (.irem, 1) := by decide +kernel
theorem dX11_layBest_284 : decode cX11_layBest 284 = .ok (.invokevirtual 538, 3) := by decide +kernel
theorem dX11_layBest_287 : decode cX11_layBest 287 = .ok (.goto 4, 3) := by decide +kernel
theorem dX11_layBest_290 : decode cX11_layBest 290 = .ok (.iconst 0, 1) := by decide +kernel
theorem dX11_layBest_291 : decode cX11_layBest 291 = .ok (.istore 6, 2) := by decide +kernel
theorem dX11_layBest_293 : decode cX11_layBest 293 = .ok (.aload_n 0, 1) := by decide +kernel
theorem dX11_layBest_294 : decode cX11_layBest 294 = .ok (.iload_n 3, 1) := by decide +kernel
theorem dX11_layBest_295 : decode cX11_layBest 295 = .ok (.aload_n 0, 1) := by decide +kernel
