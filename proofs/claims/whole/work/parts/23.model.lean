/-! PadeWorkbenchModel.findScheme(I)V -/
theorem md_M_findScheme_0 : decode prog_14_method_60_code 0 = .ok (.iconst 0, 1) := by decide +kernel
theorem md_M_findScheme_1 : decode prog_14_method_60_code 1 = .ok (.istore_n 2, 1) := by decide +kernel
theorem md_M_findScheme_2 : decode prog_14_method_60_code 2 = .ok (.iload_n 2, 1) := by decide +kernel
theorem md_M_findScheme_3 : decode prog_14_method_60_code 3 = .ok (.bipush 15, 2) := by decide +kernel
theorem md_M_findScheme_5 : decode prog_14_method_60_code 5 = .ok (.if_icmp .gt 82, 3) := by decide +kernel
theorem md_M_findScheme_87 : decode prog_14_method_60_code 87 = .ok (.iconst 1, 1) := by decide +kernel
theorem md_M_findScheme_88 : decode prog_14_method_60_code 88 = .ok (.istore_n 2, 1) := by decide +kernel
theorem md_M_findScheme_89 : decode prog_14_method_60_code 89 = .ok (.iload_n 2, 1) := by decide +kernel
theorem md_M_findScheme_90 : decode prog_14_method_60_code 90 = .ok (.bipush 8, 2) := by decide +kernel
theorem md_M_findScheme_92 : decode prog_14_method_60_code 92 = .ok (.if_icmp .gt 221, 3) := by decide +kernel
theorem md_M_findScheme_313 : decode prog_14_method_60_code 313 = .ok (.return_, 1) := by decide +kernel
theorem md_M_findScheme_95 : decode prog_14_method_60_code 95 = .ok (.iconst 0, 1) := by decide +kernel
theorem md_M_findScheme_96 : decode prog_14_method_60_code 96 = .ok (.istore_n 3, 1) := by decide +kernel
theorem md_M_findScheme_97 : decode prog_14_method_60_code 97 = .ok (.iload_n 3, 1) := by decide +kernel
theorem md_M_findScheme_98 : decode prog_14_method_60_code 98 = .ok (.iconst 2, 1) := by decide +kernel
theorem md_M_findScheme_99 : decode prog_14_method_60_code 99 = .ok (.iload_n 2, 1) := by decide +kernel
theorem md_M_findScheme_100 : decode prog_14_method_60_code 100 = .ok (.imul, 1) := by decide +kernel
theorem md_M_findScheme_101 : decode prog_14_method_60_code 101 = .ok (.iadd, 1) := by decide +kernel
theorem md_M_findScheme_102 : decode prog_14_method_60_code 102 = .ok (.bipush 15, 2) := by decide +kernel
theorem md_M_findScheme_104 : decode prog_14_method_60_code 104 = .ok (.if_icmp .gt 92, 3) := by decide +kernel
theorem md_M_findScheme_196 : decode prog_14_method_60_code 196 = .ok (.iconst 0, 1) := by decide +kernel
theorem md_M_findScheme_197 : decode prog_14_method_60_code 197 = .ok (.istore_n 3, 1) := by decide +kernel
theorem md_M_findScheme_198 : decode prog_14_method_60_code 198 = .ok (.iload_n 3, 1) := by decide +kernel
theorem md_M_findScheme_199 : decode prog_14_method_60_code 199 = .ok (.iconst 2, 1) := by decide +kernel
theorem md_M_findScheme_200 : decode prog_14_method_60_code 200 = .ok (.iload_n 2, 1) := by decide +kernel
theorem md_M_findScheme_201 : decode prog_14_method_60_code 201 = .ok (.imul, 1) := by decide +kernel
theorem md_M_findScheme_202 : decode prog_14_method_60_code 202 = .ok (.iadd, 1) := by decide +kernel
theorem md_M_findScheme_203 : decode prog_14_method_60_code 203 = .ok (.iconst 1, 1) := by decide +kernel
theorem md_M_findScheme_204 : decode prog_14_method_60_code 204 = .ok (.iadd, 1) := by decide +kernel
theorem md_M_findScheme_205 : decode prog_14_method_60_code 205 = .ok (.bipush 15, 2) := by decide +kernel
theorem md_M_findScheme_207 : decode prog_14_method_60_code 207 = .ok (.if_icmp .gt 100, 3) := by decide +kernel
theorem md_M_findScheme_307 : decode prog_14_method_60_code 307 = .ok (.iinc 2 1, 3) := by decide +kernel
theorem md_M_findScheme_310 : decode prog_14_method_60_code 310 = .ok (.goto (-221), 3) := by decide +kernel
theorem md_M_findScheme_210 : decode prog_14_method_60_code 210 = .ok (.aload_n 0, 1) := by decide +kernel
theorem md_M_findScheme_211 : decode prog_14_method_60_code 211 = .ok (.getfield 55, 3) := by decide +kernel
theorem md_M_findScheme_214 : decode prog_14_method_60_code 214 = .ok (.iload_n 2, 1) := by decide +kernel
theorem md_M_findScheme_215 : decode prog_14_method_60_code 215 = .ok (.iload_n 3, 1) := by decide +kernel
theorem md_M_findScheme_216 : decode prog_14_method_60_code 216 = .ok (.iconst 1, 1) := by decide +kernel
theorem md_M_findScheme_217 : decode prog_14_method_60_code 217 = .ok (.iadd, 1) := by decide +kernel
theorem md_M_findScheme_218 : decode prog_14_method_60_code 218 = .ok (.invokestatic 199, 3) := by decide +kernel
theorem md_M_findScheme_221 : decode prog_14_method_60_code 221 = .ok (.iaload, 1) := by decide +kernel
theorem md_M_findScheme_222 : decode prog_14_method_60_code 222 = .ok (.istore 4, 2) := by decide +kernel
theorem md_M_findScheme_224 : decode prog_14_method_60_code 224 = .ok (.aload_n 0, 1) := by decide +kernel
theorem md_M_findScheme_225 : decode prog_14_method_60_code 225 = .ok (.getfield 58, 3) := by decide +kernel
theorem md_M_findScheme_228 : decode prog_14_method_60_code 228 = .ok (.iload_n 2, 1) := by decide +kernel
theorem md_M_findScheme_229 : decode prog_14_method_60_code 229 = .ok (.iload_n 3, 1) := by decide +kernel
theorem md_M_findScheme_230 : decode prog_14_method_60_code 230 = .ok (.iconst 1, 1) := by decide +kernel
theorem md_M_findScheme_231 : decode prog_14_method_60_code 231 = .ok (.iadd, 1) := by decide +kernel
theorem md_M_findScheme_232 : decode prog_14_method_60_code 232 = .ok (.invokestatic 199, 3) := by decide +kernel
theorem md_M_findScheme_235 : decode prog_14_method_60_code 235 = .ok (.iaload, 1) := by decide +kernel
theorem md_M_findScheme_236 : decode prog_14_method_60_code 236 = .ok (.istore 5, 2) := by decide +kernel
theorem md_M_findScheme_238 : decode prog_14_method_60_code 238 = .ok (.aload_n 0, 1) := by decide +kernel
theorem md_M_findScheme_239 : decode prog_14_method_60_code 239 = .ok (.getfield 58, 3) := by decide +kernel
theorem md_M_findScheme_242 : decode prog_14_method_60_code 242 = .ok (.iload_n 2, 1) := by decide +kernel
theorem md_M_findScheme_243 : decode prog_14_method_60_code 243 = .ok (.iload_n 3, 1) := by decide +kernel
theorem md_M_findScheme_244 : decode prog_14_method_60_code 244 = .ok (.invokestatic 199, 3) := by decide +kernel
theorem md_M_findScheme_247 : decode prog_14_method_60_code 247 = .ok (.iaload, 1) := by decide +kernel
theorem md_M_findScheme_248 : decode prog_14_method_60_code 248 = .ok (.istore 6, 2) := by decide +kernel
theorem md_M_findScheme_250 : decode prog_14_method_60_code 250 = .ok (.aload_n 0, 1) := by decide +kernel
theorem md_M_findScheme_251 : decode prog_14_method_60_code 251 = .ok (.getfield 55, 3) := by decide +kernel
theorem md_M_findScheme_254 : decode prog_14_method_60_code 254 = .ok (.iload_n 2, 1) := by decide +kernel
theorem md_M_findScheme_255 : decode prog_14_method_60_code 255 = .ok (.iconst 1, 1) := by decide +kernel
theorem md_M_findScheme_256 : decode prog_14_method_60_code 256 = .ok (.iadd, 1) := by decide +kernel
theorem md_M_findScheme_257 : decode prog_14_method_60_code 257 = .ok (.iload_n 3, 1) := by decide +kernel
theorem md_M_findScheme_258 : decode prog_14_method_60_code 258 = .ok (.invokestatic 199, 3) := by decide +kernel
theorem md_M_findScheme_261 : decode prog_14_method_60_code 261 = .ok (.iload 4, 2) := by decide +kernel
theorem md_M_findScheme_263 : decode prog_14_method_60_code 263 = .ok (.ifCond .lt 13, 3) := by decide +kernel
theorem md_M_findScheme_276 : decode prog_14_method_60_code 276 = .ok (.iconst (-1), 1) := by decide +kernel
theorem md_M_findScheme_277 : decode prog_14_method_60_code 277 = .ok (.goto 23, 3) := by decide +kernel
theorem md_M_findScheme_300 : decode prog_14_method_60_code 300 = .ok (.iastore, 1) := by decide +kernel
theorem md_M_findScheme_301 : decode prog_14_method_60_code 301 = .ok (.iinc 3 1, 3) := by decide +kernel
theorem md_M_findScheme_304 : decode prog_14_method_60_code 304 = .ok (.goto (-106), 3) := by decide +kernel
theorem md_M_findScheme_266 : decode prog_14_method_60_code 266 = .ok (.iload 5, 2) := by decide +kernel
theorem md_M_findScheme_268 : decode prog_14_method_60_code 268 = .ok (.ifCond .lt 8, 3) := by decide +kernel
theorem md_M_findScheme_271 : decode prog_14_method_60_code 271 = .ok (.iload 6, 2) := by decide +kernel
theorem md_M_findScheme_273 : decode prog_14_method_60_code 273 = .ok (.ifCond .gt 7, 3) := by decide +kernel
theorem md_M_findScheme_280 : decode prog_14_method_60_code 280 = .ok (.aload_n 0, 1) := by decide +kernel
theorem md_M_findScheme_281 : decode prog_14_method_60_code 281 = .ok (.aload_n 0, 1) := by decide +kernel
theorem md_M_findScheme_282 : decode prog_14_method_60_code 282 = .ok (.iload 4, 2) := by decide +kernel
theorem md_M_findScheme_284 : decode prog_14_method_60_code 284 = .ok (.iload 5, 2) := by decide +kernel
theorem md_M_findScheme_286 : decode prog_14_method_60_code 286 = .ok (.imul, 1) := by decide +kernel
theorem md_M_findScheme_287 : decode prog_14_method_60_code 287 = .ok (.invokevirtual 91, 3) := by decide +kernel
theorem md_M_findScheme_290 : decode prog_14_method_60_code 290 = .ok (.aload_n 0, 1) := by decide +kernel
theorem md_M_findScheme_291 : decode prog_14_method_60_code 291 = .ok (.iload 6, 2) := by decide +kernel
theorem md_M_findScheme_293 : decode prog_14_method_60_code 293 = .ok (.invokevirtual 94, 3) := by decide +kernel
theorem md_M_findScheme_296 : decode prog_14_method_60_code 296 = .ok (.imul, 1) := by decide +kernel
theorem md_M_findScheme_297 : decode prog_14_method_60_code 297 = .ok (.invokevirtual 91, 3) := by decide +kernel
theorem md_M_findScheme_107 : decode prog_14_method_60_code 107 = .ok (.aload_n 0, 1) := by decide +kernel
theorem md_M_findScheme_108 : decode prog_14_method_60_code 108 = .ok (.getfield 55, 3) := by decide +kernel
theorem md_M_findScheme_111 : decode prog_14_method_60_code 111 = .ok (.iload_n 2, 1) := by decide +kernel
theorem md_M_findScheme_112 : decode prog_14_method_60_code 112 = .ok (.iload_n 3, 1) := by decide +kernel
theorem md_M_findScheme_113 : decode prog_14_method_60_code 113 = .ok (.iconst 1, 1) := by decide +kernel
theorem md_M_findScheme_114 : decode prog_14_method_60_code 114 = .ok (.iadd, 1) := by decide +kernel
theorem md_M_findScheme_115 : decode prog_14_method_60_code 115 = .ok (.invokestatic 199, 3) := by decide +kernel
theorem md_M_findScheme_118 : decode prog_14_method_60_code 118 = .ok (.iaload, 1) := by decide +kernel
theorem md_M_findScheme_119 : decode prog_14_method_60_code 119 = .ok (.istore 4, 2) := by decide +kernel
theorem md_M_findScheme_121 : decode prog_14_method_60_code 121 = .ok (.aload_n 0, 1) := by decide +kernel
theorem md_M_findScheme_122 : decode prog_14_method_60_code 122 = .ok (.getfield 55, 3) := by decide +kernel
theorem md_M_findScheme_125 : decode prog_14_method_60_code 125 = .ok (.iload_n 2, 1) := by decide +kernel
theorem md_M_findScheme_126 : decode prog_14_method_60_code 126 = .ok (.iload_n 3, 1) := by decide +kernel
theorem md_M_findScheme_127 : decode prog_14_method_60_code 127 = .ok (.invokestatic 199, 3) := by decide +kernel
theorem md_M_findScheme_130 : decode prog_14_method_60_code 130 = .ok (.iaload, 1) := by decide +kernel
theorem md_M_findScheme_131 : decode prog_14_method_60_code 131 = .ok (.istore 5, 2) := by decide +kernel
theorem md_M_findScheme_133 : decode prog_14_method_60_code 133 = .ok (.aload_n 0, 1) := by decide +kernel
theorem md_M_findScheme_134 : decode prog_14_method_60_code 134 = .ok (.getfield 58, 3) := by decide +kernel
theorem md_M_findScheme_137 : decode prog_14_method_60_code 137 = .ok (.iload_n 2, 1) := by decide +kernel
theorem md_M_findScheme_138 : decode prog_14_method_60_code 138 = .ok (.iconst 1, 1) := by decide +kernel
theorem md_M_findScheme_139 : decode prog_14_method_60_code 139 = .ok (.isub, 1) := by decide +kernel
theorem md_M_findScheme_140 : decode prog_14_method_60_code 140 = .ok (.iload_n 3, 1) := by decide +kernel
theorem md_M_findScheme_141 : decode prog_14_method_60_code 141 = .ok (.iconst 1, 1) := by decide +kernel
theorem md_M_findScheme_142 : decode prog_14_method_60_code 142 = .ok (.iadd, 1) := by decide +kernel
theorem md_M_findScheme_143 : decode prog_14_method_60_code 143 = .ok (.invokestatic 199, 3) := by decide +kernel
theorem md_M_findScheme_146 : decode prog_14_method_60_code 146 = .ok (.iaload, 1) := by decide +kernel
theorem md_M_findScheme_147 : decode prog_14_method_60_code 147 = .ok (.istore 6, 2) := by decide +kernel
theorem md_M_findScheme_149 : decode prog_14_method_60_code 149 = .ok (.aload_n 0, 1) := by decide +kernel
theorem md_M_findScheme_150 : decode prog_14_method_60_code 150 = .ok (.getfield 58, 3) := by decide +kernel
theorem md_M_findScheme_153 : decode prog_14_method_60_code 153 = .ok (.iload_n 2, 1) := by decide +kernel
theorem md_M_findScheme_154 : decode prog_14_method_60_code 154 = .ok (.iload_n 3, 1) := by decide +kernel
theorem md_M_findScheme_155 : decode prog_14_method_60_code 155 = .ok (.invokestatic 199, 3) := by decide +kernel
theorem md_M_findScheme_158 : decode prog_14_method_60_code 158 = .ok (.iload 4, 2) := by decide +kernel
theorem md_M_findScheme_160 : decode prog_14_method_60_code 160 = .ok (.ifCond .lt 13, 3) := by decide +kernel
theorem md_M_findScheme_173 : decode prog_14_method_60_code 173 = .ok (.iconst (-1), 1) := by decide +kernel
theorem md_M_findScheme_174 : decode prog_14_method_60_code 174 = .ok (.goto 15, 3) := by decide +kernel
theorem md_M_findScheme_189 : decode prog_14_method_60_code 189 = .ok (.iastore, 1) := by decide +kernel
theorem md_M_findScheme_190 : decode prog_14_method_60_code 190 = .ok (.iinc 3 1, 3) := by decide +kernel
theorem md_M_findScheme_193 : decode prog_14_method_60_code 193 = .ok (.goto (-96), 3) := by decide +kernel
theorem md_M_findScheme_163 : decode prog_14_method_60_code 163 = .ok (.iload 5, 2) := by decide +kernel
theorem md_M_findScheme_165 : decode prog_14_method_60_code 165 = .ok (.ifCond .lt 8, 3) := by decide +kernel
theorem md_M_findScheme_168 : decode prog_14_method_60_code 168 = .ok (.iload 6, 2) := by decide +kernel
theorem md_M_findScheme_170 : decode prog_14_method_60_code 170 = .ok (.ifCond .ge 7, 3) := by decide +kernel
theorem md_M_findScheme_177 : decode prog_14_method_60_code 177 = .ok (.aload_n 0, 1) := by decide +kernel
theorem md_M_findScheme_178 : decode prog_14_method_60_code 178 = .ok (.iload 4, 2) := by decide +kernel
theorem md_M_findScheme_180 : decode prog_14_method_60_code 180 = .ok (.iload 5, 2) := by decide +kernel
theorem md_M_findScheme_182 : decode prog_14_method_60_code 182 = .ok (.isub, 1) := by decide +kernel
theorem md_M_findScheme_183 : decode prog_14_method_60_code 183 = .ok (.iload 6, 2) := by decide +kernel
theorem md_M_findScheme_185 : decode prog_14_method_60_code 185 = .ok (.iadd, 1) := by decide +kernel
theorem md_M_findScheme_186 : decode prog_14_method_60_code 186 = .ok (.invokevirtual 91, 3) := by decide +kernel
theorem md_M_findScheme_8 : decode prog_14_method_60_code 8 = .ok (.aload_n 0, 1) := by decide +kernel
theorem md_M_findScheme_9 : decode prog_14_method_60_code 9 = .ok (.getfield 58, 3) := by decide +kernel
theorem md_M_findScheme_12 : decode prog_14_method_60_code 12 = .ok (.iconst 0, 1) := by decide +kernel
theorem md_M_findScheme_13 : decode prog_14_method_60_code 13 = .ok (.iload_n 2, 1) := by decide +kernel
theorem md_M_findScheme_14 : decode prog_14_method_60_code 14 = .ok (.invokestatic 199, 3) := by decide +kernel
theorem md_M_findScheme_17 : decode prog_14_method_60_code 17 = .ok (.iconst 0, 1) := by decide +kernel
theorem md_M_findScheme_18 : decode prog_14_method_60_code 18 = .ok (.iastore, 1) := by decide +kernel
theorem md_M_findScheme_19 : decode prog_14_method_60_code 19 = .ok (.iload_n 2, 1) := by decide +kernel
theorem md_M_findScheme_20 : decode prog_14_method_60_code 20 = .ok (.bipush 15, 2) := by decide +kernel
theorem md_M_findScheme_22 : decode prog_14_method_60_code 22 = .ok (.if_icmp .ge 16, 3) := by decide +kernel
theorem md_M_findScheme_38 : decode prog_14_method_60_code 38 = .ok (.iconst 0, 1) := by decide +kernel
theorem md_M_findScheme_39 : decode prog_14_method_60_code 39 = .ok (.istore_n 3, 1) := by decide +kernel
theorem md_M_findScheme_40 : decode prog_14_method_60_code 40 = .ok (.aload_n 0, 1) := by decide +kernel
theorem md_M_findScheme_41 : decode prog_14_method_60_code 41 = .ok (.getfield 55, 3) := by decide +kernel
theorem md_M_findScheme_44 : decode prog_14_method_60_code 44 = .ok (.iconst 1, 1) := by decide +kernel
theorem md_M_findScheme_45 : decode prog_14_method_60_code 45 = .ok (.iload_n 2, 1) := by decide +kernel
theorem md_M_findScheme_46 : decode prog_14_method_60_code 46 = .ok (.invokestatic 199, 3) := by decide +kernel
theorem md_M_findScheme_49 : decode prog_14_method_60_code 49 = .ok (.iload_n 3, 1) := by decide +kernel
theorem md_M_findScheme_50 : decode prog_14_method_60_code 50 = .ok (.ifCond .eq 29, 3) := by decide +kernel
theorem md_M_findScheme_79 : decode prog_14_method_60_code 79 = .ok (.iconst (-1), 1) := by decide +kernel
theorem md_M_findScheme_80 : decode prog_14_method_60_code 80 = .ok (.iastore, 1) := by decide +kernel
theorem md_M_findScheme_81 : decode prog_14_method_60_code 81 = .ok (.iinc 2 1, 3) := by decide +kernel
theorem md_M_findScheme_84 : decode prog_14_method_60_code 84 = .ok (.goto (-82), 3) := by decide +kernel
theorem md_M_findScheme_53 : decode prog_14_method_60_code 53 = .ok (.aload_n 0, 1) := by decide +kernel
theorem md_M_findScheme_54 : decode prog_14_method_60_code 54 = .ok (.aload_n 0, 1) := by decide +kernel
theorem md_M_findScheme_55 : decode prog_14_method_60_code 55 = .ok (.iload_n 1, 1) := by decide +kernel
theorem md_M_findScheme_56 : decode prog_14_method_60_code 56 = .ok (.iload_n 2, 1) := by decide +kernel
theorem md_M_findScheme_57 : decode prog_14_method_60_code 57 = .ok (.iconst 1, 1) := by decide +kernel
theorem md_M_findScheme_58 : decode prog_14_method_60_code 58 = .ok (.iadd, 1) := by decide +kernel
theorem md_M_findScheme_59 : decode prog_14_method_60_code 59 = .ok (.invokevirtual 87, 3) := by decide +kernel
theorem md_M_findScheme_62 : decode prog_14_method_60_code 62 = .ok (.aload_n 0, 1) := by decide +kernel
theorem md_M_findScheme_63 : decode prog_14_method_60_code 63 = .ok (.aload_n 0, 1) := by decide +kernel
theorem md_M_findScheme_64 : decode prog_14_method_60_code 64 = .ok (.iload_n 1, 1) := by decide +kernel
theorem md_M_findScheme_65 : decode prog_14_method_60_code 65 = .ok (.iload_n 2, 1) := by decide +kernel
theorem md_M_findScheme_66 : decode prog_14_method_60_code 66 = .ok (.invokevirtual 87, 3) := by decide +kernel
theorem md_M_findScheme_69 : decode prog_14_method_60_code 69 = .ok (.invokevirtual 94, 3) := by decide +kernel
theorem md_M_findScheme_72 : decode prog_14_method_60_code 72 = .ok (.imul, 1) := by decide +kernel
theorem md_M_findScheme_73 : decode prog_14_method_60_code 73 = .ok (.invokevirtual 91, 3) := by decide +kernel
theorem md_M_findScheme_76 : decode prog_14_method_60_code 76 = .ok (.goto 4, 3) := by decide +kernel
theorem md_M_findScheme_25 : decode prog_14_method_60_code 25 = .ok (.aload_n 0, 1) := by decide +kernel
theorem md_M_findScheme_26 : decode prog_14_method_60_code 26 = .ok (.iload_n 1, 1) := by decide +kernel
theorem md_M_findScheme_27 : decode prog_14_method_60_code 27 = .ok (.iload_n 2, 1) := by decide +kernel
theorem md_M_findScheme_28 : decode prog_14_method_60_code 28 = .ok (.invokevirtual 87, 3) := by decide +kernel
theorem md_M_findScheme_31 : decode prog_14_method_60_code 31 = .ok (.ifCond .eq 7, 3) := by decide +kernel
theorem md_M_findScheme_34 : decode prog_14_method_60_code 34 = .ok (.iconst 1, 1) := by decide +kernel
theorem md_M_findScheme_35 : decode prog_14_method_60_code 35 = .ok (.goto 4, 3) := by decide +kernel
def mj_M_findScheme_276 (r89 : Nat → Int → pw_Sto → Option (Unit × pw_Sto)) (r198 : Nat → Int → Int → pw_Sto → Option (Unit × pw_Sto)) (x0 : Nat) (x2 : Int) (x3 : Int) (y0 : Int) (y1 : Nat) (σ : pw_Sto) : Option (Unit × pw_Sto) := (pw_si y1 y0 (-1 : Int) σ).bind (fun s16 => r198 x0 x2 (x3 + 1) s16)
def mb_M_findScheme_198 (r89 : Nat → Int → pw_Sto → Option (Unit × pw_Sto)) (rc : Nat → Int → Int → pw_Sto → Option (Unit × pw_Sto)) : Nat → Int → Int → pw_Sto → Option (Unit × pw_Sto) := fun x0 x2 x3 σ => pw_ck ((x3 + ((2 : Int) * x2)) + (1 : Int)) (15 : Int) (if (15 : Int) < ((x3 + ((2 : Int) * x2)) + (1 : Int)) then r89 x0 (x2 + 1) σ else (pw_gr 10 x0 18 σ).bind (fun v1 => pw_bd (mf_M_cell x2 (x3 + (1 : Int)) σ) (fun v3 s2 => (pw_ai v1 v3 s2).bind (fun v4 => (pw_gr 10 x0 19 s2).bind (fun v5 => pw_bd (mf_M_cell x2 (x3 + (1 : Int)) s2) (fun v7 s6 => (pw_ai v5 v7 s6).bind (fun v8 => (pw_gr 10 x0 19 s6).bind (fun v9 => pw_bd (mf_M_cell x2 x3 s6) (fun v11 s10 => (pw_ai v9 v11 s10).bind (fun v12 => (pw_gr 10 x0 18 s10).bind (fun v13 => pw_bd (mf_M_cell (x2 + (1 : Int)) x3 s10) (fun v15 s14 => pw_ck v4 0 (if v4 < 0 then mj_M_findScheme_276 r89 rc x0 x2 x3 v15 v13 s14 else pw_ck v8 0 (if v8 < 0 then mj_M_findScheme_276 r89 rc x0 x2 x3 v15 v13 s14 else pw_ck v12 0 (if 0 < v12 then pw_bd (mf_M_mod x0 (v4 * v8) s14) (fun v18 s17 => pw_bd (mf_M_inverse x0 v12 s17) (fun v20 s19 => pw_bd (mf_M_mod x0 (v18 * v20) s19) (fun v22 s21 => (pw_si v13 v15 v22 s21).bind (fun s23 => rc x0 x2 (x3 + 1) s23)))) else mj_M_findScheme_276 r89 rc x0 x2 x3 v15 v13 s14)))))))))))))))
def ml_M_findScheme_198 (r89 : Nat → Int → pw_Sto → Option (Unit × pw_Sto)) : Nat → Nat → Int → Int → pw_Sto → Option (Unit × pw_Sto) := pw_lp (fun _ _ _ _ => none) (mb_M_findScheme_198 r89)
def mj_M_findScheme_173 (r89 : Nat → Int → pw_Sto → Option (Unit × pw_Sto)) (r97 : Nat → Int → Int → pw_Sto → Option (Unit × pw_Sto)) (x0 : Nat) (x2 : Int) (x3 : Int) (y0 : Int) (y1 : Nat) (σ : pw_Sto) : Option (Unit × pw_Sto) := (pw_si y1 y0 (-1 : Int) σ).bind (fun s39 => r97 x0 x2 (x3 + 1) s39)
def mb_M_findScheme_97 (r89 : Nat → Int → pw_Sto → Option (Unit × pw_Sto)) (rc : Nat → Int → Int → pw_Sto → Option (Unit × pw_Sto)) : Nat → Int → Int → pw_Sto → Option (Unit × pw_Sto) := fun x0 x2 x3 σ => pw_ck (x3 + ((2 : Int) * x2)) (15 : Int) (if (15 : Int) < (x3 + ((2 : Int) * x2)) then ml_M_findScheme_198 r89 1000 x0 x2 (0 : Int) σ else (pw_gr 10 x0 18 σ).bind (fun v24 => pw_bd (mf_M_cell x2 (x3 + (1 : Int)) σ) (fun v26 s25 => (pw_ai v24 v26 s25).bind (fun v27 => (pw_gr 10 x0 18 s25).bind (fun v28 => pw_bd (mf_M_cell x2 x3 s25) (fun v30 s29 => (pw_ai v28 v30 s29).bind (fun v31 => (pw_gr 10 x0 19 s29).bind (fun v32 => pw_bd (mf_M_cell (x2 - (1 : Int)) (x3 + (1 : Int)) s29) (fun v34 s33 => (pw_ai v32 v34 s33).bind (fun v35 => (pw_gr 10 x0 19 s33).bind (fun v36 => pw_bd (mf_M_cell x2 x3 s33) (fun v38 s37 => pw_ck v27 0 (if v27 < 0 then mj_M_findScheme_173 r89 rc x0 x2 x3 v38 v36 s37 else pw_ck v31 0 (if v31 < 0 then mj_M_findScheme_173 r89 rc x0 x2 x3 v38 v36 s37 else pw_ck v35 0 (if 0 ≤ v35 then pw_bd (mf_M_mod x0 ((v27 - v31) + v35) s37) (fun v41 s40 => (pw_si v36 v38 v41 s40).bind (fun s42 => rc x0 x2 (x3 + 1) s42)) else mj_M_findScheme_173 r89 rc x0 x2 x3 v38 v36 s37)))))))))))))))
def ml_M_findScheme_97 (r89 : Nat → Int → pw_Sto → Option (Unit × pw_Sto)) : Nat → Nat → Int → Int → pw_Sto → Option (Unit × pw_Sto) := pw_lp (fun _ _ _ _ => none) (mb_M_findScheme_97 r89)
def mb_M_findScheme_89 (rc : Nat → Int → pw_Sto → Option (Unit × pw_Sto)) : Nat → Int → pw_Sto → Option (Unit × pw_Sto) := fun x0 x2 σ => pw_ck x2 (8 : Int) (if (8 : Int) < x2 then some ((), σ) else ml_M_findScheme_97 rc 1000 x0 x2 (0 : Int) σ)
def ml_M_findScheme_89 : Nat → Nat → Int → pw_Sto → Option (Unit × pw_Sto) := pw_lp (fun _ _ _ => none) (mb_M_findScheme_89)
def mj_M_findScheme_39 (r2 : Nat → Int → Int → pw_Sto → Option (Unit × pw_Sto)) (x0 : Nat) (x1 : Int) (x2 : Int) (y0 : Int) (σ : pw_Sto) : Option (Unit × pw_Sto) := (pw_gr 10 x0 18 σ).bind (fun v47 => pw_bd (mf_M_cell (1 : Int) x2 σ) (fun v49 s48 => pw_ck y0 0 (if y0 = 0 then (pw_si v47 v49 (-1 : Int) s48).bind (fun s50 => r2 x0 x1 (x2 + 1) s50) else pw_bd (mf_M_term x0 x1 (x2 + (1 : Int)) s48) (fun v52 s51 => pw_bd (mf_M_term x0 x1 x2 s51) (fun v54 s53 => pw_bd (mf_M_inverse x0 v54 s53) (fun v56 s55 => pw_bd (mf_M_mod x0 (v52 * v56) s55) (fun v58 s57 => (pw_si v47 v49 v58 s57).bind (fun s59 => r2 x0 x1 (x2 + 1) s59))))))))
def mj_M_findScheme_38 (r2 : Nat → Int → Int → pw_Sto → Option (Unit × pw_Sto)) (x0 : Nat) (x1 : Int) (x2 : Int) (σ : pw_Sto) : Option (Unit × pw_Sto) := mj_M_findScheme_39 r2 x0 x1 x2 (0 : Int) σ
def mb_M_findScheme_2 (rc : Nat → Int → Int → pw_Sto → Option (Unit × pw_Sto)) : Nat → Int → Int → pw_Sto → Option (Unit × pw_Sto) := fun x0 x1 x2 σ => pw_ck x2 (15 : Int) (if (15 : Int) < x2 then ml_M_findScheme_89 1000 x0 (1 : Int) σ else (pw_gr 10 x0 19 σ).bind (fun v43 => pw_bd (mf_M_cell (0 : Int) x2 σ) (fun v45 s44 => (pw_si v43 v45 (0 : Int) s44).bind (fun s46 => pw_ck x2 (15 : Int) (if (15 : Int) ≤ x2 then mj_M_findScheme_38 rc x0 x1 x2 s46 else pw_bd (mf_M_term x0 x1 x2 s46) (fun v61 s60 => pw_ck v61 0 (if v61 = 0 then mj_M_findScheme_38 rc x0 x1 x2 s60 else mj_M_findScheme_39 rc x0 x1 x2 (1 : Int) s60)))))))
def ml_M_findScheme_2 : Nat → Nat → Int → Int → pw_Sto → Option (Unit × pw_Sto) := pw_lp (fun _ _ _ _ => none) (mb_M_findScheme_2)
def mf_M_findScheme (x0 : Nat) (x1 : Int) (σ : pw_Sto) : Option (Unit × pw_Sto) := pw_gd 10 x0 σ (ml_M_findScheme_2 1000 x0 x1 (0 : Int) σ)
set_option maxHeartbeats 4000000 in
set_option maxRecDepth 20000 in
theorem sj_M_findScheme_276 {X : pw_X Unit} (hX : pw_Ok X prog_14_method_60_code "PadeWorkbenchModel" mr_M_findScheme 7) (hR : pw_RV X prog_14_method_60_code) {r89 : Nat → Int → pw_Sto → Option (Unit × pw_Sto)} {r198 : Nat → Int → Int → pw_Sto → Option (Unit × pw_Sto)} (h89 : ∀ (z0 : Nat) (z1 : Int) (σ : pw_Sto), pw_Sp X 0 0 89 [(0, Value.ref z0), (2, Value.int (iI z1))] [] σ (r89 z0 z1 σ)) (h198 : ∀ (z0 : Nat) (z1 : Int) (z2 : Int) (σ : pw_Sto), pw_Sp X 0 0 198 [(0, Value.ref z0), (2, Value.int (iI z1)), (3, Value.int (iI z2))] [] σ (r198 z0 z1 z2 σ)) (x0 : Nat) (x2 : Int) (x3 : Int) (y0 : Int) (y1 : Nat) (σ : pw_Sto) : pw_Sp X 0 0 276 [(0, Value.ref x0), (2, Value.int (iI x2)), (3, Value.int (iI x3))] [Value.int (iI y0), Value.ref y1] σ (mj_M_findScheme_276 r89 r198 x0 x2 x3 y0 y1 σ) := by
  unfold mj_M_findScheme_276
  refine sp_iconst (pc := 276) hX md_M_findScheme_276 ?_
  refine sp_goto (pc := 277) hX 300 (by decide) md_M_findScheme_277 ?_
  refine sp_iastore (pc := 300) hX md_M_findScheme_300 (fun s16 => ?_)
  refine sp_iinc (pc := 301) (i := 3) (L' := [(3, Value.int (iI (x3 + 1))), (0, Value.ref x0), (2, Value.int (iI x2))]) hX 2 rfl (by decide) rfl md_M_findScheme_301 ?_
  refine sp_goto (pc := 304) hX 198 (by decide) md_M_findScheme_304 ?_
  refine sp_sub [1, 2, 0] (L' := [(0, Value.ref x0), (2, Value.int (iI x2)), (3, Value.int (iI (x3 + 1)))]) rfl ?_
  exact h198 x0 x2 (x3 + 1) s16
set_option maxHeartbeats 4000000 in
set_option maxRecDepth 20000 in
theorem sl_M_findScheme_198 {X : pw_X Unit} (hX : pw_Ok X prog_14_method_60_code "PadeWorkbenchModel" mr_M_findScheme 7) (hR : pw_RV X prog_14_method_60_code) {r89 : Nat → Int → pw_Sto → Option (Unit × pw_Sto)} (h89 : ∀ (z0 : Nat) (z1 : Int) (σ : pw_Sto), pw_Sp X 0 0 89 [(0, Value.ref z0), (2, Value.int (iI z1))] [] σ (r89 z0 z1 σ)) : ∀ (n : Nat) (x0 : Nat) (x2 : Int) (x3 : Int) (σ : pw_Sto), pw_Sp X 0 0 198 [(0, Value.ref x0), (2, Value.int (iI x2)), (3, Value.int (iI x3))] [] σ (ml_M_findScheme_198 r89 n x0 x2 x3 σ) := by
  intro n
  induction n with
  | zero => intros; exact pw_none
  | succ n ih =>
    intro x0 x2 x3 σ
    show pw_Sp X 0 0 198 _ _ σ (mb_M_findScheme_198 r89 (ml_M_findScheme_198 r89 n) x0 x2 x3 σ)
    unfold mb_M_findScheme_198
    refine sp_iload_n (pc := 198) (k := 3) (i := 3) hX rfl 2 rfl md_M_findScheme_198 ?_
    refine sp_iconst (pc := 199) hX md_M_findScheme_199 ?_
    refine sp_iload_n (pc := 200) (k := 2) (i := 2) hX rfl 1 rfl md_M_findScheme_200 ?_
    refine sp_imul (pc := 201) hX md_M_findScheme_201 ?_
    refine sp_iadd (pc := 202) hX md_M_findScheme_202 ?_
    refine sp_iconst (pc := 203) hX md_M_findScheme_203 ?_
    refine sp_iadd (pc := 204) hX md_M_findScheme_204 ?_
    refine sp_bipush (pc := 205) hX (by decide) md_M_findScheme_205 ?_
    refine sp_icmp_gt (pc := 207) hX 307 (by decide) md_M_findScheme_207 (fun _ => ?_) (fun _ => ?_)
    · refine sp_iinc (pc := 307) (i := 2) (L' := [(2, Value.int (iI (x2 + 1))), (0, Value.ref x0), (3, Value.int (iI x3))]) hX 1 rfl (by decide) rfl md_M_findScheme_307 ?_
      refine sp_goto (pc := 310) hX 89 (by decide) md_M_findScheme_310 ?_
      refine sp_sub [1, 0] (L' := [(0, Value.ref x0), (2, Value.int (iI (x2 + 1)))]) rfl ?_
      exact h89 x0 (x2 + 1) σ
    · refine sp_aload_n (pc := 210) (k := 0) (i := 0) hX rfl 0 rfl md_M_findScheme_210 ?_
      refine sp_getR (pc := 211) (ci := 10) (k := 18) (idx := 55) hX mcl_10 (by decide) mq_817 rfl md_M_findScheme_211 (fun v1 => ?_)
      refine sp_iload_n (pc := 214) (k := 2) (i := 2) hX rfl 1 rfl md_M_findScheme_214 ?_
      refine sp_iload_n (pc := 215) (k := 3) (i := 3) hX rfl 2 rfl md_M_findScheme_215 ?_
      refine sp_iconst (pc := 216) hX md_M_findScheme_216 ?_
      refine sp_iadd (pc := 217) hX md_M_findScheme_217 ?_
      refine sp_callSI (pc := 218) (y := my_M_cell) (ccy := prog_14_method_59_code) (nLy := 2) (ret := (some .int)) (rmy := mr_M_cell) (n := 2) (idx := 199) (As := [.int (iI x2), .int (iI (x3 + (1 : Int)))]) (st := [.ref v1]) (cells' := 0) (slots' := 0) hX (fun _ h => mc_M_cell h) mk_M_cell mq_1091 mq_1090 ⟨(Nat.le_of_ble_eq_true rfl), (Nat.le_of_ble_eq_true rfl)⟩ rfl rfl (Nat.le_of_ble_eq_true rfl) ⟨(Nat.le_of_ble_eq_true rfl), (Nat.le_of_ble_eq_true rfl)⟩ rfl rfl md_M_findScheme_218 (fun v3 s2 => ?_)
      refine sp_iaload (pc := 221) hX md_M_findScheme_221 (fun v4 => ?_)
      refine sp_istore (pc := 222) (i := 4) (L' := [(4, Value.int (iI v4)), (0, Value.ref x0), (2, Value.int (iI x2)), (3, Value.int (iI x3))]) hX (by decide) rfl md_M_findScheme_222 ?_
      refine sp_aload_n (pc := 224) (k := 0) (i := 0) hX rfl 1 rfl md_M_findScheme_224 ?_
      refine sp_getR (pc := 225) (ci := 10) (k := 19) (idx := 58) hX mcl_10 (by decide) mq_818 rfl md_M_findScheme_225 (fun v5 => ?_)
      refine sp_iload_n (pc := 228) (k := 2) (i := 2) hX rfl 2 rfl md_M_findScheme_228 ?_
      refine sp_iload_n (pc := 229) (k := 3) (i := 3) hX rfl 3 rfl md_M_findScheme_229 ?_
      refine sp_iconst (pc := 230) hX md_M_findScheme_230 ?_
      refine sp_iadd (pc := 231) hX md_M_findScheme_231 ?_
      refine sp_callSI (pc := 232) (y := my_M_cell) (ccy := prog_14_method_59_code) (nLy := 2) (ret := (some .int)) (rmy := mr_M_cell) (n := 2) (idx := 199) (As := [.int (iI x2), .int (iI (x3 + (1 : Int)))]) (st := [.ref v5]) (cells' := 0) (slots' := 0) hX (fun _ h => mc_M_cell h) mk_M_cell mq_1091 mq_1090 ⟨(Nat.le_of_ble_eq_true rfl), (Nat.le_of_ble_eq_true rfl)⟩ rfl rfl (Nat.le_of_ble_eq_true rfl) ⟨(Nat.le_of_ble_eq_true rfl), (Nat.le_of_ble_eq_true rfl)⟩ rfl rfl md_M_findScheme_232 (fun v7 s6 => ?_)
      refine sp_iaload (pc := 235) hX md_M_findScheme_235 (fun v8 => ?_)
      refine sp_istore (pc := 236) (i := 5) (L' := [(5, Value.int (iI v8)), (4, Value.int (iI v4)), (0, Value.ref x0), (2, Value.int (iI x2)), (3, Value.int (iI x3))]) hX (by decide) rfl md_M_findScheme_236 ?_
      refine sp_aload_n (pc := 238) (k := 0) (i := 0) hX rfl 2 rfl md_M_findScheme_238 ?_
      refine sp_getR (pc := 239) (ci := 10) (k := 19) (idx := 58) hX mcl_10 (by decide) mq_818 rfl md_M_findScheme_239 (fun v9 => ?_)
      refine sp_iload_n (pc := 242) (k := 2) (i := 2) hX rfl 3 rfl md_M_findScheme_242 ?_
      refine sp_iload_n (pc := 243) (k := 3) (i := 3) hX rfl 4 rfl md_M_findScheme_243 ?_
      refine sp_callSI (pc := 244) (y := my_M_cell) (ccy := prog_14_method_59_code) (nLy := 2) (ret := (some .int)) (rmy := mr_M_cell) (n := 2) (idx := 199) (As := [.int (iI x2), .int (iI x3)]) (st := [.ref v9]) (cells' := 0) (slots' := 0) hX (fun _ h => mc_M_cell h) mk_M_cell mq_1091 mq_1090 ⟨(Nat.le_of_ble_eq_true rfl), (Nat.le_of_ble_eq_true rfl)⟩ rfl rfl (Nat.le_of_ble_eq_true rfl) ⟨(Nat.le_of_ble_eq_true rfl), (Nat.le_of_ble_eq_true rfl)⟩ rfl rfl md_M_findScheme_244 (fun v11 s10 => ?_)
      refine sp_iaload (pc := 247) hX md_M_findScheme_247 (fun v12 => ?_)
      refine sp_istore (pc := 248) (i := 6) (L' := [(6, Value.int (iI v12)), (5, Value.int (iI v8)), (4, Value.int (iI v4)), (0, Value.ref x0), (2, Value.int (iI x2)), (3, Value.int (iI x3))]) hX (by decide) rfl md_M_findScheme_248 ?_
      refine sp_aload_n (pc := 250) (k := 0) (i := 0) hX rfl 3 rfl md_M_findScheme_250 ?_
      refine sp_getR (pc := 251) (ci := 10) (k := 18) (idx := 55) hX mcl_10 (by decide) mq_817 rfl md_M_findScheme_251 (fun v13 => ?_)
      refine sp_iload_n (pc := 254) (k := 2) (i := 2) hX rfl 4 rfl md_M_findScheme_254 ?_
      refine sp_iconst (pc := 255) hX md_M_findScheme_255 ?_
      refine sp_iadd (pc := 256) hX md_M_findScheme_256 ?_
      refine sp_iload_n (pc := 257) (k := 3) (i := 3) hX rfl 5 rfl md_M_findScheme_257 ?_
      refine sp_callSI (pc := 258) (y := my_M_cell) (ccy := prog_14_method_59_code) (nLy := 2) (ret := (some .int)) (rmy := mr_M_cell) (n := 2) (idx := 199) (As := [.int (iI (x2 + (1 : Int))), .int (iI x3)]) (st := [.ref v13]) (cells' := 0) (slots' := 0) hX (fun _ h => mc_M_cell h) mk_M_cell mq_1091 mq_1090 ⟨(Nat.le_of_ble_eq_true rfl), (Nat.le_of_ble_eq_true rfl)⟩ rfl rfl (Nat.le_of_ble_eq_true rfl) ⟨(Nat.le_of_ble_eq_true rfl), (Nat.le_of_ble_eq_true rfl)⟩ rfl rfl md_M_findScheme_258 (fun v15 s14 => ?_)
      refine sp_iload (pc := 261) (i := 4) hX 2 rfl md_M_findScheme_261 ?_
      refine sp_if_lt (pc := 263) hX 276 (by decide) md_M_findScheme_263 (fun _ => ?_) (fun _ => ?_)
      · refine sp_sub [3, 4, 5] (L' := [(0, Value.ref x0), (2, Value.int (iI x2)), (3, Value.int (iI x3))]) rfl ?_
        exact sj_M_findScheme_276 hX hR h89 ih x0 x2 x3 v15 v13 s14
      · refine sp_iload (pc := 266) (i := 5) hX 1 rfl md_M_findScheme_266 ?_
        refine sp_if_lt (pc := 268) hX 276 (by decide) md_M_findScheme_268 (fun _ => ?_) (fun _ => ?_)
        · refine sp_sub [3, 4, 5] (L' := [(0, Value.ref x0), (2, Value.int (iI x2)), (3, Value.int (iI x3))]) rfl ?_
          exact sj_M_findScheme_276 hX hR h89 ih x0 x2 x3 v15 v13 s14
        · refine sp_iload (pc := 271) (i := 6) hX 0 rfl md_M_findScheme_271 ?_
          refine sp_if_gt (pc := 273) hX 280 (by decide) md_M_findScheme_273 (fun _ => ?_) (fun _ => ?_)
          · refine sp_aload_n (pc := 280) (k := 0) (i := 0) hX rfl 3 rfl md_M_findScheme_280 ?_
            refine sp_aload_n (pc := 281) (k := 0) (i := 0) hX rfl 3 rfl md_M_findScheme_281 ?_
            refine sp_iload (pc := 282) (i := 4) hX 2 rfl md_M_findScheme_282 ?_
            refine sp_iload (pc := 284) (i := 5) hX 1 rfl md_M_findScheme_284 ?_
            refine sp_imul (pc := 286) hX md_M_findScheme_286 ?_
            refine sp_callVI (pc := 287) (y := my_M_mod) (ccy := prog_14_method_5_code) (nLy := 3) (ret := (some .int)) (rmy := mr_M_mod) (n := 1) (idx := 91) (As := [.int (iI (v4 * v8))]) (st := [.ref x0, .int (iI v15), .ref v13]) (o := x0) (cells' := 0) (slots' := 0) hX (fun _ h => mc_M_mod h) mk_M_mod mv_M_mod mcl_10 (fun _ h => pw_gd_of h) mq_901 ⟨(Nat.le_of_ble_eq_true rfl), (Nat.le_of_ble_eq_true rfl)⟩ rfl rfl (Nat.le_of_ble_eq_true rfl) ⟨(Nat.le_of_ble_eq_true rfl), (Nat.le_of_ble_eq_true rfl)⟩ rfl rfl md_M_findScheme_287 (fun v18 s17 => ?_)
            refine sp_aload_n (pc := 290) (k := 0) (i := 0) hX rfl 3 rfl md_M_findScheme_290 ?_
            refine sp_iload (pc := 291) (i := 6) hX 0 rfl md_M_findScheme_291 ?_
            refine sp_callVI (pc := 293) (y := my_M_inverse) (ccy := prog_14_method_6_code) (nLy := 4) (ret := (some .int)) (rmy := mr_M_inverse) (n := 1) (idx := 94) (As := [.int (iI v12)]) (st := [.int (iI v18), .ref x0, .int (iI v15), .ref v13]) (o := x0) (cells' := 0) (slots' := 0) hX (fun _ h => mc_M_inverse h) mk_M_inverse mv_M_inverse mcl_10 (fun _ h => pw_gd_of h) mq_932 ⟨(Nat.le_of_ble_eq_true rfl), (Nat.le_of_ble_eq_true rfl)⟩ rfl rfl (Nat.le_of_ble_eq_true rfl) ⟨(Nat.le_of_ble_eq_true rfl), (Nat.le_of_ble_eq_true rfl)⟩ rfl rfl md_M_findScheme_293 (fun v20 s19 => ?_)
            refine sp_imul (pc := 296) hX md_M_findScheme_296 ?_
            refine sp_callVI (pc := 297) (y := my_M_mod) (ccy := prog_14_method_5_code) (nLy := 3) (ret := (some .int)) (rmy := mr_M_mod) (n := 1) (idx := 91) (As := [.int (iI (v18 * v20))]) (st := [.int (iI v15), .ref v13]) (o := x0) (cells' := 0) (slots' := 0) hX (fun _ h => mc_M_mod h) mk_M_mod mv_M_mod mcl_10 (fun _ h => pw_gd_of h) mq_901 ⟨(Nat.le_of_ble_eq_true rfl), (Nat.le_of_ble_eq_true rfl)⟩ rfl rfl (Nat.le_of_ble_eq_true rfl) ⟨(Nat.le_of_ble_eq_true rfl), (Nat.le_of_ble_eq_true rfl)⟩ rfl rfl md_M_findScheme_297 (fun v22 s21 => ?_)
            refine sp_iastore (pc := 300) hX md_M_findScheme_300 (fun s23 => ?_)
            refine sp_iinc (pc := 301) (i := 3) (L' := [(3, Value.int (iI (x3 + 1))), (6, Value.int (iI v12)), (5, Value.int (iI v8)), (4, Value.int (iI v4)), (0, Value.ref x0), (2, Value.int (iI x2))]) hX 5 rfl (by decide) rfl md_M_findScheme_301 ?_
            refine sp_goto (pc := 304) hX 198 (by decide) md_M_findScheme_304 ?_
            refine sp_sub [4, 5, 0] (L' := [(0, Value.ref x0), (2, Value.int (iI x2)), (3, Value.int (iI (x3 + 1)))]) rfl ?_
            exact ih x0 x2 (x3 + 1) s23
          · refine sp_sub [3, 4, 5] (L' := [(0, Value.ref x0), (2, Value.int (iI x2)), (3, Value.int (iI x3))]) rfl ?_
            exact sj_M_findScheme_276 hX hR h89 ih x0 x2 x3 v15 v13 s14
set_option maxHeartbeats 4000000 in
set_option maxRecDepth 20000 in
theorem sj_M_findScheme_173 {X : pw_X Unit} (hX : pw_Ok X prog_14_method_60_code "PadeWorkbenchModel" mr_M_findScheme 7) (hR : pw_RV X prog_14_method_60_code) {r89 : Nat → Int → pw_Sto → Option (Unit × pw_Sto)} {r97 : Nat → Int → Int → pw_Sto → Option (Unit × pw_Sto)} (h89 : ∀ (z0 : Nat) (z1 : Int) (σ : pw_Sto), pw_Sp X 0 0 89 [(0, Value.ref z0), (2, Value.int (iI z1))] [] σ (r89 z0 z1 σ)) (h97 : ∀ (z0 : Nat) (z1 : Int) (z2 : Int) (σ : pw_Sto), pw_Sp X 0 0 97 [(0, Value.ref z0), (2, Value.int (iI z1)), (3, Value.int (iI z2))] [] σ (r97 z0 z1 z2 σ)) (x0 : Nat) (x2 : Int) (x3 : Int) (y0 : Int) (y1 : Nat) (σ : pw_Sto) : pw_Sp X 0 0 173 [(0, Value.ref x0), (2, Value.int (iI x2)), (3, Value.int (iI x3))] [Value.int (iI y0), Value.ref y1] σ (mj_M_findScheme_173 r89 r97 x0 x2 x3 y0 y1 σ) := by
  unfold mj_M_findScheme_173
  refine sp_iconst (pc := 173) hX md_M_findScheme_173 ?_
  refine sp_goto (pc := 174) hX 189 (by decide) md_M_findScheme_174 ?_
  refine sp_iastore (pc := 189) hX md_M_findScheme_189 (fun s39 => ?_)
  refine sp_iinc (pc := 190) (i := 3) (L' := [(3, Value.int (iI (x3 + 1))), (0, Value.ref x0), (2, Value.int (iI x2))]) hX 2 rfl (by decide) rfl md_M_findScheme_190 ?_
  refine sp_goto (pc := 193) hX 97 (by decide) md_M_findScheme_193 ?_
  refine sp_sub [1, 2, 0] (L' := [(0, Value.ref x0), (2, Value.int (iI x2)), (3, Value.int (iI (x3 + 1)))]) rfl ?_
  exact h97 x0 x2 (x3 + 1) s39
set_option maxHeartbeats 4000000 in
set_option maxRecDepth 20000 in
theorem sl_M_findScheme_97 {X : pw_X Unit} (hX : pw_Ok X prog_14_method_60_code "PadeWorkbenchModel" mr_M_findScheme 7) (hR : pw_RV X prog_14_method_60_code) {r89 : Nat → Int → pw_Sto → Option (Unit × pw_Sto)} (h89 : ∀ (z0 : Nat) (z1 : Int) (σ : pw_Sto), pw_Sp X 0 0 89 [(0, Value.ref z0), (2, Value.int (iI z1))] [] σ (r89 z0 z1 σ)) : ∀ (n : Nat) (x0 : Nat) (x2 : Int) (x3 : Int) (σ : pw_Sto), pw_Sp X 0 0 97 [(0, Value.ref x0), (2, Value.int (iI x2)), (3, Value.int (iI x3))] [] σ (ml_M_findScheme_97 r89 n x0 x2 x3 σ) := by
  intro n
  induction n with
  | zero => intros; exact pw_none
  | succ n ih =>
    intro x0 x2 x3 σ
    show pw_Sp X 0 0 97 _ _ σ (mb_M_findScheme_97 r89 (ml_M_findScheme_97 r89 n) x0 x2 x3 σ)
    unfold mb_M_findScheme_97
    refine sp_iload_n (pc := 97) (k := 3) (i := 3) hX rfl 2 rfl md_M_findScheme_97 ?_
    refine sp_iconst (pc := 98) hX md_M_findScheme_98 ?_
    refine sp_iload_n (pc := 99) (k := 2) (i := 2) hX rfl 1 rfl md_M_findScheme_99 ?_
    refine sp_imul (pc := 100) hX md_M_findScheme_100 ?_
    refine sp_iadd (pc := 101) hX md_M_findScheme_101 ?_
    refine sp_bipush (pc := 102) hX (by decide) md_M_findScheme_102 ?_
    refine sp_icmp_gt (pc := 104) hX 196 (by decide) md_M_findScheme_104 (fun _ => ?_) (fun _ => ?_)
    · refine sp_iconst (pc := 196) hX md_M_findScheme_196 ?_
      refine sp_istore_n (pc := 197) (k := 3) (i := 3) (L' := [(3, Value.int (iI (0 : Int))), (0, Value.ref x0), (2, Value.int (iI x2))]) hX rfl (by decide) rfl md_M_findScheme_197 ?_
      refine sp_sub [1, 2, 0] (L' := [(0, Value.ref x0), (2, Value.int (iI x2)), (3, Value.int (iI (0 : Int)))]) rfl ?_
      exact sl_M_findScheme_198 hX hR h89 1000 x0 x2 (0 : Int) σ
    · refine sp_aload_n (pc := 107) (k := 0) (i := 0) hX rfl 0 rfl md_M_findScheme_107 ?_
      refine sp_getR (pc := 108) (ci := 10) (k := 18) (idx := 55) hX mcl_10 (by decide) mq_817 rfl md_M_findScheme_108 (fun v24 => ?_)
      refine sp_iload_n (pc := 111) (k := 2) (i := 2) hX rfl 1 rfl md_M_findScheme_111 ?_
      refine sp_iload_n (pc := 112) (k := 3) (i := 3) hX rfl 2 rfl md_M_findScheme_112 ?_
      refine sp_iconst (pc := 113) hX md_M_findScheme_113 ?_
      refine sp_iadd (pc := 114) hX md_M_findScheme_114 ?_
      refine sp_callSI (pc := 115) (y := my_M_cell) (ccy := prog_14_method_59_code) (nLy := 2) (ret := (some .int)) (rmy := mr_M_cell) (n := 2) (idx := 199) (As := [.int (iI x2), .int (iI (x3 + (1 : Int)))]) (st := [.ref v24]) (cells' := 0) (slots' := 0) hX (fun _ h => mc_M_cell h) mk_M_cell mq_1091 mq_1090 ⟨(Nat.le_of_ble_eq_true rfl), (Nat.le_of_ble_eq_true rfl)⟩ rfl rfl (Nat.le_of_ble_eq_true rfl) ⟨(Nat.le_of_ble_eq_true rfl), (Nat.le_of_ble_eq_true rfl)⟩ rfl rfl md_M_findScheme_115 (fun v26 s25 => ?_)
      refine sp_iaload (pc := 118) hX md_M_findScheme_118 (fun v27 => ?_)
      refine sp_istore (pc := 119) (i := 4) (L' := [(4, Value.int (iI v27)), (0, Value.ref x0), (2, Value.int (iI x2)), (3, Value.int (iI x3))]) hX (by decide) rfl md_M_findScheme_119 ?_
      refine sp_aload_n (pc := 121) (k := 0) (i := 0) hX rfl 1 rfl md_M_findScheme_121 ?_
      refine sp_getR (pc := 122) (ci := 10) (k := 18) (idx := 55) hX mcl_10 (by decide) mq_817 rfl md_M_findScheme_122 (fun v28 => ?_)
      refine sp_iload_n (pc := 125) (k := 2) (i := 2) hX rfl 2 rfl md_M_findScheme_125 ?_
      refine sp_iload_n (pc := 126) (k := 3) (i := 3) hX rfl 3 rfl md_M_findScheme_126 ?_
      refine sp_callSI (pc := 127) (y := my_M_cell) (ccy := prog_14_method_59_code) (nLy := 2) (ret := (some .int)) (rmy := mr_M_cell) (n := 2) (idx := 199) (As := [.int (iI x2), .int (iI x3)]) (st := [.ref v28]) (cells' := 0) (slots' := 0) hX (fun _ h => mc_M_cell h) mk_M_cell mq_1091 mq_1090 ⟨(Nat.le_of_ble_eq_true rfl), (Nat.le_of_ble_eq_true rfl)⟩ rfl rfl (Nat.le_of_ble_eq_true rfl) ⟨(Nat.le_of_ble_eq_true rfl), (Nat.le_of_ble_eq_true rfl)⟩ rfl rfl md_M_findScheme_127 (fun v30 s29 => ?_)
      refine sp_iaload (pc := 130) hX md_M_findScheme_130 (fun v31 => ?_)
      refine sp_istore (pc := 131) (i := 5) (L' := [(5, Value.int (iI v31)), (4, Value.int (iI v27)), (0, Value.ref x0), (2, Value.int (iI x2)), (3, Value.int (iI x3))]) hX (by decide) rfl md_M_findScheme_131 ?_
      refine sp_aload_n (pc := 133) (k := 0) (i := 0) hX rfl 2 rfl md_M_findScheme_133 ?_
      refine sp_getR (pc := 134) (ci := 10) (k := 19) (idx := 58) hX mcl_10 (by decide) mq_818 rfl md_M_findScheme_134 (fun v32 => ?_)
      refine sp_iload_n (pc := 137) (k := 2) (i := 2) hX rfl 3 rfl md_M_findScheme_137 ?_
      refine sp_iconst (pc := 138) hX md_M_findScheme_138 ?_
      refine sp_isub (pc := 139) hX md_M_findScheme_139 ?_
      refine sp_iload_n (pc := 140) (k := 3) (i := 3) hX rfl 4 rfl md_M_findScheme_140 ?_
      refine sp_iconst (pc := 141) hX md_M_findScheme_141 ?_
      refine sp_iadd (pc := 142) hX md_M_findScheme_142 ?_
      refine sp_callSI (pc := 143) (y := my_M_cell) (ccy := prog_14_method_59_code) (nLy := 2) (ret := (some .int)) (rmy := mr_M_cell) (n := 2) (idx := 199) (As := [.int (iI (x2 - (1 : Int))), .int (iI (x3 + (1 : Int)))]) (st := [.ref v32]) (cells' := 0) (slots' := 0) hX (fun _ h => mc_M_cell h) mk_M_cell mq_1091 mq_1090 ⟨(Nat.le_of_ble_eq_true rfl), (Nat.le_of_ble_eq_true rfl)⟩ rfl rfl (Nat.le_of_ble_eq_true rfl) ⟨(Nat.le_of_ble_eq_true rfl), (Nat.le_of_ble_eq_true rfl)⟩ rfl rfl md_M_findScheme_143 (fun v34 s33 => ?_)
      refine sp_iaload (pc := 146) hX md_M_findScheme_146 (fun v35 => ?_)
      refine sp_istore (pc := 147) (i := 6) (L' := [(6, Value.int (iI v35)), (5, Value.int (iI v31)), (4, Value.int (iI v27)), (0, Value.ref x0), (2, Value.int (iI x2)), (3, Value.int (iI x3))]) hX (by decide) rfl md_M_findScheme_147 ?_
      refine sp_aload_n (pc := 149) (k := 0) (i := 0) hX rfl 3 rfl md_M_findScheme_149 ?_
      refine sp_getR (pc := 150) (ci := 10) (k := 19) (idx := 58) hX mcl_10 (by decide) mq_818 rfl md_M_findScheme_150 (fun v36 => ?_)
      refine sp_iload_n (pc := 153) (k := 2) (i := 2) hX rfl 4 rfl md_M_findScheme_153 ?_
      refine sp_iload_n (pc := 154) (k := 3) (i := 3) hX rfl 5 rfl md_M_findScheme_154 ?_
      refine sp_callSI (pc := 155) (y := my_M_cell) (ccy := prog_14_method_59_code) (nLy := 2) (ret := (some .int)) (rmy := mr_M_cell) (n := 2) (idx := 199) (As := [.int (iI x2), .int (iI x3)]) (st := [.ref v36]) (cells' := 0) (slots' := 0) hX (fun _ h => mc_M_cell h) mk_M_cell mq_1091 mq_1090 ⟨(Nat.le_of_ble_eq_true rfl), (Nat.le_of_ble_eq_true rfl)⟩ rfl rfl (Nat.le_of_ble_eq_true rfl) ⟨(Nat.le_of_ble_eq_true rfl), (Nat.le_of_ble_eq_true rfl)⟩ rfl rfl md_M_findScheme_155 (fun v38 s37 => ?_)
      refine sp_iload (pc := 158) (i := 4) hX 2 rfl md_M_findScheme_158 ?_
      refine sp_if_lt (pc := 160) hX 173 (by decide) md_M_findScheme_160 (fun _ => ?_) (fun _ => ?_)
      · refine sp_sub [3, 4, 5] (L' := [(0, Value.ref x0), (2, Value.int (iI x2)), (3, Value.int (iI x3))]) rfl ?_
        exact sj_M_findScheme_173 hX hR h89 ih x0 x2 x3 v38 v36 s37
      · refine sp_iload (pc := 163) (i := 5) hX 1 rfl md_M_findScheme_163 ?_
        refine sp_if_lt (pc := 165) hX 173 (by decide) md_M_findScheme_165 (fun _ => ?_) (fun _ => ?_)
        · refine sp_sub [3, 4, 5] (L' := [(0, Value.ref x0), (2, Value.int (iI x2)), (3, Value.int (iI x3))]) rfl ?_
          exact sj_M_findScheme_173 hX hR h89 ih x0 x2 x3 v38 v36 s37
        · refine sp_iload (pc := 168) (i := 6) hX 0 rfl md_M_findScheme_168 ?_
          refine sp_if_ge (pc := 170) hX 177 (by decide) md_M_findScheme_170 (fun _ => ?_) (fun _ => ?_)
          · refine sp_aload_n (pc := 177) (k := 0) (i := 0) hX rfl 3 rfl md_M_findScheme_177 ?_
            refine sp_iload (pc := 178) (i := 4) hX 2 rfl md_M_findScheme_178 ?_
            refine sp_iload (pc := 180) (i := 5) hX 1 rfl md_M_findScheme_180 ?_
            refine sp_isub (pc := 182) hX md_M_findScheme_182 ?_
            refine sp_iload (pc := 183) (i := 6) hX 0 rfl md_M_findScheme_183 ?_
            refine sp_iadd (pc := 185) hX md_M_findScheme_185 ?_
            refine sp_callVI (pc := 186) (y := my_M_mod) (ccy := prog_14_method_5_code) (nLy := 3) (ret := (some .int)) (rmy := mr_M_mod) (n := 1) (idx := 91) (As := [.int (iI ((v27 - v31) + v35))]) (st := [.int (iI v38), .ref v36]) (o := x0) (cells' := 0) (slots' := 0) hX (fun _ h => mc_M_mod h) mk_M_mod mv_M_mod mcl_10 (fun _ h => pw_gd_of h) mq_901 ⟨(Nat.le_of_ble_eq_true rfl), (Nat.le_of_ble_eq_true rfl)⟩ rfl rfl (Nat.le_of_ble_eq_true rfl) ⟨(Nat.le_of_ble_eq_true rfl), (Nat.le_of_ble_eq_true rfl)⟩ rfl rfl md_M_findScheme_186 (fun v41 s40 => ?_)
            refine sp_iastore (pc := 189) hX md_M_findScheme_189 (fun s42 => ?_)
            refine sp_iinc (pc := 190) (i := 3) (L' := [(3, Value.int (iI (x3 + 1))), (6, Value.int (iI v35)), (5, Value.int (iI v31)), (4, Value.int (iI v27)), (0, Value.ref x0), (2, Value.int (iI x2))]) hX 5 rfl (by decide) rfl md_M_findScheme_190 ?_
            refine sp_goto (pc := 193) hX 97 (by decide) md_M_findScheme_193 ?_
            refine sp_sub [4, 5, 0] (L' := [(0, Value.ref x0), (2, Value.int (iI x2)), (3, Value.int (iI (x3 + 1)))]) rfl ?_
            exact ih x0 x2 (x3 + 1) s42
          · refine sp_sub [3, 4, 5] (L' := [(0, Value.ref x0), (2, Value.int (iI x2)), (3, Value.int (iI x3))]) rfl ?_
            exact sj_M_findScheme_173 hX hR h89 ih x0 x2 x3 v38 v36 s37
set_option maxHeartbeats 4000000 in
set_option maxRecDepth 20000 in
theorem sl_M_findScheme_89 {X : pw_X Unit} (hX : pw_Ok X prog_14_method_60_code "PadeWorkbenchModel" mr_M_findScheme 7) (hR : pw_RV X prog_14_method_60_code) : ∀ (n : Nat) (x0 : Nat) (x2 : Int) (σ : pw_Sto), pw_Sp X 0 0 89 [(0, Value.ref x0), (2, Value.int (iI x2))] [] σ (ml_M_findScheme_89 n x0 x2 σ) := by
  intro n
  induction n with
  | zero => intros; exact pw_none
  | succ n ih =>
    intro x0 x2 σ
    show pw_Sp X 0 0 89 _ _ σ (mb_M_findScheme_89 (ml_M_findScheme_89 n) x0 x2 σ)
    unfold mb_M_findScheme_89
    refine sp_iload_n (pc := 89) (k := 2) (i := 2) hX rfl 1 rfl md_M_findScheme_89 ?_
    refine sp_bipush (pc := 90) hX (by decide) md_M_findScheme_90 ?_
    refine sp_icmp_gt (pc := 92) hX 313 (by decide) md_M_findScheme_92 (fun _ => ?_) (fun _ => ?_)
    · exact sp_vret (pc := 313) hX hR rfl (Nat.le_of_ble_eq_true rfl) md_M_findScheme_313
    · refine sp_iconst (pc := 95) hX md_M_findScheme_95 ?_
      refine sp_istore_n (pc := 96) (k := 3) (i := 3) (L' := [(3, Value.int (iI (0 : Int))), (0, Value.ref x0), (2, Value.int (iI x2))]) hX rfl (by decide) rfl md_M_findScheme_96 ?_
      refine sp_sub [1, 2, 0] (L' := [(0, Value.ref x0), (2, Value.int (iI x2)), (3, Value.int (iI (0 : Int)))]) rfl ?_
      exact sl_M_findScheme_97 hX hR ih 1000 x0 x2 (0 : Int) σ
set_option maxHeartbeats 4000000 in
set_option maxRecDepth 20000 in
theorem sj_M_findScheme_39 {X : pw_X Unit} (hX : pw_Ok X prog_14_method_60_code "PadeWorkbenchModel" mr_M_findScheme 7) (hR : pw_RV X prog_14_method_60_code) {r2 : Nat → Int → Int → pw_Sto → Option (Unit × pw_Sto)} (h2 : ∀ (z0 : Nat) (z1 : Int) (z2 : Int) (σ : pw_Sto), pw_Sp X 0 0 2 [(0, Value.ref z0), (1, Value.int (iI z1)), (2, Value.int (iI z2))] [] σ (r2 z0 z1 z2 σ)) (x0 : Nat) (x1 : Int) (x2 : Int) (y0 : Int) (σ : pw_Sto) : pw_Sp X 0 0 39 [(0, Value.ref x0), (1, Value.int (iI x1)), (2, Value.int (iI x2))] [Value.int (iI y0)] σ (mj_M_findScheme_39 r2 x0 x1 x2 y0 σ) := by
  unfold mj_M_findScheme_39
  refine sp_istore_n (pc := 39) (k := 3) (i := 3) (L' := [(3, Value.int (iI y0)), (0, Value.ref x0), (1, Value.int (iI x1)), (2, Value.int (iI x2))]) hX rfl (by decide) rfl md_M_findScheme_39 ?_
  refine sp_aload_n (pc := 40) (k := 0) (i := 0) hX rfl 1 rfl md_M_findScheme_40 ?_
  refine sp_getR (pc := 41) (ci := 10) (k := 18) (idx := 55) hX mcl_10 (by decide) mq_817 rfl md_M_findScheme_41 (fun v47 => ?_)
  refine sp_iconst (pc := 44) hX md_M_findScheme_44 ?_
  refine sp_iload_n (pc := 45) (k := 2) (i := 2) hX rfl 3 rfl md_M_findScheme_45 ?_
  refine sp_callSI (pc := 46) (y := my_M_cell) (ccy := prog_14_method_59_code) (nLy := 2) (ret := (some .int)) (rmy := mr_M_cell) (n := 2) (idx := 199) (As := [.int (iI (1 : Int)), .int (iI x2)]) (st := [.ref v47]) (cells' := 0) (slots' := 0) hX (fun _ h => mc_M_cell h) mk_M_cell mq_1091 mq_1090 ⟨(Nat.le_of_ble_eq_true rfl), (Nat.le_of_ble_eq_true rfl)⟩ rfl rfl (Nat.le_of_ble_eq_true rfl) ⟨(Nat.le_of_ble_eq_true rfl), (Nat.le_of_ble_eq_true rfl)⟩ rfl rfl md_M_findScheme_46 (fun v49 s48 => ?_)
  refine sp_iload_n (pc := 49) (k := 3) (i := 3) hX rfl 0 rfl md_M_findScheme_49 ?_
  refine sp_if_eq (pc := 50) hX 79 (by decide) md_M_findScheme_50 (fun _ => ?_) (fun _ => ?_)
  · refine sp_iconst (pc := 79) hX md_M_findScheme_79 ?_
    refine sp_iastore (pc := 80) hX md_M_findScheme_80 (fun s50 => ?_)
    refine sp_iinc (pc := 81) (i := 2) (L' := [(2, Value.int (iI (x2 + 1))), (3, Value.int (iI y0)), (0, Value.ref x0), (1, Value.int (iI x1))]) hX 3 rfl (by decide) rfl md_M_findScheme_81 ?_
    refine sp_goto (pc := 84) hX 2 (by decide) md_M_findScheme_84 ?_
    refine sp_sub [2, 3, 0] (L' := [(0, Value.ref x0), (1, Value.int (iI x1)), (2, Value.int (iI (x2 + 1)))]) rfl ?_
    exact h2 x0 x1 (x2 + 1) s50
  · refine sp_aload_n (pc := 53) (k := 0) (i := 0) hX rfl 1 rfl md_M_findScheme_53 ?_
    refine sp_aload_n (pc := 54) (k := 0) (i := 0) hX rfl 1 rfl md_M_findScheme_54 ?_
    refine sp_iload_n (pc := 55) (k := 1) (i := 1) hX rfl 2 rfl md_M_findScheme_55 ?_
    refine sp_iload_n (pc := 56) (k := 2) (i := 2) hX rfl 3 rfl md_M_findScheme_56 ?_
    refine sp_iconst (pc := 57) hX md_M_findScheme_57 ?_
    refine sp_iadd (pc := 58) hX md_M_findScheme_58 ?_
    refine sp_callVI (pc := 59) (y := my_M_term) (ccy := prog_14_method_9_code) (nLy := 3) (ret := (some .int)) (rmy := mr_M_term) (n := 2) (idx := 87) (As := [.int (iI x1), .int (iI (x2 + (1 : Int)))]) (st := [.ref x0, .int (iI v49), .ref v47]) (o := x0) (cells' := 0) (slots' := 0) hX (fun _ h => mc_M_term h) mk_M_term mv_M_term mcl_10 (fun _ h => pw_gd_of h) mq_889 ⟨(Nat.le_of_ble_eq_true rfl), (Nat.le_of_ble_eq_true rfl)⟩ rfl rfl (Nat.le_of_ble_eq_true rfl) ⟨(Nat.le_of_ble_eq_true rfl), (Nat.le_of_ble_eq_true rfl)⟩ rfl rfl md_M_findScheme_59 (fun v52 s51 => ?_)
    refine sp_aload_n (pc := 62) (k := 0) (i := 0) hX rfl 1 rfl md_M_findScheme_62 ?_
    refine sp_aload_n (pc := 63) (k := 0) (i := 0) hX rfl 1 rfl md_M_findScheme_63 ?_
    refine sp_iload_n (pc := 64) (k := 1) (i := 1) hX rfl 2 rfl md_M_findScheme_64 ?_
    refine sp_iload_n (pc := 65) (k := 2) (i := 2) hX rfl 3 rfl md_M_findScheme_65 ?_
    refine sp_callVI (pc := 66) (y := my_M_term) (ccy := prog_14_method_9_code) (nLy := 3) (ret := (some .int)) (rmy := mr_M_term) (n := 2) (idx := 87) (As := [.int (iI x1), .int (iI x2)]) (st := [.ref x0, .int (iI v52), .ref x0, .int (iI v49), .ref v47]) (o := x0) (cells' := 0) (slots' := 0) hX (fun _ h => mc_M_term h) mk_M_term mv_M_term mcl_10 (fun _ h => pw_gd_of h) mq_889 ⟨(Nat.le_of_ble_eq_true rfl), (Nat.le_of_ble_eq_true rfl)⟩ rfl rfl (Nat.le_of_ble_eq_true rfl) ⟨(Nat.le_of_ble_eq_true rfl), (Nat.le_of_ble_eq_true rfl)⟩ rfl rfl md_M_findScheme_66 (fun v54 s53 => ?_)
    refine sp_callVI (pc := 69) (y := my_M_inverse) (ccy := prog_14_method_6_code) (nLy := 4) (ret := (some .int)) (rmy := mr_M_inverse) (n := 1) (idx := 94) (As := [.int (iI v54)]) (st := [.int (iI v52), .ref x0, .int (iI v49), .ref v47]) (o := x0) (cells' := 0) (slots' := 0) hX (fun _ h => mc_M_inverse h) mk_M_inverse mv_M_inverse mcl_10 (fun _ h => pw_gd_of h) mq_932 ⟨(Nat.le_of_ble_eq_true rfl), (Nat.le_of_ble_eq_true rfl)⟩ rfl rfl (Nat.le_of_ble_eq_true rfl) ⟨(Nat.le_of_ble_eq_true rfl), (Nat.le_of_ble_eq_true rfl)⟩ rfl rfl md_M_findScheme_69 (fun v56 s55 => ?_)
    refine sp_imul (pc := 72) hX md_M_findScheme_72 ?_
    refine sp_callVI (pc := 73) (y := my_M_mod) (ccy := prog_14_method_5_code) (nLy := 3) (ret := (some .int)) (rmy := mr_M_mod) (n := 1) (idx := 91) (As := [.int (iI (v52 * v56))]) (st := [.int (iI v49), .ref v47]) (o := x0) (cells' := 0) (slots' := 0) hX (fun _ h => mc_M_mod h) mk_M_mod mv_M_mod mcl_10 (fun _ h => pw_gd_of h) mq_901 ⟨(Nat.le_of_ble_eq_true rfl), (Nat.le_of_ble_eq_true rfl)⟩ rfl rfl (Nat.le_of_ble_eq_true rfl) ⟨(Nat.le_of_ble_eq_true rfl), (Nat.le_of_ble_eq_true rfl)⟩ rfl rfl md_M_findScheme_73 (fun v58 s57 => ?_)
    refine sp_goto (pc := 76) hX 80 (by decide) md_M_findScheme_76 ?_
    refine sp_iastore (pc := 80) hX md_M_findScheme_80 (fun s59 => ?_)
    refine sp_iinc (pc := 81) (i := 2) (L' := [(2, Value.int (iI (x2 + 1))), (3, Value.int (iI y0)), (0, Value.ref x0), (1, Value.int (iI x1))]) hX 3 rfl (by decide) rfl md_M_findScheme_81 ?_
    refine sp_goto (pc := 84) hX 2 (by decide) md_M_findScheme_84 ?_
    refine sp_sub [2, 3, 0] (L' := [(0, Value.ref x0), (1, Value.int (iI x1)), (2, Value.int (iI (x2 + 1)))]) rfl ?_
    exact h2 x0 x1 (x2 + 1) s59
set_option maxHeartbeats 4000000 in
set_option maxRecDepth 20000 in
theorem sj_M_findScheme_38 {X : pw_X Unit} (hX : pw_Ok X prog_14_method_60_code "PadeWorkbenchModel" mr_M_findScheme 7) (hR : pw_RV X prog_14_method_60_code) {r2 : Nat → Int → Int → pw_Sto → Option (Unit × pw_Sto)} (h2 : ∀ (z0 : Nat) (z1 : Int) (z2 : Int) (σ : pw_Sto), pw_Sp X 0 0 2 [(0, Value.ref z0), (1, Value.int (iI z1)), (2, Value.int (iI z2))] [] σ (r2 z0 z1 z2 σ)) (x0 : Nat) (x1 : Int) (x2 : Int) (σ : pw_Sto) : pw_Sp X 0 0 38 [(0, Value.ref x0), (1, Value.int (iI x1)), (2, Value.int (iI x2))] [] σ (mj_M_findScheme_38 r2 x0 x1 x2 σ) := by
  unfold mj_M_findScheme_38
  refine sp_iconst (pc := 38) hX md_M_findScheme_38 ?_
  exact sj_M_findScheme_39 hX hR h2 x0 x1 x2 (0 : Int) σ
set_option maxHeartbeats 4000000 in
set_option maxRecDepth 20000 in
theorem sl_M_findScheme_2 {X : pw_X Unit} (hX : pw_Ok X prog_14_method_60_code "PadeWorkbenchModel" mr_M_findScheme 7) (hR : pw_RV X prog_14_method_60_code) : ∀ (n : Nat) (x0 : Nat) (x1 : Int) (x2 : Int) (σ : pw_Sto), pw_Sp X 0 0 2 [(0, Value.ref x0), (1, Value.int (iI x1)), (2, Value.int (iI x2))] [] σ (ml_M_findScheme_2 n x0 x1 x2 σ) := by
  intro n
  induction n with
  | zero => intros; exact pw_none
  | succ n ih =>
    intro x0 x1 x2 σ
    show pw_Sp X 0 0 2 _ _ σ (mb_M_findScheme_2 (ml_M_findScheme_2 n) x0 x1 x2 σ)
    unfold mb_M_findScheme_2
    refine sp_iload_n (pc := 2) (k := 2) (i := 2) hX rfl 2 rfl md_M_findScheme_2 ?_
    refine sp_bipush (pc := 3) hX (by decide) md_M_findScheme_3 ?_
    refine sp_icmp_gt (pc := 5) hX 87 (by decide) md_M_findScheme_5 (fun _ => ?_) (fun _ => ?_)
    · refine sp_iconst (pc := 87) hX md_M_findScheme_87 ?_
      refine sp_istore_n (pc := 88) (k := 2) (i := 2) (L' := [(2, Value.int (iI (1 : Int))), (0, Value.ref x0), (1, Value.int (iI x1))]) hX rfl (by decide) rfl md_M_findScheme_88 ?_
      refine sp_sub [1, 0] (L' := [(0, Value.ref x0), (2, Value.int (iI (1 : Int)))]) rfl ?_
      exact sl_M_findScheme_89 hX hR 1000 x0 (1 : Int) σ
    · refine sp_aload_n (pc := 8) (k := 0) (i := 0) hX rfl 0 rfl md_M_findScheme_8 ?_
      refine sp_getR (pc := 9) (ci := 10) (k := 19) (idx := 58) hX mcl_10 (by decide) mq_818 rfl md_M_findScheme_9 (fun v43 => ?_)
      refine sp_iconst (pc := 12) hX md_M_findScheme_12 ?_
      refine sp_iload_n (pc := 13) (k := 2) (i := 2) hX rfl 2 rfl md_M_findScheme_13 ?_
      refine sp_callSI (pc := 14) (y := my_M_cell) (ccy := prog_14_method_59_code) (nLy := 2) (ret := (some .int)) (rmy := mr_M_cell) (n := 2) (idx := 199) (As := [.int (iI (0 : Int)), .int (iI x2)]) (st := [.ref v43]) (cells' := 0) (slots' := 0) hX (fun _ h => mc_M_cell h) mk_M_cell mq_1091 mq_1090 ⟨(Nat.le_of_ble_eq_true rfl), (Nat.le_of_ble_eq_true rfl)⟩ rfl rfl (Nat.le_of_ble_eq_true rfl) ⟨(Nat.le_of_ble_eq_true rfl), (Nat.le_of_ble_eq_true rfl)⟩ rfl rfl md_M_findScheme_14 (fun v45 s44 => ?_)
      refine sp_iconst (pc := 17) hX md_M_findScheme_17 ?_
      refine sp_iastore (pc := 18) hX md_M_findScheme_18 (fun s46 => ?_)
      refine sp_iload_n (pc := 19) (k := 2) (i := 2) hX rfl 2 rfl md_M_findScheme_19 ?_
      refine sp_bipush (pc := 20) hX (by decide) md_M_findScheme_20 ?_
      refine sp_icmp_ge (pc := 22) hX 38 (by decide) md_M_findScheme_22 (fun _ => ?_) (fun _ => ?_)
      · exact sj_M_findScheme_38 hX hR ih x0 x1 x2 s46
      · refine sp_aload_n (pc := 25) (k := 0) (i := 0) hX rfl 0 rfl md_M_findScheme_25 ?_
        refine sp_iload_n (pc := 26) (k := 1) (i := 1) hX rfl 1 rfl md_M_findScheme_26 ?_
        refine sp_iload_n (pc := 27) (k := 2) (i := 2) hX rfl 2 rfl md_M_findScheme_27 ?_
        refine sp_callVI (pc := 28) (y := my_M_term) (ccy := prog_14_method_9_code) (nLy := 3) (ret := (some .int)) (rmy := mr_M_term) (n := 2) (idx := 87) (As := [.int (iI x1), .int (iI x2)]) (st := []) (o := x0) (cells' := 0) (slots' := 0) hX (fun _ h => mc_M_term h) mk_M_term mv_M_term mcl_10 (fun _ h => pw_gd_of h) mq_889 ⟨(Nat.le_of_ble_eq_true rfl), (Nat.le_of_ble_eq_true rfl)⟩ rfl rfl (Nat.le_of_ble_eq_true rfl) ⟨(Nat.le_of_ble_eq_true rfl), (Nat.le_of_ble_eq_true rfl)⟩ rfl rfl md_M_findScheme_28 (fun v61 s60 => ?_)
        refine sp_if_eq (pc := 31) hX 38 (by decide) md_M_findScheme_31 (fun _ => ?_) (fun _ => ?_)
        · exact sj_M_findScheme_38 hX hR ih x0 x1 x2 s60
        · refine sp_iconst (pc := 34) hX md_M_findScheme_34 ?_
          refine sp_goto (pc := 35) hX 39 (by decide) md_M_findScheme_35 ?_
          exact sj_M_findScheme_39 hX hR ih x0 x1 x2 (1 : Int) s60
set_option maxHeartbeats 4000000 in
set_option maxRecDepth 20000 in
theorem mc_M_findScheme {l : Launch} {E : pw_E} {σ : pw_Sto} {x0 : Nat} {x1 : Int} {out : Unit × pw_Sto} (h : mf_M_findScheme x0 x1 σ = some out) : pw_CV l E my_M_findScheme prog_14_method_60_code 7 none mr_M_findScheme [.ref x0, .int (iI x1)] σ out := by
  unfold mf_M_findScheme at h
  refine pw_entryV (by decide) (Nat.le_of_ble_eq_true rfl) (pw_gd_val h) (fun X hX hR hI => ?_)
  change pw_Ok X prog_14_method_60_code "PadeWorkbenchModel" mr_M_findScheme 7 at hX
  show pw_Sp X 0 0 0 [(0, Value.ref x0), (1, Value.int (iI x1))] [] σ _
  refine sp_iconst (pc := 0) hX md_M_findScheme_0 ?_
  refine sp_istore_n (pc := 1) (k := 2) (i := 2) (L' := [(2, Value.int (iI (0 : Int))), (0, Value.ref x0), (1, Value.int (iI x1))]) hX rfl (by decide) rfl md_M_findScheme_1 ?_
  refine sp_sub [1, 2, 0] (L' := [(0, Value.ref x0), (1, Value.int (iI x1)), (2, Value.int (iI (0 : Int)))]) rfl ?_
  exact sl_M_findScheme_2 hX hR 1000 x0 x1 (0 : Int) σ
/-! PadeWorkbenchModel.quotientDifference(IIII)I -/
theorem md_M_quotientDifference_0 : decode prog_14_method_61_code 0 = .ok (.iload_n 1, 1) := by decide +kernel
theorem md_M_quotientDifference_1 : decode prog_14_method_61_code 1 = .ok (.invokestatic 84, 3) := by decide +kernel
theorem md_M_quotientDifference_4 : decode prog_14_method_61_code 4 = .ok (.ifCond .eq 37, 3) := by decide +kernel
theorem md_M_quotientDifference_41 : decode prog_14_method_61_code 41 = .ok (.iconst 0, 1) := by decide +kernel
theorem md_M_quotientDifference_42 : decode prog_14_method_61_code 42 = .ok (.istore 5, 2) := by decide +kernel
theorem md_M_quotientDifference_44 : decode prog_14_method_61_code 44 = .ok (.iload 5, 2) := by decide +kernel
theorem md_M_quotientDifference_46 : decode prog_14_method_61_code 46 = .ok (.ifCond .eq 24, 3) := by decide +kernel
theorem md_M_quotientDifference_70 : decode prog_14_method_61_code 70 = .ok (.aload_n 0, 1) := by decide +kernel
theorem md_M_quotientDifference_71 : decode prog_14_method_61_code 71 = .ok (.bipush (-2), 2) := by decide +kernel
theorem md_M_quotientDifference_73 : decode prog_14_method_61_code 73 = .ok (.invokevirtual 77, 3) := by decide +kernel
theorem md_M_quotientDifference_76 : decode prog_14_method_61_code 76 = .ok (.ireturn, 1) := by decide +kernel
theorem md_M_quotientDifference_49 : decode prog_14_method_61_code 49 = .ok (.iload 4, 2) := by decide +kernel
theorem md_M_quotientDifference_51 : decode prog_14_method_61_code 51 = .ok (.iconst 2, 1) := by decide +kernel
theorem md_M_quotientDifference_52 : decode prog_14_method_61_code 52 = .ok (.iload_n 3, 1) := by decide +kernel
theorem md_M_quotientDifference_53 : decode prog_14_method_61_code 53 = .ok (.imul, 1) := by decide +kernel
theorem md_M_quotientDifference_54 : decode prog_14_method_61_code 54 = .ok (.iadd, 1) := by decide +kernel
theorem md_M_quotientDifference_55 : decode prog_14_method_61_code 55 = .ok (.iload_n 2, 1) := by decide +kernel
theorem md_M_quotientDifference_56 : decode prog_14_method_61_code 56 = .ok (.ifCond .ne 7, 3) := by decide +kernel
theorem md_M_quotientDifference_63 : decode prog_14_method_61_code 63 = .ok (.iconst 0, 1) := by decide +kernel
theorem md_M_quotientDifference_64 : decode prog_14_method_61_code 64 = .ok (.isub, 1) := by decide +kernel
theorem md_M_quotientDifference_65 : decode prog_14_method_61_code 65 = .ok (.bipush 15, 2) := by decide +kernel
theorem md_M_quotientDifference_67 : decode prog_14_method_61_code 67 = .ok (.if_icmp .le 10, 3) := by decide +kernel
theorem md_M_quotientDifference_77 : decode prog_14_method_61_code 77 = .ok (.aload_n 0, 1) := by decide +kernel
theorem md_M_quotientDifference_78 : decode prog_14_method_61_code 78 = .ok (.iload_n 1, 1) := by decide +kernel
theorem md_M_quotientDifference_79 : decode prog_14_method_61_code 79 = .ok (.invokevirtual 202, 3) := by decide +kernel
theorem md_M_quotientDifference_82 : decode prog_14_method_61_code 82 = .ok (.iload_n 2, 1) := by decide +kernel
theorem md_M_quotientDifference_83 : decode prog_14_method_61_code 83 = .ok (.ifCond .ne 17, 3) := by decide +kernel
theorem md_M_quotientDifference_100 : decode prog_14_method_61_code 100 = .ok (.aload_n 0, 1) := by decide +kernel
theorem md_M_quotientDifference_101 : decode prog_14_method_61_code 101 = .ok (.getfield 58, 3) := by decide +kernel
theorem md_M_quotientDifference_104 : decode prog_14_method_61_code 104 = .ok (.iload_n 3, 1) := by decide +kernel
theorem md_M_quotientDifference_105 : decode prog_14_method_61_code 105 = .ok (.iload 4, 2) := by decide +kernel
theorem md_M_quotientDifference_107 : decode prog_14_method_61_code 107 = .ok (.invokestatic 199, 3) := by decide +kernel
theorem md_M_quotientDifference_110 : decode prog_14_method_61_code 110 = .ok (.iaload, 1) := by decide +kernel
theorem md_M_quotientDifference_111 : decode prog_14_method_61_code 111 = .ok (.istore 6, 2) := by decide +kernel
theorem md_M_quotientDifference_113 : decode prog_14_method_61_code 113 = .ok (.iload 6, 2) := by decide +kernel
theorem md_M_quotientDifference_115 : decode prog_14_method_61_code 115 = .ok (.ifCond .ge 7, 3) := by decide +kernel
theorem md_M_quotientDifference_122 : decode prog_14_method_61_code 122 = .ok (.iload 6, 2) := by decide +kernel
theorem md_M_quotientDifference_124 : decode prog_14_method_61_code 124 = .ok (.ireturn, 1) := by decide +kernel
theorem md_M_quotientDifference_118 : decode prog_14_method_61_code 118 = .ok (.iconst (-1), 1) := by decide +kernel
theorem md_M_quotientDifference_119 : decode prog_14_method_61_code 119 = .ok (.goto 5, 3) := by decide +kernel
theorem md_M_quotientDifference_86 : decode prog_14_method_61_code 86 = .ok (.aload_n 0, 1) := by decide +kernel
theorem md_M_quotientDifference_87 : decode prog_14_method_61_code 87 = .ok (.getfield 55, 3) := by decide +kernel
theorem md_M_quotientDifference_90 : decode prog_14_method_61_code 90 = .ok (.iload_n 3, 1) := by decide +kernel
theorem md_M_quotientDifference_91 : decode prog_14_method_61_code 91 = .ok (.iload 4, 2) := by decide +kernel
theorem md_M_quotientDifference_93 : decode prog_14_method_61_code 93 = .ok (.invokestatic 199, 3) := by decide +kernel
theorem md_M_quotientDifference_96 : decode prog_14_method_61_code 96 = .ok (.iaload, 1) := by decide +kernel
theorem md_M_quotientDifference_97 : decode prog_14_method_61_code 97 = .ok (.goto 14, 3) := by decide +kernel
theorem md_M_quotientDifference_59 : decode prog_14_method_61_code 59 = .ok (.iconst 1, 1) := by decide +kernel
theorem md_M_quotientDifference_60 : decode prog_14_method_61_code 60 = .ok (.goto 4, 3) := by decide +kernel
theorem md_M_quotientDifference_7 : decode prog_14_method_61_code 7 = .ok (.iload_n 2, 1) := by decide +kernel
theorem md_M_quotientDifference_8 : decode prog_14_method_61_code 8 = .ok (.iconst 0, 1) := by decide +kernel
theorem md_M_quotientDifference_9 : decode prog_14_method_61_code 9 = .ok (.iconst 1, 1) := by decide +kernel
theorem md_M_quotientDifference_10 : decode prog_14_method_61_code 10 = .ok (.invokestatic 65, 3) := by decide +kernel
theorem md_M_quotientDifference_13 : decode prog_14_method_61_code 13 = .ok (.ifCond .eq 28, 3) := by decide +kernel
theorem md_M_quotientDifference_16 : decode prog_14_method_61_code 16 = .ok (.iload_n 3, 1) := by decide +kernel
theorem md_M_quotientDifference_17 : decode prog_14_method_61_code 17 = .ok (.iconst 1, 1) := by decide +kernel
theorem md_M_quotientDifference_18 : decode prog_14_method_61_code 18 = .ok (.bipush 8, 2) := by decide +kernel
theorem md_M_quotientDifference_20 : decode prog_14_method_61_code 20 = .ok (.invokestatic 65, 3) := by decide +kernel
theorem md_M_quotientDifference_23 : decode prog_14_method_61_code 23 = .ok (.ifCond .eq 18, 3) := by decide +kernel
theorem md_M_quotientDifference_26 : decode prog_14_method_61_code 26 = .ok (.iload 4, 2) := by decide +kernel
theorem md_M_quotientDifference_28 : decode prog_14_method_61_code 28 = .ok (.iconst 0, 1) := by decide +kernel
theorem md_M_quotientDifference_29 : decode prog_14_method_61_code 29 = .ok (.bipush 15, 2) := by decide +kernel
theorem md_M_quotientDifference_31 : decode prog_14_method_61_code 31 = .ok (.invokestatic 65, 3) := by decide +kernel
theorem md_M_quotientDifference_34 : decode prog_14_method_61_code 34 = .ok (.ifCond .eq 7, 3) := by decide +kernel
theorem md_M_quotientDifference_37 : decode prog_14_method_61_code 37 = .ok (.iconst 1, 1) := by decide +kernel
theorem md_M_quotientDifference_38 : decode prog_14_method_61_code 38 = .ok (.goto 4, 3) := by decide +kernel
def mj_M_quotientDifference_70 (x0 : Nat) (σ : pw_Sto) : Option (Int × pw_Sto) := pw_bd (mf_M_fail x0 (-2 : Int) σ) (fun v4 s3 => some (v4, s3))
def mj_M_quotientDifference_111 (y0 : Int) (σ : pw_Sto) : Option (Int × pw_Sto) := pw_ck y0 0 (if 0 ≤ y0 then some (y0, σ) else some ((-1 : Int), σ))
def mj_M_quotientDifference_64 (x0 : Nat) (x1 : Int) (x2 : Int) (x3 : Int) (x4 : Int) (y0 : Int) (y1 : Int) (σ : pw_Sto) : Option (Int × pw_Sto) := pw_ck (y1 - y0) (15 : Int) (if (y1 - y0) ≤ (15 : Int) then pw_bd (mf_M_findScheme x0 x1 σ) (fun _ s5 => pw_ck x2 0 (if x2 = 0 then (pw_gr 10 x0 18 s5).bind (fun v10 => pw_bd (mf_M_cell x3 x4 s5) (fun v12 s11 => (pw_ai v10 v12 s11).bind (fun v13 => mj_M_quotientDifference_111 v13 s11))) else (pw_gr 10 x0 19 s5).bind (fun v6 => pw_bd (mf_M_cell x3 x4 s5) (fun v8 s7 => (pw_ai v6 v8 s7).bind (fun v9 => mj_M_quotientDifference_111 v9 s7))))) else mj_M_quotientDifference_70 x0 σ)
def mj_M_quotientDifference_42 (x0 : Nat) (x1 : Int) (x2 : Int) (x3 : Int) (x4 : Int) (y0 : Int) (σ : pw_Sto) : Option (Int × pw_Sto) := pw_ck y0 0 (if y0 = 0 then mj_M_quotientDifference_70 x0 σ else pw_ck x2 0 (if x2 = 0 then mj_M_quotientDifference_64 x0 x1 x2 x3 x4 (1 : Int) (x4 + ((2 : Int) * x3)) σ else mj_M_quotientDifference_64 x0 x1 x2 x3 x4 (0 : Int) (x4 + ((2 : Int) * x3)) σ))
def mj_M_quotientDifference_41 (x0 : Nat) (x1 : Int) (x2 : Int) (x3 : Int) (x4 : Int) (σ : pw_Sto) : Option (Int × pw_Sto) := mj_M_quotientDifference_42 x0 x1 x2 x3 x4 (0 : Int) σ
def mf_M_quotientDifference (x0 : Nat) (x1 : Int) (x2 : Int) (x3 : Int) (x4 : Int) (σ : pw_Sto) : Option (Int × pw_Sto) := pw_gd 10 x0 σ (pw_bd (mf_M_isSlot x1 σ) (fun v2 s1 => pw_ck v2 0 (if v2 = 0 then mj_M_quotientDifference_41 x0 x1 x2 x3 x4 s1 else pw_bd (mf_M_in x2 (0 : Int) (1 : Int) s1) (fun v15 s14 => pw_ck v15 0 (if v15 = 0 then mj_M_quotientDifference_41 x0 x1 x2 x3 x4 s14 else pw_bd (mf_M_in x3 (1 : Int) (8 : Int) s14) (fun v17 s16 => pw_ck v17 0 (if v17 = 0 then mj_M_quotientDifference_41 x0 x1 x2 x3 x4 s16 else pw_bd (mf_M_in x4 (0 : Int) (15 : Int) s16) (fun v19 s18 => pw_ck v19 0 (if v19 = 0 then mj_M_quotientDifference_41 x0 x1 x2 x3 x4 s18 else mj_M_quotientDifference_42 x0 x1 x2 x3 x4 (1 : Int) s18)))))))))
set_option maxHeartbeats 4000000 in
set_option maxRecDepth 20000 in
theorem sj_M_quotientDifference_70 {X : pw_X Int} (hX : pw_Ok X prog_14_method_61_code "PadeWorkbenchModel" mr_M_quotientDifference 7) (hR : pw_RI X prog_14_method_61_code) (x0 : Nat) (σ : pw_Sto) : pw_Sp X 0 0 70 [(0, Value.ref x0)] [] σ (mj_M_quotientDifference_70 x0 σ) := by
  unfold mj_M_quotientDifference_70
  refine sp_aload_n (pc := 70) (k := 0) (i := 0) hX rfl 0 rfl md_M_quotientDifference_70 ?_
  refine sp_bipush (pc := 71) hX (by decide) md_M_quotientDifference_71 ?_
  refine sp_callVI (pc := 73) (y := my_M_fail) (ccy := prog_14_method_3_code) (nLy := 2) (ret := (some .int)) (rmy := mr_M_fail) (n := 1) (idx := 77) (As := [.int (iI (-2 : Int))]) (st := []) (o := x0) (cells' := 0) (slots' := 0) hX (fun _ h => mc_M_fail h) mk_M_fail mv_M_fail mcl_10 (fun _ h => pw_gd_of h) mq_870 ⟨(Nat.le_of_ble_eq_true rfl), (Nat.le_of_ble_eq_true rfl)⟩ rfl rfl (Nat.le_of_ble_eq_true rfl) ⟨(Nat.le_of_ble_eq_true rfl), (Nat.le_of_ble_eq_true rfl)⟩ rfl rfl md_M_quotientDifference_73 (fun v4 s3 => ?_)
  exact sp_iret (pc := 76) hX hR rfl (Nat.le_of_ble_eq_true rfl) md_M_quotientDifference_76
set_option maxHeartbeats 4000000 in
set_option maxRecDepth 20000 in
theorem sj_M_quotientDifference_111 {X : pw_X Int} (hX : pw_Ok X prog_14_method_61_code "PadeWorkbenchModel" mr_M_quotientDifference 7) (hR : pw_RI X prog_14_method_61_code) (y0 : Int) (σ : pw_Sto) : pw_Sp X 0 0 111 [] [Value.int (iI y0)] σ (mj_M_quotientDifference_111 y0 σ) := by
  unfold mj_M_quotientDifference_111
  refine sp_istore (pc := 111) (i := 6) (L' := [(6, Value.int (iI y0))]) hX (by decide) rfl md_M_quotientDifference_111 ?_
  refine sp_iload (pc := 113) (i := 6) hX 0 rfl md_M_quotientDifference_113 ?_
  refine sp_if_ge (pc := 115) hX 122 (by decide) md_M_quotientDifference_115 (fun _ => ?_) (fun _ => ?_)
  · refine sp_iload (pc := 122) (i := 6) hX 0 rfl md_M_quotientDifference_122 ?_
    exact sp_iret (pc := 124) hX hR rfl (Nat.le_of_ble_eq_true rfl) md_M_quotientDifference_124
  · refine sp_iconst (pc := 118) hX md_M_quotientDifference_118 ?_
    refine sp_goto (pc := 119) hX 124 (by decide) md_M_quotientDifference_119 ?_
    exact sp_iret (pc := 124) hX hR rfl (Nat.le_of_ble_eq_true rfl) md_M_quotientDifference_124
set_option maxHeartbeats 4000000 in
set_option maxRecDepth 20000 in
theorem sj_M_quotientDifference_64 {X : pw_X Int} (hX : pw_Ok X prog_14_method_61_code "PadeWorkbenchModel" mr_M_quotientDifference 7) (hR : pw_RI X prog_14_method_61_code) (x0 : Nat) (x1 : Int) (x2 : Int) (x3 : Int) (x4 : Int) (y0 : Int) (y1 : Int) (σ : pw_Sto) : pw_Sp X 0 0 64 [(0, Value.ref x0), (1, Value.int (iI x1)), (2, Value.int (iI x2)), (3, Value.int (iI x3)), (4, Value.int (iI x4))] [Value.int (iI y0), Value.int (iI y1)] σ (mj_M_quotientDifference_64 x0 x1 x2 x3 x4 y0 y1 σ) := by
  unfold mj_M_quotientDifference_64
  refine sp_isub (pc := 64) hX md_M_quotientDifference_64 ?_
  refine sp_bipush (pc := 65) hX (by decide) md_M_quotientDifference_65 ?_
  refine sp_icmp_le (pc := 67) hX 77 (by decide) md_M_quotientDifference_67 (fun _ => ?_) (fun _ => ?_)
  · refine sp_aload_n (pc := 77) (k := 0) (i := 0) hX rfl 0 rfl md_M_quotientDifference_77 ?_
    refine sp_iload_n (pc := 78) (k := 1) (i := 1) hX rfl 1 rfl md_M_quotientDifference_78 ?_
    refine sp_callVV (pc := 79) (y := my_M_findScheme) (ccy := prog_14_method_60_code) (nLy := 7) (ret := none) (rmy := mr_M_findScheme) (n := 1) (idx := 202) (As := [.int (iI x1)]) (st := []) (o := x0) (cells' := 0) (slots' := 0) hX (fun _ h => mc_M_findScheme h) mk_M_findScheme mv_M_findScheme mcl_10 (fun _ h => pw_gd_of h) mq_1086 ⟨(Nat.le_of_ble_eq_true rfl), (Nat.le_of_ble_eq_true rfl)⟩ rfl rfl (Nat.le_of_ble_eq_true rfl) ⟨(Nat.le_of_ble_eq_true rfl), (Nat.le_of_ble_eq_true rfl)⟩ rfl rfl md_M_quotientDifference_79 (fun s5 => ?_)
    refine sp_iload_n (pc := 82) (k := 2) (i := 2) hX rfl 2 rfl md_M_quotientDifference_82 ?_
    refine sp_if_ne (pc := 83) hX 100 (by decide) md_M_quotientDifference_83 (fun _ => ?_) (fun _ => ?_)
    · refine sp_aload_n (pc := 86) (k := 0) (i := 0) hX rfl 0 rfl md_M_quotientDifference_86 ?_
      refine sp_getR (pc := 87) (ci := 10) (k := 18) (idx := 55) hX mcl_10 (by decide) mq_817 rfl md_M_quotientDifference_87 (fun v10 => ?_)
      refine sp_iload_n (pc := 90) (k := 3) (i := 3) hX rfl 3 rfl md_M_quotientDifference_90 ?_
      refine sp_iload (pc := 91) (i := 4) hX 4 rfl md_M_quotientDifference_91 ?_
      refine sp_callSI (pc := 93) (y := my_M_cell) (ccy := prog_14_method_59_code) (nLy := 2) (ret := (some .int)) (rmy := mr_M_cell) (n := 2) (idx := 199) (As := [.int (iI x3), .int (iI x4)]) (st := [.ref v10]) (cells' := 0) (slots' := 0) hX (fun _ h => mc_M_cell h) mk_M_cell mq_1091 mq_1090 ⟨(Nat.le_of_ble_eq_true rfl), (Nat.le_of_ble_eq_true rfl)⟩ rfl rfl (Nat.le_of_ble_eq_true rfl) ⟨(Nat.le_of_ble_eq_true rfl), (Nat.le_of_ble_eq_true rfl)⟩ rfl rfl md_M_quotientDifference_93 (fun v12 s11 => ?_)
      refine sp_iaload (pc := 96) hX md_M_quotientDifference_96 (fun v13 => ?_)
      refine sp_goto (pc := 97) hX 111 (by decide) md_M_quotientDifference_97 ?_
      refine sp_sub [] (L' := []) rfl ?_
      exact sj_M_quotientDifference_111 hX hR v13 s11
    · refine sp_aload_n (pc := 100) (k := 0) (i := 0) hX rfl 0 rfl md_M_quotientDifference_100 ?_
      refine sp_getR (pc := 101) (ci := 10) (k := 19) (idx := 58) hX mcl_10 (by decide) mq_818 rfl md_M_quotientDifference_101 (fun v6 => ?_)
      refine sp_iload_n (pc := 104) (k := 3) (i := 3) hX rfl 3 rfl md_M_quotientDifference_104 ?_
      refine sp_iload (pc := 105) (i := 4) hX 4 rfl md_M_quotientDifference_105 ?_
      refine sp_callSI (pc := 107) (y := my_M_cell) (ccy := prog_14_method_59_code) (nLy := 2) (ret := (some .int)) (rmy := mr_M_cell) (n := 2) (idx := 199) (As := [.int (iI x3), .int (iI x4)]) (st := [.ref v6]) (cells' := 0) (slots' := 0) hX (fun _ h => mc_M_cell h) mk_M_cell mq_1091 mq_1090 ⟨(Nat.le_of_ble_eq_true rfl), (Nat.le_of_ble_eq_true rfl)⟩ rfl rfl (Nat.le_of_ble_eq_true rfl) ⟨(Nat.le_of_ble_eq_true rfl), (Nat.le_of_ble_eq_true rfl)⟩ rfl rfl md_M_quotientDifference_107 (fun v8 s7 => ?_)
      refine sp_iaload (pc := 110) hX md_M_quotientDifference_110 (fun v9 => ?_)
      refine sp_sub [] (L' := []) rfl ?_
      exact sj_M_quotientDifference_111 hX hR v9 s7
  · refine sp_sub [0] (L' := [(0, Value.ref x0)]) rfl ?_
    exact sj_M_quotientDifference_70 hX hR x0 σ
set_option maxHeartbeats 4000000 in
set_option maxRecDepth 20000 in
theorem sj_M_quotientDifference_42 {X : pw_X Int} (hX : pw_Ok X prog_14_method_61_code "PadeWorkbenchModel" mr_M_quotientDifference 7) (hR : pw_RI X prog_14_method_61_code) (x0 : Nat) (x1 : Int) (x2 : Int) (x3 : Int) (x4 : Int) (y0 : Int) (σ : pw_Sto) : pw_Sp X 0 0 42 [(0, Value.ref x0), (1, Value.int (iI x1)), (2, Value.int (iI x2)), (3, Value.int (iI x3)), (4, Value.int (iI x4))] [Value.int (iI y0)] σ (mj_M_quotientDifference_42 x0 x1 x2 x3 x4 y0 σ) := by
  unfold mj_M_quotientDifference_42
  refine sp_istore (pc := 42) (i := 5) (L' := [(5, Value.int (iI y0)), (0, Value.ref x0), (1, Value.int (iI x1)), (2, Value.int (iI x2)), (3, Value.int (iI x3)), (4, Value.int (iI x4))]) hX (by decide) rfl md_M_quotientDifference_42 ?_
  refine sp_iload (pc := 44) (i := 5) hX 0 rfl md_M_quotientDifference_44 ?_
  refine sp_if_eq (pc := 46) hX 70 (by decide) md_M_quotientDifference_46 (fun _ => ?_) (fun _ => ?_)
  · refine sp_sub [1] (L' := [(0, Value.ref x0)]) rfl ?_
    exact sj_M_quotientDifference_70 hX hR x0 σ
  · refine sp_iload (pc := 49) (i := 4) hX 5 rfl md_M_quotientDifference_49 ?_
    refine sp_iconst (pc := 51) hX md_M_quotientDifference_51 ?_
    refine sp_iload_n (pc := 52) (k := 3) (i := 3) hX rfl 4 rfl md_M_quotientDifference_52 ?_
    refine sp_imul (pc := 53) hX md_M_quotientDifference_53 ?_
    refine sp_iadd (pc := 54) hX md_M_quotientDifference_54 ?_
    refine sp_iload_n (pc := 55) (k := 2) (i := 2) hX rfl 3 rfl md_M_quotientDifference_55 ?_
    refine sp_if_ne (pc := 56) hX 63 (by decide) md_M_quotientDifference_56 (fun _ => ?_) (fun _ => ?_)
    · refine sp_iconst (pc := 59) hX md_M_quotientDifference_59 ?_
      refine sp_goto (pc := 60) hX 64 (by decide) md_M_quotientDifference_60 ?_
      refine sp_sub [1, 2, 3, 4, 5] (L' := [(0, Value.ref x0), (1, Value.int (iI x1)), (2, Value.int (iI x2)), (3, Value.int (iI x3)), (4, Value.int (iI x4))]) rfl ?_
      exact sj_M_quotientDifference_64 hX hR x0 x1 x2 x3 x4 (1 : Int) (x4 + ((2 : Int) * x3)) σ
    · refine sp_iconst (pc := 63) hX md_M_quotientDifference_63 ?_
      refine sp_sub [1, 2, 3, 4, 5] (L' := [(0, Value.ref x0), (1, Value.int (iI x1)), (2, Value.int (iI x2)), (3, Value.int (iI x3)), (4, Value.int (iI x4))]) rfl ?_
      exact sj_M_quotientDifference_64 hX hR x0 x1 x2 x3 x4 (0 : Int) (x4 + ((2 : Int) * x3)) σ
set_option maxHeartbeats 4000000 in
set_option maxRecDepth 20000 in
theorem sj_M_quotientDifference_41 {X : pw_X Int} (hX : pw_Ok X prog_14_method_61_code "PadeWorkbenchModel" mr_M_quotientDifference 7) (hR : pw_RI X prog_14_method_61_code) (x0 : Nat) (x1 : Int) (x2 : Int) (x3 : Int) (x4 : Int) (σ : pw_Sto) : pw_Sp X 0 0 41 [(0, Value.ref x0), (1, Value.int (iI x1)), (2, Value.int (iI x2)), (3, Value.int (iI x3)), (4, Value.int (iI x4))] [] σ (mj_M_quotientDifference_41 x0 x1 x2 x3 x4 σ) := by
  unfold mj_M_quotientDifference_41
  refine sp_iconst (pc := 41) hX md_M_quotientDifference_41 ?_
  exact sj_M_quotientDifference_42 hX hR x0 x1 x2 x3 x4 (0 : Int) σ
set_option maxHeartbeats 4000000 in
set_option maxRecDepth 20000 in
theorem mc_M_quotientDifference {l : Launch} {E : pw_E} {σ : pw_Sto} {x0 : Nat} {x1 : Int} {x2 : Int} {x3 : Int} {x4 : Int} {out : Int × pw_Sto} (h : mf_M_quotientDifference x0 x1 x2 x3 x4 σ = some out) : pw_CI l E my_M_quotientDifference prog_14_method_61_code 7 (some .int) mr_M_quotientDifference [.ref x0, .int (iI x1), .int (iI x2), .int (iI x3), .int (iI x4)] σ out := by
  unfold mf_M_quotientDifference at h
  refine pw_entryI (by decide) (Nat.le_of_ble_eq_true rfl) (pw_gd_val h) (fun X hX hR hI => ?_)
  change pw_Ok X prog_14_method_61_code "PadeWorkbenchModel" mr_M_quotientDifference 7 at hX
  show pw_Sp X 0 0 0 [(0, Value.ref x0), (1, Value.int (iI x1)), (2, Value.int (iI x2)), (3, Value.int (iI x3)), (4, Value.int (iI x4))] [] σ _
  refine sp_iload_n (pc := 0) (k := 1) (i := 1) hX rfl 1 rfl md_M_quotientDifference_0 ?_
  refine sp_callSI (pc := 1) (y := my_M_isSlot) (ccy := prog_14_method_8_code) (nLy := 1) (ret := (some .boolean)) (rmy := mr_M_isSlot) (n := 1) (idx := 84) (As := [.int (iI x1)]) (st := []) (cells' := 0) (slots' := 0) hX (fun _ h => mc_M_isSlot h) mk_M_isSlot mq_887 mq_886 ⟨(Nat.le_of_ble_eq_true rfl), (Nat.le_of_ble_eq_true rfl)⟩ rfl rfl (Nat.le_of_ble_eq_true rfl) ⟨(Nat.le_of_ble_eq_true rfl), (Nat.le_of_ble_eq_true rfl)⟩ rfl rfl md_M_quotientDifference_1 (fun v2 s1 => ?_)
  refine sp_if_eq (pc := 4) hX 41 (by decide) md_M_quotientDifference_4 (fun _ => ?_) (fun _ => ?_)
  · exact sj_M_quotientDifference_41 hX hR x0 x1 x2 x3 x4 s1
  · refine sp_iload_n (pc := 7) (k := 2) (i := 2) hX rfl 2 rfl md_M_quotientDifference_7 ?_
    refine sp_iconst (pc := 8) hX md_M_quotientDifference_8 ?_
    refine sp_iconst (pc := 9) hX md_M_quotientDifference_9 ?_
    refine sp_callSI (pc := 10) (y := my_M_in) (ccy := prog_14_method_2_code) (nLy := 3) (ret := (some .boolean)) (rmy := mr_M_in) (n := 3) (idx := 65) (As := [.int (iI x2), .int (iI (0 : Int)), .int (iI (1 : Int))]) (st := []) (cells' := 0) (slots' := 0) hX (fun _ h => mc_M_in h) mk_M_in mq_868 mq_867 ⟨(Nat.le_of_ble_eq_true rfl), (Nat.le_of_ble_eq_true rfl)⟩ rfl rfl (Nat.le_of_ble_eq_true rfl) ⟨(Nat.le_of_ble_eq_true rfl), (Nat.le_of_ble_eq_true rfl)⟩ rfl rfl md_M_quotientDifference_10 (fun v15 s14 => ?_)
    refine sp_if_eq (pc := 13) hX 41 (by decide) md_M_quotientDifference_13 (fun _ => ?_) (fun _ => ?_)
    · exact sj_M_quotientDifference_41 hX hR x0 x1 x2 x3 x4 s14
    · refine sp_iload_n (pc := 16) (k := 3) (i := 3) hX rfl 3 rfl md_M_quotientDifference_16 ?_
      refine sp_iconst (pc := 17) hX md_M_quotientDifference_17 ?_
      refine sp_bipush (pc := 18) hX (by decide) md_M_quotientDifference_18 ?_
      refine sp_callSI (pc := 20) (y := my_M_in) (ccy := prog_14_method_2_code) (nLy := 3) (ret := (some .boolean)) (rmy := mr_M_in) (n := 3) (idx := 65) (As := [.int (iI x3), .int (iI (1 : Int)), .int (iI (8 : Int))]) (st := []) (cells' := 0) (slots' := 0) hX (fun _ h => mc_M_in h) mk_M_in mq_868 mq_867 ⟨(Nat.le_of_ble_eq_true rfl), (Nat.le_of_ble_eq_true rfl)⟩ rfl rfl (Nat.le_of_ble_eq_true rfl) ⟨(Nat.le_of_ble_eq_true rfl), (Nat.le_of_ble_eq_true rfl)⟩ rfl rfl md_M_quotientDifference_20 (fun v17 s16 => ?_)
      refine sp_if_eq (pc := 23) hX 41 (by decide) md_M_quotientDifference_23 (fun _ => ?_) (fun _ => ?_)
      · exact sj_M_quotientDifference_41 hX hR x0 x1 x2 x3 x4 s16
      · refine sp_iload (pc := 26) (i := 4) hX 4 rfl md_M_quotientDifference_26 ?_
        refine sp_iconst (pc := 28) hX md_M_quotientDifference_28 ?_
        refine sp_bipush (pc := 29) hX (by decide) md_M_quotientDifference_29 ?_
        refine sp_callSI (pc := 31) (y := my_M_in) (ccy := prog_14_method_2_code) (nLy := 3) (ret := (some .boolean)) (rmy := mr_M_in) (n := 3) (idx := 65) (As := [.int (iI x4), .int (iI (0 : Int)), .int (iI (15 : Int))]) (st := []) (cells' := 0) (slots' := 0) hX (fun _ h => mc_M_in h) mk_M_in mq_868 mq_867 ⟨(Nat.le_of_ble_eq_true rfl), (Nat.le_of_ble_eq_true rfl)⟩ rfl rfl (Nat.le_of_ble_eq_true rfl) ⟨(Nat.le_of_ble_eq_true rfl), (Nat.le_of_ble_eq_true rfl)⟩ rfl rfl md_M_quotientDifference_31 (fun v19 s18 => ?_)
        refine sp_if_eq (pc := 34) hX 41 (by decide) md_M_quotientDifference_34 (fun _ => ?_) (fun _ => ?_)
        · exact sj_M_quotientDifference_41 hX hR x0 x1 x2 x3 x4 s18
        · refine sp_iconst (pc := 37) hX md_M_quotientDifference_37 ?_
          refine sp_goto (pc := 38) hX 42 (by decide) md_M_quotientDifference_38 ?_
          exact sj_M_quotientDifference_42 hX hR x0 x1 x2 x3 x4 (1 : Int) s18
/-! PadeWorkbenchModel.isCut(II)Z -/
theorem md_M_isCut_0 : decode prog_14_method_62_code 0 = .ok (.iload_n 1, 1) := by decide +kernel
theorem md_M_isCut_1 : decode prog_14_method_62_code 1 = .ok (.invokestatic 84, 3) := by decide +kernel
theorem md_M_isCut_4 : decode prog_14_method_62_code 4 = .ok (.ifCond .eq 17, 3) := by decide +kernel
theorem md_M_isCut_21 : decode prog_14_method_62_code 21 = .ok (.iconst 0, 1) := by decide +kernel
theorem md_M_isCut_22 : decode prog_14_method_62_code 22 = .ok (.ireturn, 1) := by decide +kernel
theorem md_M_isCut_7 : decode prog_14_method_62_code 7 = .ok (.iload_n 2, 1) := by decide +kernel
theorem md_M_isCut_8 : decode prog_14_method_62_code 8 = .ok (.iconst 0, 1) := by decide +kernel
theorem md_M_isCut_9 : decode prog_14_method_62_code 9 = .ok (.bipush 15, 2) := by decide +kernel
theorem md_M_isCut_11 : decode prog_14_method_62_code 11 = .ok (.invokestatic 65, 3) := by decide +kernel
theorem md_M_isCut_14 : decode prog_14_method_62_code 14 = .ok (.ifCond .eq 7, 3) := by decide +kernel
theorem md_M_isCut_17 : decode prog_14_method_62_code 17 = .ok (.iconst 1, 1) := by decide +kernel
theorem md_M_isCut_18 : decode prog_14_method_62_code 18 = .ok (.goto 4, 3) := by decide +kernel
def mf_M_isCut (x0 : Nat) (x1 : Int) (x2 : Int) (σ : pw_Sto) : Option (Int × pw_Sto) := pw_gd 10 x0 σ (pw_bd (mf_M_isSlot x1 σ) (fun v2 s1 => pw_ck v2 0 (if v2 = 0 then some ((0 : Int), s1) else pw_bd (mf_M_in x2 (0 : Int) (15 : Int) s1) (fun v4 s3 => pw_ck v4 0 (if v4 = 0 then some ((0 : Int), s3) else some ((1 : Int), s3))))))
set_option maxHeartbeats 4000000 in
set_option maxRecDepth 20000 in
theorem mc_M_isCut {l : Launch} {E : pw_E} {σ : pw_Sto} {x0 : Nat} {x1 : Int} {x2 : Int} {out : Int × pw_Sto} (h : mf_M_isCut x0 x1 x2 σ = some out) : pw_CI l E my_M_isCut prog_14_method_62_code 3 (some .boolean) mr_M_isCut [.ref x0, .int (iI x1), .int (iI x2)] σ out := by
  unfold mf_M_isCut at h
  refine pw_entryZ (by decide) (Nat.le_of_ble_eq_true rfl) (pw_gd_val h) (fun X hX hR hI => ?_)
  change pw_Ok X prog_14_method_62_code "PadeWorkbenchModel" mr_M_isCut 3 at hX
  show pw_Sp X 0 0 0 [(0, Value.ref x0), (1, Value.int (iI x1)), (2, Value.int (iI x2))] [] σ _
  refine sp_iload_n (pc := 0) (k := 1) (i := 1) hX rfl 1 rfl md_M_isCut_0 ?_
  refine sp_callSI (pc := 1) (y := my_M_isSlot) (ccy := prog_14_method_8_code) (nLy := 1) (ret := (some .boolean)) (rmy := mr_M_isSlot) (n := 1) (idx := 84) (As := [.int (iI x1)]) (st := []) (cells' := 0) (slots' := 0) hX (fun _ h => mc_M_isSlot h) mk_M_isSlot mq_887 mq_886 ⟨(Nat.le_of_ble_eq_true rfl), (Nat.le_of_ble_eq_true rfl)⟩ rfl rfl (Nat.le_of_ble_eq_true rfl) ⟨(Nat.le_of_ble_eq_true rfl), (Nat.le_of_ble_eq_true rfl)⟩ rfl rfl md_M_isCut_1 (fun v2 s1 => ?_)
  refine sp_if_eq (pc := 4) hX 21 (by decide) md_M_isCut_4 (fun _ => ?_) (fun _ => ?_)
  · refine sp_iconst (pc := 21) hX md_M_isCut_21 ?_
    exact sp_zret (pc := 22) hX hR (by decide) rfl (Nat.le_of_ble_eq_true rfl) md_M_isCut_22
  · refine sp_iload_n (pc := 7) (k := 2) (i := 2) hX rfl 2 rfl md_M_isCut_7 ?_
    refine sp_iconst (pc := 8) hX md_M_isCut_8 ?_
    refine sp_bipush (pc := 9) hX (by decide) md_M_isCut_9 ?_
    refine sp_callSI (pc := 11) (y := my_M_in) (ccy := prog_14_method_2_code) (nLy := 3) (ret := (some .boolean)) (rmy := mr_M_in) (n := 3) (idx := 65) (As := [.int (iI x2), .int (iI (0 : Int)), .int (iI (15 : Int))]) (st := []) (cells' := 0) (slots' := 0) hX (fun _ h => mc_M_in h) mk_M_in mq_868 mq_867 ⟨(Nat.le_of_ble_eq_true rfl), (Nat.le_of_ble_eq_true rfl)⟩ rfl rfl (Nat.le_of_ble_eq_true rfl) ⟨(Nat.le_of_ble_eq_true rfl), (Nat.le_of_ble_eq_true rfl)⟩ rfl rfl md_M_isCut_11 (fun v4 s3 => ?_)
    refine sp_if_eq (pc := 14) hX 21 (by decide) md_M_isCut_14 (fun _ => ?_) (fun _ => ?_)
    · refine sp_iconst (pc := 21) hX md_M_isCut_21 ?_
      exact sp_zret (pc := 22) hX hR (by decide) rfl (Nat.le_of_ble_eq_true rfl) md_M_isCut_22
    · refine sp_iconst (pc := 17) hX md_M_isCut_17 ?_
      refine sp_goto (pc := 18) hX 22 (by decide) md_M_isCut_18 ?_
      exact sp_zret (pc := 22) hX hR (by decide) rfl (Nat.le_of_ble_eq_true rfl) md_M_isCut_22
/-! PadeWorkbenchModel.findQuotients(III)I -/
theorem md_M_findQuotients_0 : decode prog_14_method_63_code 0 = .ok (.aload_n 0, 1) := by decide +kernel
theorem md_M_findQuotients_1 : decode prog_14_method_63_code 1 = .ok (.getfield 46, 3) := by decide +kernel
theorem md_M_findQuotients_4 : decode prog_14_method_63_code 4 = .ok (.invokestatic 107, 3) := by decide +kernel
theorem md_M_findQuotients_7 : decode prog_14_method_63_code 7 = .ok (.aload_n 0, 1) := by decide +kernel
theorem md_M_findQuotients_8 : decode prog_14_method_63_code 8 = .ok (.getfield 49, 3) := by decide +kernel
theorem md_M_findQuotients_11 : decode prog_14_method_63_code 11 = .ok (.invokestatic 107, 3) := by decide +kernel
theorem md_M_findQuotients_14 : decode prog_14_method_63_code 14 = .ok (.aload_n 0, 1) := by decide +kernel
theorem md_M_findQuotients_15 : decode prog_14_method_63_code 15 = .ok (.getfield 46, 3) := by decide +kernel
theorem md_M_findQuotients_18 : decode prog_14_method_63_code 18 = .ok (.iload_n 2, 1) := by decide +kernel
theorem md_M_findQuotients_19 : decode prog_14_method_63_code 19 = .ok (.iconst 1, 1) := by decide +kernel
theorem md_M_findQuotients_20 : decode prog_14_method_63_code 20 = .ok (.iadd, 1) := by decide +kernel
theorem md_M_findQuotients_21 : decode prog_14_method_63_code 21 = .ok (.iconst 1, 1) := by decide +kernel
theorem md_M_findQuotients_22 : decode prog_14_method_63_code 22 = .ok (.iastore, 1) := by decide +kernel
theorem md_M_findQuotients_23 : decode prog_14_method_63_code 23 = .ok (.iconst 0, 1) := by decide +kernel
theorem md_M_findQuotients_24 : decode prog_14_method_63_code 24 = .ok (.istore 4, 2) := by decide +kernel
theorem md_M_findQuotients_26 : decode prog_14_method_63_code 26 = .ok (.iload 4, 2) := by decide +kernel
theorem md_M_findQuotients_28 : decode prog_14_method_63_code 28 = .ok (.iload_n 2, 1) := by decide +kernel
theorem md_M_findQuotients_29 : decode prog_14_method_63_code 29 = .ok (.if_icmp .gt 23, 3) := by decide +kernel
theorem md_M_findQuotients_52 : decode prog_14_method_63_code 52 = .ok (.iconst 0, 1) := by decide +kernel
theorem md_M_findQuotients_53 : decode prog_14_method_63_code 53 = .ok (.istore 4, 2) := by decide +kernel
theorem md_M_findQuotients_55 : decode prog_14_method_63_code 55 = .ok (.aload_n 0, 1) := by decide +kernel
theorem md_M_findQuotients_56 : decode prog_14_method_63_code 56 = .ok (.getfield 49, 3) := by decide +kernel
theorem md_M_findQuotients_59 : decode prog_14_method_63_code 59 = .ok (.invokestatic 159, 3) := by decide +kernel
theorem md_M_findQuotients_62 : decode prog_14_method_63_code 62 = .ok (.ifCond .lt 75, 3) := by decide +kernel
theorem md_M_findQuotients_137 : decode prog_14_method_63_code 137 = .ok (.iload 4, 2) := by decide +kernel
theorem md_M_findQuotients_139 : decode prog_14_method_63_code 139 = .ok (.ireturn, 1) := by decide +kernel
theorem md_M_findQuotients_65 : decode prog_14_method_63_code 65 = .ok (.aload_n 0, 1) := by decide +kernel
theorem md_M_findQuotients_66 : decode prog_14_method_63_code 66 = .ok (.aload_n 0, 1) := by decide +kernel
theorem md_M_findQuotients_67 : decode prog_14_method_63_code 67 = .ok (.getfield 46, 3) := by decide +kernel
theorem md_M_findQuotients_70 : decode prog_14_method_63_code 70 = .ok (.aload_n 0, 1) := by decide +kernel
theorem md_M_findQuotients_71 : decode prog_14_method_63_code 71 = .ok (.getfield 49, 3) := by decide +kernel
theorem md_M_findQuotients_74 : decode prog_14_method_63_code 74 = .ok (.aload_n 0, 1) := by decide +kernel
theorem md_M_findQuotients_75 : decode prog_14_method_63_code 75 = .ok (.getfield 52, 3) := by decide +kernel
theorem md_M_findQuotients_78 : decode prog_14_method_63_code 78 = .ok (.invokevirtual 167, 3) := by decide +kernel
theorem md_M_findQuotients_81 : decode prog_14_method_63_code 81 = .ok (.iload 4, 2) := by decide +kernel
theorem md_M_findQuotients_83 : decode prog_14_method_63_code 83 = .ok (.iload_n 3, 1) := by decide +kernel
theorem md_M_findQuotients_84 : decode prog_14_method_63_code 84 = .ok (.if_icmp .ne 14, 3) := by decide +kernel
theorem md_M_findQuotients_98 : decode prog_14_method_63_code 98 = .ok (.aload_n 0, 1) := by decide +kernel
theorem md_M_findQuotients_99 : decode prog_14_method_63_code 99 = .ok (.getfield 46, 3) := by decide +kernel
theorem md_M_findQuotients_102 : decode prog_14_method_63_code 102 = .ok (.aload_n 0, 1) := by decide +kernel
theorem md_M_findQuotients_103 : decode prog_14_method_63_code 103 = .ok (.getfield 52, 3) := by decide +kernel
theorem md_M_findQuotients_106 : decode prog_14_method_63_code 106 = .ok (.invokestatic 163, 3) := by decide +kernel
theorem md_M_findQuotients_109 : decode prog_14_method_63_code 109 = .ok (.aload_n 0, 1) := by decide +kernel
theorem md_M_findQuotients_110 : decode prog_14_method_63_code 110 = .ok (.getfield 49, 3) := by decide +kernel
theorem md_M_findQuotients_113 : decode prog_14_method_63_code 113 = .ok (.aload_n 0, 1) := by decide +kernel
theorem md_M_findQuotients_114 : decode prog_14_method_63_code 114 = .ok (.getfield 46, 3) := by decide +kernel
theorem md_M_findQuotients_117 : decode prog_14_method_63_code 117 = .ok (.invokestatic 163, 3) := by decide +kernel
theorem md_M_findQuotients_120 : decode prog_14_method_63_code 120 = .ok (.aload_n 0, 1) := by decide +kernel
theorem md_M_findQuotients_121 : decode prog_14_method_63_code 121 = .ok (.getfield 52, 3) := by decide +kernel
theorem md_M_findQuotients_124 : decode prog_14_method_63_code 124 = .ok (.aload_n 0, 1) := by decide +kernel
theorem md_M_findQuotients_125 : decode prog_14_method_63_code 125 = .ok (.getfield 49, 3) := by decide +kernel
theorem md_M_findQuotients_128 : decode prog_14_method_63_code 128 = .ok (.invokestatic 163, 3) := by decide +kernel
theorem md_M_findQuotients_131 : decode prog_14_method_63_code 131 = .ok (.iinc 4 1, 3) := by decide +kernel
theorem md_M_findQuotients_134 : decode prog_14_method_63_code 134 = .ok (.goto (-79), 3) := by decide +kernel
theorem md_M_findQuotients_87 : decode prog_14_method_63_code 87 = .ok (.aload_n 0, 1) := by decide +kernel
theorem md_M_findQuotients_88 : decode prog_14_method_63_code 88 = .ok (.getfield 52, 3) := by decide +kernel
theorem md_M_findQuotients_91 : decode prog_14_method_63_code 91 = .ok (.aload_n 0, 1) := by decide +kernel
theorem md_M_findQuotients_92 : decode prog_14_method_63_code 92 = .ok (.getfield 43, 3) := by decide +kernel
theorem md_M_findQuotients_95 : decode prog_14_method_63_code 95 = .ok (.invokestatic 163, 3) := by decide +kernel
theorem md_M_findQuotients_32 : decode prog_14_method_63_code 32 = .ok (.aload_n 0, 1) := by decide +kernel
theorem md_M_findQuotients_33 : decode prog_14_method_63_code 33 = .ok (.getfield 49, 3) := by decide +kernel
theorem md_M_findQuotients_36 : decode prog_14_method_63_code 36 = .ok (.iload 4, 2) := by decide +kernel
theorem md_M_findQuotients_38 : decode prog_14_method_63_code 38 = .ok (.aload_n 0, 1) := by decide +kernel
theorem md_M_findQuotients_39 : decode prog_14_method_63_code 39 = .ok (.iload_n 1, 1) := by decide +kernel
theorem md_M_findQuotients_40 : decode prog_14_method_63_code 40 = .ok (.iload 4, 2) := by decide +kernel
theorem md_M_findQuotients_42 : decode prog_14_method_63_code 42 = .ok (.invokevirtual 87, 3) := by decide +kernel
theorem md_M_findQuotients_45 : decode prog_14_method_63_code 45 = .ok (.iastore, 1) := by decide +kernel
theorem md_M_findQuotients_46 : decode prog_14_method_63_code 46 = .ok (.iinc 4 1, 3) := by decide +kernel
theorem md_M_findQuotients_49 : decode prog_14_method_63_code 49 = .ok (.goto (-23), 3) := by decide +kernel
def mj_M_findQuotients_98 (r55 : Nat → Int → Int → pw_Sto → Option (Int × pw_Sto)) (x0 : Nat) (x3 : Int) (x4 : Int) (σ : pw_Sto) : Option (Int × pw_Sto) := (pw_gr 10 x0 15 σ).bind (fun v14 => (pw_gr 10 x0 17 σ).bind (fun v15 => pw_bd (mf_M_copy v14 v15 σ) (fun _ s16 => (pw_gr 10 x0 16 s16).bind (fun v17 => (pw_gr 10 x0 15 s16).bind (fun v18 => pw_bd (mf_M_copy v17 v18 s16) (fun _ s19 => (pw_gr 10 x0 17 s19).bind (fun v20 => (pw_gr 10 x0 16 s19).bind (fun v21 => pw_bd (mf_M_copy v20 v21 s19) (fun _ s22 => r55 x0 x3 (x4 + 1) s22)))))))))
def mb_M_findQuotients_55 (rc : Nat → Int → Int → pw_Sto → Option (Int × pw_Sto)) : Nat → Int → Int → pw_Sto → Option (Int × pw_Sto) := fun x0 x3 x4 σ => (pw_gr 10 x0 16 σ).bind (fun v7 => pw_bd (mf_M_degree v7 σ) (fun v9 s8 => pw_ck v9 0 (if v9 < 0 then some (x4, s8) else (pw_gr 10 x0 15 s8).bind (fun v10 => (pw_gr 10 x0 16 s8).bind (fun v11 => (pw_gr 10 x0 17 s8).bind (fun v12 => pw_bd (mf_M_divide x0 v10 v11 v12 s8) (fun _ s13 => pw_ck x4 x3 (if x4 = x3 then (pw_gr 10 x0 17 s13).bind (fun v23 => (pw_gr 10 x0 14 s13).bind (fun v24 => pw_bd (mf_M_copy v23 v24 s13) (fun _ s25 => mj_M_findQuotients_98 rc x0 x3 x4 s25))) else mj_M_findQuotients_98 rc x0 x3 x4 s13))))))))
def ml_M_findQuotients_55 : Nat → Nat → Int → Int → pw_Sto → Option (Int × pw_Sto) := pw_lp (fun _ _ _ _ => none) (mb_M_findQuotients_55)
def mb_M_findQuotients_26 (rc : Nat → Int → Int → Int → Int → pw_Sto → Option (Int × pw_Sto)) : Nat → Int → Int → Int → Int → pw_Sto → Option (Int × pw_Sto) := fun x0 x1 x2 x3 x4 σ => pw_ck x4 x2 (if x2 < x4 then ml_M_findQuotients_55 1000 x0 x3 (0 : Int) σ else (pw_gr 10 x0 16 σ).bind (fun v26 => pw_bd (mf_M_term x0 x1 x4 σ) (fun v28 s27 => (pw_si v26 x4 v28 s27).bind (fun s29 => rc x0 x1 x2 x3 (x4 + 1) s29))))
def ml_M_findQuotients_26 : Nat → Nat → Int → Int → Int → Int → pw_Sto → Option (Int × pw_Sto) := pw_lp (fun _ _ _ _ _ _ => none) (mb_M_findQuotients_26)
def mf_M_findQuotients (x0 : Nat) (x1 : Int) (x2 : Int) (x3 : Int) (σ : pw_Sto) : Option (Int × pw_Sto) := pw_gd 10 x0 σ ((pw_gr 10 x0 15 σ).bind (fun v1 => pw_bd (mf_M_clear v1 σ) (fun _ s2 => (pw_gr 10 x0 16 s2).bind (fun v3 => pw_bd (mf_M_clear v3 s2) (fun _ s4 => (pw_gr 10 x0 15 s4).bind (fun v5 => (pw_si v5 (x2 + (1 : Int)) (1 : Int) s4).bind (fun s6 => ml_M_findQuotients_26 1000 x0 x1 x2 x3 (0 : Int) s6)))))))
set_option maxHeartbeats 4000000 in
set_option maxRecDepth 20000 in
theorem sj_M_findQuotients_98 {X : pw_X Int} (hX : pw_Ok X prog_14_method_63_code "PadeWorkbenchModel" mr_M_findQuotients 5) (hR : pw_RI X prog_14_method_63_code) {r55 : Nat → Int → Int → pw_Sto → Option (Int × pw_Sto)} (h55 : ∀ (z0 : Nat) (z1 : Int) (z2 : Int) (σ : pw_Sto), pw_Sp X 0 0 55 [(0, Value.ref z0), (3, Value.int (iI z1)), (4, Value.int (iI z2))] [] σ (r55 z0 z1 z2 σ)) (x0 : Nat) (x3 : Int) (x4 : Int) (σ : pw_Sto) : pw_Sp X 0 0 98 [(0, Value.ref x0), (3, Value.int (iI x3)), (4, Value.int (iI x4))] [] σ (mj_M_findQuotients_98 r55 x0 x3 x4 σ) := by
  unfold mj_M_findQuotients_98
  refine sp_aload_n (pc := 98) (k := 0) (i := 0) hX rfl 0 rfl md_M_findQuotients_98 ?_
  refine sp_getR (pc := 99) (ci := 10) (k := 15) (idx := 46) hX mcl_10 (by decide) mq_814 rfl md_M_findQuotients_99 (fun v14 => ?_)
  refine sp_aload_n (pc := 102) (k := 0) (i := 0) hX rfl 0 rfl md_M_findQuotients_102 ?_
  refine sp_getR (pc := 103) (ci := 10) (k := 17) (idx := 52) hX mcl_10 (by decide) mq_816 rfl md_M_findQuotients_103 (fun v15 => ?_)
  refine sp_callSV (pc := 106) (y := my_M_copy) (ccy := prog_14_method_40_code) (nLy := 3) (ret := none) (rmy := mr_M_copy) (n := 2) (idx := 163) (As := [.ref v14, .ref v15]) (st := []) (cells' := 0) (slots' := 0) hX (fun _ h => mc_M_copy h) mk_M_copy mq_1024 mq_1023 ⟨(Nat.le_of_ble_eq_true rfl), (Nat.le_of_ble_eq_true rfl)⟩ rfl rfl (Nat.le_of_ble_eq_true rfl) ⟨(Nat.le_of_ble_eq_true rfl), (Nat.le_of_ble_eq_true rfl)⟩ rfl rfl md_M_findQuotients_106 (fun s16 => ?_)
  refine sp_aload_n (pc := 109) (k := 0) (i := 0) hX rfl 0 rfl md_M_findQuotients_109 ?_
  refine sp_getR (pc := 110) (ci := 10) (k := 16) (idx := 49) hX mcl_10 (by decide) mq_815 rfl md_M_findQuotients_110 (fun v17 => ?_)
  refine sp_aload_n (pc := 113) (k := 0) (i := 0) hX rfl 0 rfl md_M_findQuotients_113 ?_
  refine sp_getR (pc := 114) (ci := 10) (k := 15) (idx := 46) hX mcl_10 (by decide) mq_814 rfl md_M_findQuotients_114 (fun v18 => ?_)
  refine sp_callSV (pc := 117) (y := my_M_copy) (ccy := prog_14_method_40_code) (nLy := 3) (ret := none) (rmy := mr_M_copy) (n := 2) (idx := 163) (As := [.ref v17, .ref v18]) (st := []) (cells' := 0) (slots' := 0) hX (fun _ h => mc_M_copy h) mk_M_copy mq_1024 mq_1023 ⟨(Nat.le_of_ble_eq_true rfl), (Nat.le_of_ble_eq_true rfl)⟩ rfl rfl (Nat.le_of_ble_eq_true rfl) ⟨(Nat.le_of_ble_eq_true rfl), (Nat.le_of_ble_eq_true rfl)⟩ rfl rfl md_M_findQuotients_117 (fun s19 => ?_)
  refine sp_aload_n (pc := 120) (k := 0) (i := 0) hX rfl 0 rfl md_M_findQuotients_120 ?_
  refine sp_getR (pc := 121) (ci := 10) (k := 17) (idx := 52) hX mcl_10 (by decide) mq_816 rfl md_M_findQuotients_121 (fun v20 => ?_)
  refine sp_aload_n (pc := 124) (k := 0) (i := 0) hX rfl 0 rfl md_M_findQuotients_124 ?_
  refine sp_getR (pc := 125) (ci := 10) (k := 16) (idx := 49) hX mcl_10 (by decide) mq_815 rfl md_M_findQuotients_125 (fun v21 => ?_)
  refine sp_callSV (pc := 128) (y := my_M_copy) (ccy := prog_14_method_40_code) (nLy := 3) (ret := none) (rmy := mr_M_copy) (n := 2) (idx := 163) (As := [.ref v20, .ref v21]) (st := []) (cells' := 0) (slots' := 0) hX (fun _ h => mc_M_copy h) mk_M_copy mq_1024 mq_1023 ⟨(Nat.le_of_ble_eq_true rfl), (Nat.le_of_ble_eq_true rfl)⟩ rfl rfl (Nat.le_of_ble_eq_true rfl) ⟨(Nat.le_of_ble_eq_true rfl), (Nat.le_of_ble_eq_true rfl)⟩ rfl rfl md_M_findQuotients_128 (fun s22 => ?_)
  refine sp_iinc (pc := 131) (i := 4) (L' := [(4, Value.int (iI (x4 + 1))), (0, Value.ref x0), (3, Value.int (iI x3))]) hX 2 rfl (by decide) rfl md_M_findQuotients_131 ?_
  refine sp_goto (pc := 134) hX 55 (by decide) md_M_findQuotients_134 ?_
  refine sp_sub [1, 2, 0] (L' := [(0, Value.ref x0), (3, Value.int (iI x3)), (4, Value.int (iI (x4 + 1)))]) rfl ?_
  exact h55 x0 x3 (x4 + 1) s22
set_option maxHeartbeats 4000000 in
set_option maxRecDepth 20000 in
theorem sl_M_findQuotients_55 {X : pw_X Int} (hX : pw_Ok X prog_14_method_63_code "PadeWorkbenchModel" mr_M_findQuotients 5) (hR : pw_RI X prog_14_method_63_code) : ∀ (n : Nat) (x0 : Nat) (x3 : Int) (x4 : Int) (σ : pw_Sto), pw_Sp X 0 0 55 [(0, Value.ref x0), (3, Value.int (iI x3)), (4, Value.int (iI x4))] [] σ (ml_M_findQuotients_55 n x0 x3 x4 σ) := by
  intro n
  induction n with
  | zero => intros; exact pw_none
  | succ n ih =>
    intro x0 x3 x4 σ
    show pw_Sp X 0 0 55 _ _ σ (mb_M_findQuotients_55 (ml_M_findQuotients_55 n) x0 x3 x4 σ)
    unfold mb_M_findQuotients_55
    refine sp_aload_n (pc := 55) (k := 0) (i := 0) hX rfl 0 rfl md_M_findQuotients_55 ?_
    refine sp_getR (pc := 56) (ci := 10) (k := 16) (idx := 49) hX mcl_10 (by decide) mq_815 rfl md_M_findQuotients_56 (fun v7 => ?_)
    refine sp_callSI (pc := 59) (y := my_M_degree) (ccy := prog_14_method_39_code) (nLy := 3) (ret := (some .int)) (rmy := mr_M_degree) (n := 1) (idx := 159) (As := [.ref v7]) (st := []) (cells' := 0) (slots' := 0) hX (fun _ h => mc_M_degree h) mk_M_degree mq_1021 mq_1020 ⟨(Nat.le_of_ble_eq_true rfl), (Nat.le_of_ble_eq_true rfl)⟩ rfl rfl (Nat.le_of_ble_eq_true rfl) ⟨(Nat.le_of_ble_eq_true rfl), (Nat.le_of_ble_eq_true rfl)⟩ rfl rfl md_M_findQuotients_59 (fun v9 s8 => ?_)
    refine sp_if_lt (pc := 62) hX 137 (by decide) md_M_findQuotients_62 (fun _ => ?_) (fun _ => ?_)
    · refine sp_iload (pc := 137) (i := 4) hX 2 rfl md_M_findQuotients_137 ?_
      exact sp_iret (pc := 139) hX hR rfl (Nat.le_of_ble_eq_true rfl) md_M_findQuotients_139
    · refine sp_aload_n (pc := 65) (k := 0) (i := 0) hX rfl 0 rfl md_M_findQuotients_65 ?_
      refine sp_aload_n (pc := 66) (k := 0) (i := 0) hX rfl 0 rfl md_M_findQuotients_66 ?_
      refine sp_getR (pc := 67) (ci := 10) (k := 15) (idx := 46) hX mcl_10 (by decide) mq_814 rfl md_M_findQuotients_67 (fun v10 => ?_)
      refine sp_aload_n (pc := 70) (k := 0) (i := 0) hX rfl 0 rfl md_M_findQuotients_70 ?_
      refine sp_getR (pc := 71) (ci := 10) (k := 16) (idx := 49) hX mcl_10 (by decide) mq_815 rfl md_M_findQuotients_71 (fun v11 => ?_)
      refine sp_aload_n (pc := 74) (k := 0) (i := 0) hX rfl 0 rfl md_M_findQuotients_74 ?_
      refine sp_getR (pc := 75) (ci := 10) (k := 17) (idx := 52) hX mcl_10 (by decide) mq_816 rfl md_M_findQuotients_75 (fun v12 => ?_)
      refine sp_callVV (pc := 78) (y := my_M_divide) (ccy := prog_14_method_41_code) (nLy := 9) (ret := none) (rmy := mr_M_divide) (n := 3) (idx := 167) (As := [.ref v10, .ref v11, .ref v12]) (st := []) (o := x0) (cells' := 0) (slots' := 0) hX (fun _ h => mc_M_divide h) mk_M_divide mv_M_divide mcl_10 (fun _ h => pw_gd_of h) mq_1026 ⟨(Nat.le_of_ble_eq_true rfl), (Nat.le_of_ble_eq_true rfl)⟩ rfl rfl (Nat.le_of_ble_eq_true rfl) ⟨(Nat.le_of_ble_eq_true rfl), (Nat.le_of_ble_eq_true rfl)⟩ rfl rfl md_M_findQuotients_78 (fun s13 => ?_)
      refine sp_iload (pc := 81) (i := 4) hX 2 rfl md_M_findQuotients_81 ?_
      refine sp_iload_n (pc := 83) (k := 3) (i := 3) hX rfl 1 rfl md_M_findQuotients_83 ?_
      refine sp_icmp_ne (pc := 84) hX 98 (by decide) md_M_findQuotients_84 (fun _ => ?_) (fun _ => ?_)
      · refine sp_aload_n (pc := 87) (k := 0) (i := 0) hX rfl 0 rfl md_M_findQuotients_87 ?_
        refine sp_getR (pc := 88) (ci := 10) (k := 17) (idx := 52) hX mcl_10 (by decide) mq_816 rfl md_M_findQuotients_88 (fun v23 => ?_)
        refine sp_aload_n (pc := 91) (k := 0) (i := 0) hX rfl 0 rfl md_M_findQuotients_91 ?_
        refine sp_getR (pc := 92) (ci := 10) (k := 14) (idx := 43) hX mcl_10 (by decide) mq_813 rfl md_M_findQuotients_92 (fun v24 => ?_)
        refine sp_callSV (pc := 95) (y := my_M_copy) (ccy := prog_14_method_40_code) (nLy := 3) (ret := none) (rmy := mr_M_copy) (n := 2) (idx := 163) (As := [.ref v23, .ref v24]) (st := []) (cells' := 0) (slots' := 0) hX (fun _ h => mc_M_copy h) mk_M_copy mq_1024 mq_1023 ⟨(Nat.le_of_ble_eq_true rfl), (Nat.le_of_ble_eq_true rfl)⟩ rfl rfl (Nat.le_of_ble_eq_true rfl) ⟨(Nat.le_of_ble_eq_true rfl), (Nat.le_of_ble_eq_true rfl)⟩ rfl rfl md_M_findQuotients_95 (fun s25 => ?_)
        exact sj_M_findQuotients_98 hX hR ih x0 x3 x4 s25
      · exact sj_M_findQuotients_98 hX hR ih x0 x3 x4 s13
set_option maxHeartbeats 4000000 in
set_option maxRecDepth 20000 in
theorem sl_M_findQuotients_26 {X : pw_X Int} (hX : pw_Ok X prog_14_method_63_code "PadeWorkbenchModel" mr_M_findQuotients 5) (hR : pw_RI X prog_14_method_63_code) : ∀ (n : Nat) (x0 : Nat) (x1 : Int) (x2 : Int) (x3 : Int) (x4 : Int) (σ : pw_Sto), pw_Sp X 0 0 26 [(0, Value.ref x0), (1, Value.int (iI x1)), (2, Value.int (iI x2)), (3, Value.int (iI x3)), (4, Value.int (iI x4))] [] σ (ml_M_findQuotients_26 n x0 x1 x2 x3 x4 σ) := by
  intro n
  induction n with
  | zero => intros; exact pw_none
  | succ n ih =>
    intro x0 x1 x2 x3 x4 σ
    show pw_Sp X 0 0 26 _ _ σ (mb_M_findQuotients_26 (ml_M_findQuotients_26 n) x0 x1 x2 x3 x4 σ)
    unfold mb_M_findQuotients_26
    refine sp_iload (pc := 26) (i := 4) hX 4 rfl md_M_findQuotients_26 ?_
    refine sp_iload_n (pc := 28) (k := 2) (i := 2) hX rfl 2 rfl md_M_findQuotients_28 ?_
    refine sp_icmp_gt (pc := 29) hX 52 (by decide) md_M_findQuotients_29 (fun _ => ?_) (fun _ => ?_)
    · refine sp_iconst (pc := 52) hX md_M_findQuotients_52 ?_
      refine sp_istore (pc := 53) (i := 4) (L' := [(4, Value.int (iI (0 : Int))), (0, Value.ref x0), (1, Value.int (iI x1)), (2, Value.int (iI x2)), (3, Value.int (iI x3))]) hX (by decide) rfl md_M_findQuotients_53 ?_
      refine sp_sub [1, 4, 0] (L' := [(0, Value.ref x0), (3, Value.int (iI x3)), (4, Value.int (iI (0 : Int)))]) rfl ?_
      exact sl_M_findQuotients_55 hX hR 1000 x0 x3 (0 : Int) σ
    · refine sp_aload_n (pc := 32) (k := 0) (i := 0) hX rfl 0 rfl md_M_findQuotients_32 ?_
      refine sp_getR (pc := 33) (ci := 10) (k := 16) (idx := 49) hX mcl_10 (by decide) mq_815 rfl md_M_findQuotients_33 (fun v26 => ?_)
      refine sp_iload (pc := 36) (i := 4) hX 4 rfl md_M_findQuotients_36 ?_
      refine sp_aload_n (pc := 38) (k := 0) (i := 0) hX rfl 0 rfl md_M_findQuotients_38 ?_
      refine sp_iload_n (pc := 39) (k := 1) (i := 1) hX rfl 1 rfl md_M_findQuotients_39 ?_
      refine sp_iload (pc := 40) (i := 4) hX 4 rfl md_M_findQuotients_40 ?_
      refine sp_callVI (pc := 42) (y := my_M_term) (ccy := prog_14_method_9_code) (nLy := 3) (ret := (some .int)) (rmy := mr_M_term) (n := 2) (idx := 87) (As := [.int (iI x1), .int (iI x4)]) (st := [.int (iI x4), .ref v26]) (o := x0) (cells' := 0) (slots' := 0) hX (fun _ h => mc_M_term h) mk_M_term mv_M_term mcl_10 (fun _ h => pw_gd_of h) mq_889 ⟨(Nat.le_of_ble_eq_true rfl), (Nat.le_of_ble_eq_true rfl)⟩ rfl rfl (Nat.le_of_ble_eq_true rfl) ⟨(Nat.le_of_ble_eq_true rfl), (Nat.le_of_ble_eq_true rfl)⟩ rfl rfl md_M_findQuotients_42 (fun v28 s27 => ?_)
      refine sp_iastore (pc := 45) hX md_M_findQuotients_45 (fun s29 => ?_)
      refine sp_iinc (pc := 46) (i := 4) (L' := [(4, Value.int (iI (x4 + 1))), (0, Value.ref x0), (1, Value.int (iI x1)), (2, Value.int (iI x2)), (3, Value.int (iI x3))]) hX 4 rfl (by decide) rfl md_M_findQuotients_46 ?_
      refine sp_goto (pc := 49) hX 26 (by decide) md_M_findQuotients_49 ?_
      refine sp_sub [1, 2, 3, 4, 0] (L' := [(0, Value.ref x0), (1, Value.int (iI x1)), (2, Value.int (iI x2)), (3, Value.int (iI x3)), (4, Value.int (iI (x4 + 1)))]) rfl ?_
      exact ih x0 x1 x2 x3 (x4 + 1) s29
set_option maxHeartbeats 4000000 in
set_option maxRecDepth 20000 in
theorem mc_M_findQuotients {l : Launch} {E : pw_E} {σ : pw_Sto} {x0 : Nat} {x1 : Int} {x2 : Int} {x3 : Int} {out : Int × pw_Sto} (h : mf_M_findQuotients x0 x1 x2 x3 σ = some out) : pw_CI l E my_M_findQuotients prog_14_method_63_code 5 (some .int) mr_M_findQuotients [.ref x0, .int (iI x1), .int (iI x2), .int (iI x3)] σ out := by
  unfold mf_M_findQuotients at h
  refine pw_entryI (by decide) (Nat.le_of_ble_eq_true rfl) (pw_gd_val h) (fun X hX hR hI => ?_)
  change pw_Ok X prog_14_method_63_code "PadeWorkbenchModel" mr_M_findQuotients 5 at hX
  show pw_Sp X 0 0 0 [(0, Value.ref x0), (1, Value.int (iI x1)), (2, Value.int (iI x2)), (3, Value.int (iI x3))] [] σ _
  refine sp_aload_n (pc := 0) (k := 0) (i := 0) hX rfl 0 rfl md_M_findQuotients_0 ?_
  refine sp_getR (pc := 1) (ci := 10) (k := 15) (idx := 46) hX mcl_10 (by decide) mq_814 rfl md_M_findQuotients_1 (fun v1 => ?_)
  refine sp_callSV (pc := 4) (y := my_M_clear) (ccy := prog_14_method_15_code) (nLy := 2) (ret := none) (rmy := mr_M_clear) (n := 1) (idx := 107) (As := [.ref v1]) (st := []) (cells' := 0) (slots' := 0) hX (fun _ h => mc_M_clear h) mk_M_clear mq_926 mq_925 ⟨(Nat.le_of_ble_eq_true rfl), (Nat.le_of_ble_eq_true rfl)⟩ rfl rfl (Nat.le_of_ble_eq_true rfl) ⟨(Nat.le_of_ble_eq_true rfl), (Nat.le_of_ble_eq_true rfl)⟩ rfl rfl md_M_findQuotients_4 (fun s2 => ?_)
  refine sp_aload_n (pc := 7) (k := 0) (i := 0) hX rfl 0 rfl md_M_findQuotients_7 ?_
  refine sp_getR (pc := 8) (ci := 10) (k := 16) (idx := 49) hX mcl_10 (by decide) mq_815 rfl md_M_findQuotients_8 (fun v3 => ?_)
  refine sp_callSV (pc := 11) (y := my_M_clear) (ccy := prog_14_method_15_code) (nLy := 2) (ret := none) (rmy := mr_M_clear) (n := 1) (idx := 107) (As := [.ref v3]) (st := []) (cells' := 0) (slots' := 0) hX (fun _ h => mc_M_clear h) mk_M_clear mq_926 mq_925 ⟨(Nat.le_of_ble_eq_true rfl), (Nat.le_of_ble_eq_true rfl)⟩ rfl rfl (Nat.le_of_ble_eq_true rfl) ⟨(Nat.le_of_ble_eq_true rfl), (Nat.le_of_ble_eq_true rfl)⟩ rfl rfl md_M_findQuotients_11 (fun s4 => ?_)
  refine sp_aload_n (pc := 14) (k := 0) (i := 0) hX rfl 0 rfl md_M_findQuotients_14 ?_
  refine sp_getR (pc := 15) (ci := 10) (k := 15) (idx := 46) hX mcl_10 (by decide) mq_814 rfl md_M_findQuotients_15 (fun v5 => ?_)
  refine sp_iload_n (pc := 18) (k := 2) (i := 2) hX rfl 2 rfl md_M_findQuotients_18 ?_
  refine sp_iconst (pc := 19) hX md_M_findQuotients_19 ?_
  refine sp_iadd (pc := 20) hX md_M_findQuotients_20 ?_
  refine sp_iconst (pc := 21) hX md_M_findQuotients_21 ?_
  refine sp_iastore (pc := 22) hX md_M_findQuotients_22 (fun s6 => ?_)
  refine sp_iconst (pc := 23) hX md_M_findQuotients_23 ?_
  refine sp_istore (pc := 24) (i := 4) (L' := [(4, Value.int (iI (0 : Int))), (0, Value.ref x0), (1, Value.int (iI x1)), (2, Value.int (iI x2)), (3, Value.int (iI x3))]) hX (by decide) rfl md_M_findQuotients_24 ?_
  refine sp_sub [1, 2, 3, 4, 0] (L' := [(0, Value.ref x0), (1, Value.int (iI x1)), (2, Value.int (iI x2)), (3, Value.int (iI x3)), (4, Value.int (iI (0 : Int)))]) rfl ?_
  exact sl_M_findQuotients_26 hX hR 1000 x0 x1 x2 x3 (0 : Int) s6
/-! PadeWorkbenchModel.quotientCount(II)I -/
theorem md_M_quotientCount_0 : decode prog_14_method_64_code 0 = .ok (.aload_n 0, 1) := by decide +kernel
theorem md_M_quotientCount_1 : decode prog_14_method_64_code 1 = .ok (.iload_n 1, 1) := by decide +kernel
theorem md_M_quotientCount_2 : decode prog_14_method_64_code 2 = .ok (.iload_n 2, 1) := by decide +kernel
theorem md_M_quotientCount_3 : decode prog_14_method_64_code 3 = .ok (.invokevirtual 206, 3) := by decide +kernel
theorem md_M_quotientCount_6 : decode prog_14_method_64_code 6 = .ok (.ifCond .eq 13, 3) := by decide +kernel
theorem md_M_quotientCount_19 : decode prog_14_method_64_code 19 = .ok (.aload_n 0, 1) := by decide +kernel
theorem md_M_quotientCount_20 : decode prog_14_method_64_code 20 = .ok (.bipush (-2), 2) := by decide +kernel
theorem md_M_quotientCount_22 : decode prog_14_method_64_code 22 = .ok (.invokevirtual 77, 3) := by decide +kernel
theorem md_M_quotientCount_25 : decode prog_14_method_64_code 25 = .ok (.ireturn, 1) := by decide +kernel
theorem md_M_quotientCount_9 : decode prog_14_method_64_code 9 = .ok (.aload_n 0, 1) := by decide +kernel
theorem md_M_quotientCount_10 : decode prog_14_method_64_code 10 = .ok (.iload_n 1, 1) := by decide +kernel
theorem md_M_quotientCount_11 : decode prog_14_method_64_code 11 = .ok (.iload_n 2, 1) := by decide +kernel
theorem md_M_quotientCount_12 : decode prog_14_method_64_code 12 = .ok (.iconst (-1), 1) := by decide +kernel
theorem md_M_quotientCount_13 : decode prog_14_method_64_code 13 = .ok (.invokevirtual 210, 3) := by decide +kernel
theorem md_M_quotientCount_16 : decode prog_14_method_64_code 16 = .ok (.goto 9, 3) := by decide +kernel
def mf_M_quotientCount (x0 : Nat) (x1 : Int) (x2 : Int) (σ : pw_Sto) : Option (Int × pw_Sto) := pw_gd 10 x0 σ (pw_bd (mf_M_isCut x0 x1 x2 σ) (fun v2 s1 => pw_ck v2 0 (if v2 = 0 then pw_bd (mf_M_fail x0 (-2 : Int) s1) (fun v4 s3 => some (v4, s3)) else pw_bd (mf_M_findQuotients x0 x1 x2 (-1 : Int) s1) (fun v6 s5 => some (v6, s5)))))
set_option maxHeartbeats 4000000 in
set_option maxRecDepth 20000 in
theorem mc_M_quotientCount {l : Launch} {E : pw_E} {σ : pw_Sto} {x0 : Nat} {x1 : Int} {x2 : Int} {out : Int × pw_Sto} (h : mf_M_quotientCount x0 x1 x2 σ = some out) : pw_CI l E my_M_quotientCount prog_14_method_64_code 3 (some .int) mr_M_quotientCount [.ref x0, .int (iI x1), .int (iI x2)] σ out := by
  unfold mf_M_quotientCount at h
  refine pw_entryI (by decide) (Nat.le_of_ble_eq_true rfl) (pw_gd_val h) (fun X hX hR hI => ?_)
  change pw_Ok X prog_14_method_64_code "PadeWorkbenchModel" mr_M_quotientCount 3 at hX
  show pw_Sp X 0 0 0 [(0, Value.ref x0), (1, Value.int (iI x1)), (2, Value.int (iI x2))] [] σ _
  refine sp_aload_n (pc := 0) (k := 0) (i := 0) hX rfl 0 rfl md_M_quotientCount_0 ?_
  refine sp_iload_n (pc := 1) (k := 1) (i := 1) hX rfl 1 rfl md_M_quotientCount_1 ?_
  refine sp_iload_n (pc := 2) (k := 2) (i := 2) hX rfl 2 rfl md_M_quotientCount_2 ?_
  refine sp_callVI (pc := 3) (y := my_M_isCut) (ccy := prog_14_method_62_code) (nLy := 3) (ret := (some .boolean)) (rmy := mr_M_isCut) (n := 2) (idx := 206) (As := [.int (iI x1), .int (iI x2)]) (st := []) (o := x0) (cells' := 0) (slots' := 0) hX (fun _ h => mc_M_isCut h) mk_M_isCut mv_M_isCut mcl_10 (fun _ h => pw_gd_of h) mq_1097 ⟨(Nat.le_of_ble_eq_true rfl), (Nat.le_of_ble_eq_true rfl)⟩ rfl rfl (Nat.le_of_ble_eq_true rfl) ⟨(Nat.le_of_ble_eq_true rfl), (Nat.le_of_ble_eq_true rfl)⟩ rfl rfl md_M_quotientCount_3 (fun v2 s1 => ?_)
  refine sp_if_eq (pc := 6) hX 19 (by decide) md_M_quotientCount_6 (fun _ => ?_) (fun _ => ?_)
  · refine sp_aload_n (pc := 19) (k := 0) (i := 0) hX rfl 0 rfl md_M_quotientCount_19 ?_
    refine sp_bipush (pc := 20) hX (by decide) md_M_quotientCount_20 ?_
    refine sp_callVI (pc := 22) (y := my_M_fail) (ccy := prog_14_method_3_code) (nLy := 2) (ret := (some .int)) (rmy := mr_M_fail) (n := 1) (idx := 77) (As := [.int (iI (-2 : Int))]) (st := []) (o := x0) (cells' := 0) (slots' := 0) hX (fun _ h => mc_M_fail h) mk_M_fail mv_M_fail mcl_10 (fun _ h => pw_gd_of h) mq_870 ⟨(Nat.le_of_ble_eq_true rfl), (Nat.le_of_ble_eq_true rfl)⟩ rfl rfl (Nat.le_of_ble_eq_true rfl) ⟨(Nat.le_of_ble_eq_true rfl), (Nat.le_of_ble_eq_true rfl)⟩ rfl rfl md_M_quotientCount_22 (fun v4 s3 => ?_)
    exact sp_iret (pc := 25) hX hR rfl (Nat.le_of_ble_eq_true rfl) md_M_quotientCount_25
  · refine sp_aload_n (pc := 9) (k := 0) (i := 0) hX rfl 0 rfl md_M_quotientCount_9 ?_
    refine sp_iload_n (pc := 10) (k := 1) (i := 1) hX rfl 1 rfl md_M_quotientCount_10 ?_
    refine sp_iload_n (pc := 11) (k := 2) (i := 2) hX rfl 2 rfl md_M_quotientCount_11 ?_
    refine sp_iconst (pc := 12) hX md_M_quotientCount_12 ?_
    refine sp_callVI (pc := 13) (y := my_M_findQuotients) (ccy := prog_14_method_63_code) (nLy := 5) (ret := (some .int)) (rmy := mr_M_findQuotients) (n := 3) (idx := 210) (As := [.int (iI x1), .int (iI x2), .int (iI (-1 : Int))]) (st := []) (o := x0) (cells' := 0) (slots' := 0) hX (fun _ h => mc_M_findQuotients h) mk_M_findQuotients mv_M_findQuotients mcl_10 (fun _ h => pw_gd_of h) mq_1101 ⟨(Nat.le_of_ble_eq_true rfl), (Nat.le_of_ble_eq_true rfl)⟩ rfl rfl (Nat.le_of_ble_eq_true rfl) ⟨(Nat.le_of_ble_eq_true rfl), (Nat.le_of_ble_eq_true rfl)⟩ rfl rfl md_M_quotientCount_13 (fun v6 s5 => ?_)
    refine sp_goto (pc := 16) hX 25 (by decide) md_M_quotientCount_16 ?_
    exact sp_iret (pc := 25) hX hR rfl (Nat.le_of_ble_eq_true rfl) md_M_quotientCount_25
/-! PadeWorkbenchModel.quotient(IIII)I -/
theorem md_M_quotient_0 : decode prog_14_method_65_code 0 = .ok (.aload_n 0, 1) := by decide +kernel
theorem md_M_quotient_1 : decode prog_14_method_65_code 1 = .ok (.iload_n 1, 1) := by decide +kernel
theorem md_M_quotient_2 : decode prog_14_method_65_code 2 = .ok (.iload_n 2, 1) := by decide +kernel
theorem md_M_quotient_3 : decode prog_14_method_65_code 3 = .ok (.invokevirtual 206, 3) := by decide +kernel
theorem md_M_quotient_6 : decode prog_14_method_65_code 6 = .ok (.ifCond .eq 18, 3) := by decide +kernel
theorem md_M_quotient_24 : decode prog_14_method_65_code 24 = .ok (.aload_n 0, 1) := by decide +kernel
theorem md_M_quotient_25 : decode prog_14_method_65_code 25 = .ok (.bipush (-2), 2) := by decide +kernel
theorem md_M_quotient_27 : decode prog_14_method_65_code 27 = .ok (.invokevirtual 77, 3) := by decide +kernel
theorem md_M_quotient_30 : decode prog_14_method_65_code 30 = .ok (.ireturn, 1) := by decide +kernel
theorem md_M_quotient_9 : decode prog_14_method_65_code 9 = .ok (.iload_n 3, 1) := by decide +kernel
theorem md_M_quotient_10 : decode prog_14_method_65_code 10 = .ok (.ifCond .lt 14, 3) := by decide +kernel
theorem md_M_quotient_13 : decode prog_14_method_65_code 13 = .ok (.iload 4, 2) := by decide +kernel
theorem md_M_quotient_15 : decode prog_14_method_65_code 15 = .ok (.iconst 0, 1) := by decide +kernel
theorem md_M_quotient_16 : decode prog_14_method_65_code 16 = .ok (.bipush 16, 2) := by decide +kernel
theorem md_M_quotient_18 : decode prog_14_method_65_code 18 = .ok (.invokestatic 65, 3) := by decide +kernel
theorem md_M_quotient_21 : decode prog_14_method_65_code 21 = .ok (.ifCond .ne 10, 3) := by decide +kernel
theorem md_M_quotient_31 : decode prog_14_method_65_code 31 = .ok (.iload_n 3, 1) := by decide +kernel
theorem md_M_quotient_32 : decode prog_14_method_65_code 32 = .ok (.aload_n 0, 1) := by decide +kernel
theorem md_M_quotient_33 : decode prog_14_method_65_code 33 = .ok (.iload_n 1, 1) := by decide +kernel
theorem md_M_quotient_34 : decode prog_14_method_65_code 34 = .ok (.iload_n 2, 1) := by decide +kernel
theorem md_M_quotient_35 : decode prog_14_method_65_code 35 = .ok (.iload_n 3, 1) := by decide +kernel
theorem md_M_quotient_36 : decode prog_14_method_65_code 36 = .ok (.invokevirtual 210, 3) := by decide +kernel
theorem md_M_quotient_39 : decode prog_14_method_65_code 39 = .ok (.if_icmp .ge 13, 3) := by decide +kernel
theorem md_M_quotient_52 : decode prog_14_method_65_code 52 = .ok (.iconst (-1), 1) := by decide +kernel
theorem md_M_quotient_53 : decode prog_14_method_65_code 53 = .ok (.ireturn, 1) := by decide +kernel
theorem md_M_quotient_42 : decode prog_14_method_65_code 42 = .ok (.aload_n 0, 1) := by decide +kernel
theorem md_M_quotient_43 : decode prog_14_method_65_code 43 = .ok (.getfield 43, 3) := by decide +kernel
theorem md_M_quotient_46 : decode prog_14_method_65_code 46 = .ok (.iload 4, 2) := by decide +kernel
theorem md_M_quotient_48 : decode prog_14_method_65_code 48 = .ok (.iaload, 1) := by decide +kernel
theorem md_M_quotient_49 : decode prog_14_method_65_code 49 = .ok (.goto 4, 3) := by decide +kernel
def mj_M_quotient_24 (x0 : Nat) (σ : pw_Sto) : Option (Int × pw_Sto) := pw_bd (mf_M_fail x0 (-2 : Int) σ) (fun v4 s3 => some (v4, s3))
def mf_M_quotient (x0 : Nat) (x1 : Int) (x2 : Int) (x3 : Int) (x4 : Int) (σ : pw_Sto) : Option (Int × pw_Sto) := pw_gd 10 x0 σ (pw_bd (mf_M_isCut x0 x1 x2 σ) (fun v2 s1 => pw_ck v2 0 (if v2 = 0 then mj_M_quotient_24 x0 s1 else pw_ck x3 0 (if x3 < 0 then mj_M_quotient_24 x0 s1 else pw_bd (mf_M_in x4 (0 : Int) (16 : Int) s1) (fun v6 s5 => pw_ck v6 0 (if v6 = 0 then mj_M_quotient_24 x0 s5 else pw_bd (mf_M_findQuotients x0 x1 x2 x3 s5) (fun v8 s7 => pw_ck x3 v8 (if v8 ≤ x3 then some ((-1 : Int), s7) else (pw_gr 10 x0 14 s7).bind (fun v9 => (pw_ai v9 x4 s7).bind (fun v10 => some (v10, s7)))))))))))
set_option maxHeartbeats 4000000 in
set_option maxRecDepth 20000 in
theorem sj_M_quotient_24 {X : pw_X Int} (hX : pw_Ok X prog_14_method_65_code "PadeWorkbenchModel" mr_M_quotient 5) (hR : pw_RI X prog_14_method_65_code) (x0 : Nat) (σ : pw_Sto) : pw_Sp X 0 0 24 [(0, Value.ref x0)] [] σ (mj_M_quotient_24 x0 σ) := by
  unfold mj_M_quotient_24
  refine sp_aload_n (pc := 24) (k := 0) (i := 0) hX rfl 0 rfl md_M_quotient_24 ?_
  refine sp_bipush (pc := 25) hX (by decide) md_M_quotient_25 ?_
  refine sp_callVI (pc := 27) (y := my_M_fail) (ccy := prog_14_method_3_code) (nLy := 2) (ret := (some .int)) (rmy := mr_M_fail) (n := 1) (idx := 77) (As := [.int (iI (-2 : Int))]) (st := []) (o := x0) (cells' := 0) (slots' := 0) hX (fun _ h => mc_M_fail h) mk_M_fail mv_M_fail mcl_10 (fun _ h => pw_gd_of h) mq_870 ⟨(Nat.le_of_ble_eq_true rfl), (Nat.le_of_ble_eq_true rfl)⟩ rfl rfl (Nat.le_of_ble_eq_true rfl) ⟨(Nat.le_of_ble_eq_true rfl), (Nat.le_of_ble_eq_true rfl)⟩ rfl rfl md_M_quotient_27 (fun v4 s3 => ?_)
  exact sp_iret (pc := 30) hX hR rfl (Nat.le_of_ble_eq_true rfl) md_M_quotient_30
set_option maxHeartbeats 4000000 in
set_option maxRecDepth 20000 in
theorem mc_M_quotient {l : Launch} {E : pw_E} {σ : pw_Sto} {x0 : Nat} {x1 : Int} {x2 : Int} {x3 : Int} {x4 : Int} {out : Int × pw_Sto} (h : mf_M_quotient x0 x1 x2 x3 x4 σ = some out) : pw_CI l E my_M_quotient prog_14_method_65_code 5 (some .int) mr_M_quotient [.ref x0, .int (iI x1), .int (iI x2), .int (iI x3), .int (iI x4)] σ out := by
  unfold mf_M_quotient at h
  refine pw_entryI (by decide) (Nat.le_of_ble_eq_true rfl) (pw_gd_val h) (fun X hX hR hI => ?_)
  change pw_Ok X prog_14_method_65_code "PadeWorkbenchModel" mr_M_quotient 5 at hX
  show pw_Sp X 0 0 0 [(0, Value.ref x0), (1, Value.int (iI x1)), (2, Value.int (iI x2)), (3, Value.int (iI x3)), (4, Value.int (iI x4))] [] σ _
  refine sp_aload_n (pc := 0) (k := 0) (i := 0) hX rfl 0 rfl md_M_quotient_0 ?_
  refine sp_iload_n (pc := 1) (k := 1) (i := 1) hX rfl 1 rfl md_M_quotient_1 ?_
  refine sp_iload_n (pc := 2) (k := 2) (i := 2) hX rfl 2 rfl md_M_quotient_2 ?_
  refine sp_callVI (pc := 3) (y := my_M_isCut) (ccy := prog_14_method_62_code) (nLy := 3) (ret := (some .boolean)) (rmy := mr_M_isCut) (n := 2) (idx := 206) (As := [.int (iI x1), .int (iI x2)]) (st := []) (o := x0) (cells' := 0) (slots' := 0) hX (fun _ h => mc_M_isCut h) mk_M_isCut mv_M_isCut mcl_10 (fun _ h => pw_gd_of h) mq_1097 ⟨(Nat.le_of_ble_eq_true rfl), (Nat.le_of_ble_eq_true rfl)⟩ rfl rfl (Nat.le_of_ble_eq_true rfl) ⟨(Nat.le_of_ble_eq_true rfl), (Nat.le_of_ble_eq_true rfl)⟩ rfl rfl md_M_quotient_3 (fun v2 s1 => ?_)
  refine sp_if_eq (pc := 6) hX 24 (by decide) md_M_quotient_6 (fun _ => ?_) (fun _ => ?_)
  · refine sp_sub [0] (L' := [(0, Value.ref x0)]) rfl ?_
    exact sj_M_quotient_24 hX hR x0 s1
  · refine sp_iload_n (pc := 9) (k := 3) (i := 3) hX rfl 3 rfl md_M_quotient_9 ?_
    refine sp_if_lt (pc := 10) hX 24 (by decide) md_M_quotient_10 (fun _ => ?_) (fun _ => ?_)
    · refine sp_sub [0] (L' := [(0, Value.ref x0)]) rfl ?_
      exact sj_M_quotient_24 hX hR x0 s1
    · refine sp_iload (pc := 13) (i := 4) hX 4 rfl md_M_quotient_13 ?_
      refine sp_iconst (pc := 15) hX md_M_quotient_15 ?_
      refine sp_bipush (pc := 16) hX (by decide) md_M_quotient_16 ?_
      refine sp_callSI (pc := 18) (y := my_M_in) (ccy := prog_14_method_2_code) (nLy := 3) (ret := (some .boolean)) (rmy := mr_M_in) (n := 3) (idx := 65) (As := [.int (iI x4), .int (iI (0 : Int)), .int (iI (16 : Int))]) (st := []) (cells' := 0) (slots' := 0) hX (fun _ h => mc_M_in h) mk_M_in mq_868 mq_867 ⟨(Nat.le_of_ble_eq_true rfl), (Nat.le_of_ble_eq_true rfl)⟩ rfl rfl (Nat.le_of_ble_eq_true rfl) ⟨(Nat.le_of_ble_eq_true rfl), (Nat.le_of_ble_eq_true rfl)⟩ rfl rfl md_M_quotient_18 (fun v6 s5 => ?_)
      refine sp_if_ne (pc := 21) hX 31 (by decide) md_M_quotient_21 (fun _ => ?_) (fun _ => ?_)
      · refine sp_sub [0] (L' := [(0, Value.ref x0)]) rfl ?_
        exact sj_M_quotient_24 hX hR x0 s5
      · refine sp_iload_n (pc := 31) (k := 3) (i := 3) hX rfl 3 rfl md_M_quotient_31 ?_
        refine sp_aload_n (pc := 32) (k := 0) (i := 0) hX rfl 0 rfl md_M_quotient_32 ?_
        refine sp_iload_n (pc := 33) (k := 1) (i := 1) hX rfl 1 rfl md_M_quotient_33 ?_
        refine sp_iload_n (pc := 34) (k := 2) (i := 2) hX rfl 2 rfl md_M_quotient_34 ?_
        refine sp_iload_n (pc := 35) (k := 3) (i := 3) hX rfl 3 rfl md_M_quotient_35 ?_
        refine sp_callVI (pc := 36) (y := my_M_findQuotients) (ccy := prog_14_method_63_code) (nLy := 5) (ret := (some .int)) (rmy := mr_M_findQuotients) (n := 3) (idx := 210) (As := [.int (iI x1), .int (iI x2), .int (iI x3)]) (st := [.int (iI x3)]) (o := x0) (cells' := 0) (slots' := 0) hX (fun _ h => mc_M_findQuotients h) mk_M_findQuotients mv_M_findQuotients mcl_10 (fun _ h => pw_gd_of h) mq_1101 ⟨(Nat.le_of_ble_eq_true rfl), (Nat.le_of_ble_eq_true rfl)⟩ rfl rfl (Nat.le_of_ble_eq_true rfl) ⟨(Nat.le_of_ble_eq_true rfl), (Nat.le_of_ble_eq_true rfl)⟩ rfl rfl md_M_quotient_36 (fun v8 s7 => ?_)
        refine sp_icmp_ge (pc := 39) hX 52 (by decide) md_M_quotient_39 (fun _ => ?_) (fun _ => ?_)
        · refine sp_iconst (pc := 52) hX md_M_quotient_52 ?_
          exact sp_iret (pc := 53) hX hR rfl (Nat.le_of_ble_eq_true rfl) md_M_quotient_53
        · refine sp_aload_n (pc := 42) (k := 0) (i := 0) hX rfl 0 rfl md_M_quotient_42 ?_
          refine sp_getR (pc := 43) (ci := 10) (k := 14) (idx := 43) hX mcl_10 (by decide) mq_813 rfl md_M_quotient_43 (fun v9 => ?_)
          refine sp_iload (pc := 46) (i := 4) hX 4 rfl md_M_quotient_46 ?_
          refine sp_iaload (pc := 48) hX md_M_quotient_48 (fun v10 => ?_)
          refine sp_goto (pc := 49) hX 53 (by decide) md_M_quotient_49 ?_
          exact sp_iret (pc := 53) hX hR rfl (Nat.le_of_ble_eq_true rfl) md_M_quotient_53
/-! PadeWorkbenchModel.isRecurrent(III)Z -/
theorem md_M_isRecurrent_0 : decode prog_14_method_66_code 0 = .ok (.aload_n 0, 1) := by decide +kernel
theorem md_M_isRecurrent_1 : decode prog_14_method_66_code 1 = .ok (.getfield 31, 3) := by decide +kernel
theorem md_M_isRecurrent_4 : decode prog_14_method_66_code 4 = .ok (.invokestatic 107, 3) := by decide +kernel
theorem md_M_isRecurrent_7 : decode prog_14_method_66_code 7 = .ok (.iload_n 3, 1) := by decide +kernel
theorem md_M_isRecurrent_8 : decode prog_14_method_66_code 8 = .ok (.istore 4, 2) := by decide +kernel
theorem md_M_isRecurrent_10 : decode prog_14_method_66_code 10 = .ok (.iload 4, 2) := by decide +kernel
theorem md_M_isRecurrent_12 : decode prog_14_method_66_code 12 = .ok (.iload_n 2, 1) := by decide +kernel
theorem md_M_isRecurrent_13 : decode prog_14_method_66_code 13 = .ok (.if_icmp .ge 72, 3) := by decide +kernel
theorem md_M_isRecurrent_85 : decode prog_14_method_66_code 85 = .ok (.aload_n 0, 1) := by decide +kernel
theorem md_M_isRecurrent_86 : decode prog_14_method_66_code 86 = .ok (.iload_n 2, 1) := by decide +kernel
theorem md_M_isRecurrent_87 : decode prog_14_method_66_code 87 = .ok (.iload_n 3, 1) := by decide +kernel
theorem md_M_isRecurrent_88 : decode prog_14_method_66_code 88 = .ok (.isub, 1) := by decide +kernel
theorem md_M_isRecurrent_89 : decode prog_14_method_66_code 89 = .ok (.iload_n 3, 1) := by decide +kernel
theorem md_M_isRecurrent_90 : decode prog_14_method_66_code 90 = .ok (.iconst 1, 1) := by decide +kernel
theorem md_M_isRecurrent_91 : decode prog_14_method_66_code 91 = .ok (.iadd, 1) := by decide +kernel
theorem md_M_isRecurrent_92 : decode prog_14_method_66_code 92 = .ok (.invokevirtual 156, 3) := by decide +kernel
theorem md_M_isRecurrent_95 : decode prog_14_method_66_code 95 = .ok (.aload_n 0, 1) := by decide +kernel
theorem md_M_isRecurrent_96 : decode prog_14_method_66_code 96 = .ok (.getfield 34, 3) := by decide +kernel
theorem md_M_isRecurrent_99 : decode prog_14_method_66_code 99 = .ok (.iload_n 3, 1) := by decide +kernel
theorem md_M_isRecurrent_100 : decode prog_14_method_66_code 100 = .ok (.iaload, 1) := by decide +kernel
theorem md_M_isRecurrent_101 : decode prog_14_method_66_code 101 = .ok (.ifCond .ge 7, 3) := by decide +kernel
theorem md_M_isRecurrent_108 : decode prog_14_method_66_code 108 = .ok (.iconst 0, 1) := by decide +kernel
theorem md_M_isRecurrent_109 : decode prog_14_method_66_code 109 = .ok (.ireturn, 1) := by decide +kernel
theorem md_M_isRecurrent_104 : decode prog_14_method_66_code 104 = .ok (.iconst 1, 1) := by decide +kernel
theorem md_M_isRecurrent_105 : decode prog_14_method_66_code 105 = .ok (.goto 4, 3) := by decide +kernel
theorem md_M_isRecurrent_16 : decode prog_14_method_66_code 16 = .ok (.iconst 1, 1) := by decide +kernel
theorem md_M_isRecurrent_17 : decode prog_14_method_66_code 17 = .ok (.istore 5, 2) := by decide +kernel
theorem md_M_isRecurrent_19 : decode prog_14_method_66_code 19 = .ok (.iload 5, 2) := by decide +kernel
theorem md_M_isRecurrent_21 : decode prog_14_method_66_code 21 = .ok (.iload_n 3, 1) := by decide +kernel
theorem md_M_isRecurrent_22 : decode prog_14_method_66_code 22 = .ok (.if_icmp .gt 36, 3) := by decide +kernel
theorem md_M_isRecurrent_58 : decode prog_14_method_66_code 58 = .ok (.aload_n 0, 1) := by decide +kernel
theorem md_M_isRecurrent_59 : decode prog_14_method_66_code 59 = .ok (.getfield 31, 3) := by decide +kernel
theorem md_M_isRecurrent_62 : decode prog_14_method_66_code 62 = .ok (.bipush 18, 2) := by decide +kernel
theorem md_M_isRecurrent_64 : decode prog_14_method_66_code 64 = .ok (.iload 4, 2) := by decide +kernel
theorem md_M_isRecurrent_66 : decode prog_14_method_66_code 66 = .ok (.iload_n 3, 1) := by decide +kernel
theorem md_M_isRecurrent_67 : decode prog_14_method_66_code 67 = .ok (.isub, 1) := by decide +kernel
theorem md_M_isRecurrent_68 : decode prog_14_method_66_code 68 = .ok (.imul, 1) := by decide +kernel
theorem md_M_isRecurrent_69 : decode prog_14_method_66_code 69 = .ok (.iload_n 3, 1) := by decide +kernel
theorem md_M_isRecurrent_70 : decode prog_14_method_66_code 70 = .ok (.iadd, 1) := by decide +kernel
theorem md_M_isRecurrent_71 : decode prog_14_method_66_code 71 = .ok (.aload_n 0, 1) := by decide +kernel
theorem md_M_isRecurrent_72 : decode prog_14_method_66_code 72 = .ok (.iload_n 1, 1) := by decide +kernel
theorem md_M_isRecurrent_73 : decode prog_14_method_66_code 73 = .ok (.iload 4, 2) := by decide +kernel
theorem md_M_isRecurrent_75 : decode prog_14_method_66_code 75 = .ok (.invokevirtual 87, 3) := by decide +kernel
theorem md_M_isRecurrent_78 : decode prog_14_method_66_code 78 = .ok (.iastore, 1) := by decide +kernel
theorem md_M_isRecurrent_79 : decode prog_14_method_66_code 79 = .ok (.iinc 4 1, 3) := by decide +kernel
theorem md_M_isRecurrent_82 : decode prog_14_method_66_code 82 = .ok (.goto (-72), 3) := by decide +kernel
theorem md_M_isRecurrent_25 : decode prog_14_method_66_code 25 = .ok (.aload_n 0, 1) := by decide +kernel
theorem md_M_isRecurrent_26 : decode prog_14_method_66_code 26 = .ok (.getfield 31, 3) := by decide +kernel
theorem md_M_isRecurrent_29 : decode prog_14_method_66_code 29 = .ok (.bipush 18, 2) := by decide +kernel
theorem md_M_isRecurrent_31 : decode prog_14_method_66_code 31 = .ok (.iload 4, 2) := by decide +kernel
theorem md_M_isRecurrent_33 : decode prog_14_method_66_code 33 = .ok (.iload_n 3, 1) := by decide +kernel
theorem md_M_isRecurrent_34 : decode prog_14_method_66_code 34 = .ok (.isub, 1) := by decide +kernel
theorem md_M_isRecurrent_35 : decode prog_14_method_66_code 35 = .ok (.imul, 1) := by decide +kernel
theorem md_M_isRecurrent_36 : decode prog_14_method_66_code 36 = .ok (.iload 5, 2) := by decide +kernel
theorem md_M_isRecurrent_38 : decode prog_14_method_66_code 38 = .ok (.iadd, 1) := by decide +kernel
theorem md_M_isRecurrent_39 : decode prog_14_method_66_code 39 = .ok (.iconst 1, 1) := by decide +kernel
theorem md_M_isRecurrent_40 : decode prog_14_method_66_code 40 = .ok (.isub, 1) := by decide +kernel
theorem md_M_isRecurrent_41 : decode prog_14_method_66_code 41 = .ok (.aload_n 0, 1) := by decide +kernel
theorem md_M_isRecurrent_42 : decode prog_14_method_66_code 42 = .ok (.iload_n 1, 1) := by decide +kernel
theorem md_M_isRecurrent_43 : decode prog_14_method_66_code 43 = .ok (.iload 4, 2) := by decide +kernel
theorem md_M_isRecurrent_45 : decode prog_14_method_66_code 45 = .ok (.iload 5, 2) := by decide +kernel
theorem md_M_isRecurrent_47 : decode prog_14_method_66_code 47 = .ok (.isub, 1) := by decide +kernel
theorem md_M_isRecurrent_48 : decode prog_14_method_66_code 48 = .ok (.invokevirtual 87, 3) := by decide +kernel
theorem md_M_isRecurrent_51 : decode prog_14_method_66_code 51 = .ok (.iastore, 1) := by decide +kernel
theorem md_M_isRecurrent_52 : decode prog_14_method_66_code 52 = .ok (.iinc 5 1, 3) := by decide +kernel
theorem md_M_isRecurrent_55 : decode prog_14_method_66_code 55 = .ok (.goto (-36), 3) := by decide +kernel
def mb_M_isRecurrent_19 (r10 : Nat → Int → Int → Int → Int → pw_Sto → Option (Int × pw_Sto)) (rc : Nat → Int → Int → Int → Int → Int → pw_Sto → Option (Int × pw_Sto)) : Nat → Int → Int → Int → Int → Int → pw_Sto → Option (Int × pw_Sto) := fun x0 x1 x2 x3 x4 x5 σ => pw_ck x5 x3 (if x3 < x5 then (pw_gr 10 x0 10 σ).bind (fun v6 => pw_bd (mf_M_term x0 x1 x4 σ) (fun v8 s7 => (pw_si v6 (((18 : Int) * (x4 - x3)) + x3) v8 s7).bind (fun s9 => r10 x0 x1 x2 x3 (x4 + 1) s9))) else (pw_gr 10 x0 10 σ).bind (fun v10 => pw_bd (mf_M_term x0 x1 (x4 - x5) σ) (fun v12 s11 => (pw_si v10 ((((18 : Int) * (x4 - x3)) + x5) - (1 : Int)) v12 s11).bind (fun s13 => rc x0 x1 x2 x3 x4 (x5 + 1) s13))))
def ml_M_isRecurrent_19 (r10 : Nat → Int → Int → Int → Int → pw_Sto → Option (Int × pw_Sto)) : Nat → Nat → Int → Int → Int → Int → Int → pw_Sto → Option (Int × pw_Sto) := pw_lp (fun _ _ _ _ _ _ _ => none) (mb_M_isRecurrent_19 r10)
def mb_M_isRecurrent_10 (rc : Nat → Int → Int → Int → Int → pw_Sto → Option (Int × pw_Sto)) : Nat → Int → Int → Int → Int → pw_Sto → Option (Int × pw_Sto) := fun x0 x1 x2 x3 x4 σ => pw_ck x4 x2 (if x2 ≤ x4 then pw_bd (mf_M_reduce x0 (x2 - x3) (x3 + (1 : Int)) σ) (fun _ s3 => (pw_gr 10 x0 11 s3).bind (fun v4 => (pw_ai v4 x3 s3).bind (fun v5 => pw_ck v5 0 (if 0 ≤ v5 then some ((0 : Int), s3) else some ((1 : Int), s3))))) else ml_M_isRecurrent_19 rc 1000 x0 x1 x2 x3 x4 (1 : Int) σ)
def ml_M_isRecurrent_10 : Nat → Nat → Int → Int → Int → Int → pw_Sto → Option (Int × pw_Sto) := pw_lp (fun _ _ _ _ _ _ => none) (mb_M_isRecurrent_10)
def mf_M_isRecurrent (x0 : Nat) (x1 : Int) (x2 : Int) (x3 : Int) (σ : pw_Sto) : Option (Int × pw_Sto) := pw_gd 10 x0 σ ((pw_gr 10 x0 10 σ).bind (fun v1 => pw_bd (mf_M_clear v1 σ) (fun _ s2 => ml_M_isRecurrent_10 1000 x0 x1 x2 x3 x3 s2)))
set_option maxHeartbeats 4000000 in
set_option maxRecDepth 20000 in
theorem sl_M_isRecurrent_19 {X : pw_X Int} (hX : pw_Ok X prog_14_method_66_code "PadeWorkbenchModel" mr_M_isRecurrent 6) (hR : pw_RZ X prog_14_method_66_code) {r10 : Nat → Int → Int → Int → Int → pw_Sto → Option (Int × pw_Sto)} (h10 : ∀ (z0 : Nat) (z1 : Int) (z2 : Int) (z3 : Int) (z4 : Int) (σ : pw_Sto), pw_Sp X 0 0 10 [(0, Value.ref z0), (1, Value.int (iI z1)), (2, Value.int (iI z2)), (3, Value.int (iI z3)), (4, Value.int (iI z4))] [] σ (r10 z0 z1 z2 z3 z4 σ)) : ∀ (n : Nat) (x0 : Nat) (x1 : Int) (x2 : Int) (x3 : Int) (x4 : Int) (x5 : Int) (σ : pw_Sto), pw_Sp X 0 0 19 [(0, Value.ref x0), (1, Value.int (iI x1)), (2, Value.int (iI x2)), (3, Value.int (iI x3)), (4, Value.int (iI x4)), (5, Value.int (iI x5))] [] σ (ml_M_isRecurrent_19 r10 n x0 x1 x2 x3 x4 x5 σ) := by
  intro n
  induction n with
  | zero => intros; exact pw_none
  | succ n ih =>
    intro x0 x1 x2 x3 x4 x5 σ
    show pw_Sp X 0 0 19 _ _ σ (mb_M_isRecurrent_19 r10 (ml_M_isRecurrent_19 r10 n) x0 x1 x2 x3 x4 x5 σ)
    unfold mb_M_isRecurrent_19
    refine sp_iload (pc := 19) (i := 5) hX 5 rfl md_M_isRecurrent_19 ?_
    refine sp_iload_n (pc := 21) (k := 3) (i := 3) hX rfl 3 rfl md_M_isRecurrent_21 ?_
    refine sp_icmp_gt (pc := 22) hX 58 (by decide) md_M_isRecurrent_22 (fun _ => ?_) (fun _ => ?_)
    · refine sp_aload_n (pc := 58) (k := 0) (i := 0) hX rfl 0 rfl md_M_isRecurrent_58 ?_
      refine sp_getR (pc := 59) (ci := 10) (k := 10) (idx := 31) hX mcl_10 (by decide) mq_809 rfl md_M_isRecurrent_59 (fun v6 => ?_)
      refine sp_bipush (pc := 62) hX (by decide) md_M_isRecurrent_62 ?_
      refine sp_iload (pc := 64) (i := 4) hX 4 rfl md_M_isRecurrent_64 ?_
      refine sp_iload_n (pc := 66) (k := 3) (i := 3) hX rfl 3 rfl md_M_isRecurrent_66 ?_
      refine sp_isub (pc := 67) hX md_M_isRecurrent_67 ?_
      refine sp_imul (pc := 68) hX md_M_isRecurrent_68 ?_
      refine sp_iload_n (pc := 69) (k := 3) (i := 3) hX rfl 3 rfl md_M_isRecurrent_69 ?_
      refine sp_iadd (pc := 70) hX md_M_isRecurrent_70 ?_
      refine sp_aload_n (pc := 71) (k := 0) (i := 0) hX rfl 0 rfl md_M_isRecurrent_71 ?_
      refine sp_iload_n (pc := 72) (k := 1) (i := 1) hX rfl 1 rfl md_M_isRecurrent_72 ?_
      refine sp_iload (pc := 73) (i := 4) hX 4 rfl md_M_isRecurrent_73 ?_
      refine sp_callVI (pc := 75) (y := my_M_term) (ccy := prog_14_method_9_code) (nLy := 3) (ret := (some .int)) (rmy := mr_M_term) (n := 2) (idx := 87) (As := [.int (iI x1), .int (iI x4)]) (st := [.int (iI (((18 : Int) * (x4 - x3)) + x3)), .ref v6]) (o := x0) (cells' := 0) (slots' := 0) hX (fun _ h => mc_M_term h) mk_M_term mv_M_term mcl_10 (fun _ h => pw_gd_of h) mq_889 ⟨(Nat.le_of_ble_eq_true rfl), (Nat.le_of_ble_eq_true rfl)⟩ rfl rfl (Nat.le_of_ble_eq_true rfl) ⟨(Nat.le_of_ble_eq_true rfl), (Nat.le_of_ble_eq_true rfl)⟩ rfl rfl md_M_isRecurrent_75 (fun v8 s7 => ?_)
      refine sp_iastore (pc := 78) hX md_M_isRecurrent_78 (fun s9 => ?_)
      refine sp_iinc (pc := 79) (i := 4) (L' := [(4, Value.int (iI (x4 + 1))), (0, Value.ref x0), (1, Value.int (iI x1)), (2, Value.int (iI x2)), (3, Value.int (iI x3)), (5, Value.int (iI x5))]) hX 4 rfl (by decide) rfl md_M_isRecurrent_79 ?_
      refine sp_goto (pc := 82) hX 10 (by decide) md_M_isRecurrent_82 ?_
      refine sp_sub [1, 2, 3, 4, 0] (L' := [(0, Value.ref x0), (1, Value.int (iI x1)), (2, Value.int (iI x2)), (3, Value.int (iI x3)), (4, Value.int (iI (x4 + 1)))]) rfl ?_
      exact h10 x0 x1 x2 x3 (x4 + 1) s9
    · refine sp_aload_n (pc := 25) (k := 0) (i := 0) hX rfl 0 rfl md_M_isRecurrent_25 ?_
      refine sp_getR (pc := 26) (ci := 10) (k := 10) (idx := 31) hX mcl_10 (by decide) mq_809 rfl md_M_isRecurrent_26 (fun v10 => ?_)
      refine sp_bipush (pc := 29) hX (by decide) md_M_isRecurrent_29 ?_
      refine sp_iload (pc := 31) (i := 4) hX 4 rfl md_M_isRecurrent_31 ?_
      refine sp_iload_n (pc := 33) (k := 3) (i := 3) hX rfl 3 rfl md_M_isRecurrent_33 ?_
      refine sp_isub (pc := 34) hX md_M_isRecurrent_34 ?_
      refine sp_imul (pc := 35) hX md_M_isRecurrent_35 ?_
      refine sp_iload (pc := 36) (i := 5) hX 5 rfl md_M_isRecurrent_36 ?_
      refine sp_iadd (pc := 38) hX md_M_isRecurrent_38 ?_
      refine sp_iconst (pc := 39) hX md_M_isRecurrent_39 ?_
      refine sp_isub (pc := 40) hX md_M_isRecurrent_40 ?_
      refine sp_aload_n (pc := 41) (k := 0) (i := 0) hX rfl 0 rfl md_M_isRecurrent_41 ?_
      refine sp_iload_n (pc := 42) (k := 1) (i := 1) hX rfl 1 rfl md_M_isRecurrent_42 ?_
      refine sp_iload (pc := 43) (i := 4) hX 4 rfl md_M_isRecurrent_43 ?_
      refine sp_iload (pc := 45) (i := 5) hX 5 rfl md_M_isRecurrent_45 ?_
      refine sp_isub (pc := 47) hX md_M_isRecurrent_47 ?_
      refine sp_callVI (pc := 48) (y := my_M_term) (ccy := prog_14_method_9_code) (nLy := 3) (ret := (some .int)) (rmy := mr_M_term) (n := 2) (idx := 87) (As := [.int (iI x1), .int (iI (x4 - x5))]) (st := [.int (iI ((((18 : Int) * (x4 - x3)) + x5) - (1 : Int))), .ref v10]) (o := x0) (cells' := 0) (slots' := 0) hX (fun _ h => mc_M_term h) mk_M_term mv_M_term mcl_10 (fun _ h => pw_gd_of h) mq_889 ⟨(Nat.le_of_ble_eq_true rfl), (Nat.le_of_ble_eq_true rfl)⟩ rfl rfl (Nat.le_of_ble_eq_true rfl) ⟨(Nat.le_of_ble_eq_true rfl), (Nat.le_of_ble_eq_true rfl)⟩ rfl rfl md_M_isRecurrent_48 (fun v12 s11 => ?_)
      refine sp_iastore (pc := 51) hX md_M_isRecurrent_51 (fun s13 => ?_)
      refine sp_iinc (pc := 52) (i := 5) (L' := [(5, Value.int (iI (x5 + 1))), (0, Value.ref x0), (1, Value.int (iI x1)), (2, Value.int (iI x2)), (3, Value.int (iI x3)), (4, Value.int (iI x4))]) hX 5 rfl (by decide) rfl md_M_isRecurrent_52 ?_
      refine sp_goto (pc := 55) hX 19 (by decide) md_M_isRecurrent_55 ?_
      refine sp_sub [1, 2, 3, 4, 5, 0] (L' := [(0, Value.ref x0), (1, Value.int (iI x1)), (2, Value.int (iI x2)), (3, Value.int (iI x3)), (4, Value.int (iI x4)), (5, Value.int (iI (x5 + 1)))]) rfl ?_
      exact ih x0 x1 x2 x3 x4 (x5 + 1) s13
set_option maxHeartbeats 4000000 in
set_option maxRecDepth 20000 in
theorem sl_M_isRecurrent_10 {X : pw_X Int} (hX : pw_Ok X prog_14_method_66_code "PadeWorkbenchModel" mr_M_isRecurrent 6) (hR : pw_RZ X prog_14_method_66_code) : ∀ (n : Nat) (x0 : Nat) (x1 : Int) (x2 : Int) (x3 : Int) (x4 : Int) (σ : pw_Sto), pw_Sp X 0 0 10 [(0, Value.ref x0), (1, Value.int (iI x1)), (2, Value.int (iI x2)), (3, Value.int (iI x3)), (4, Value.int (iI x4))] [] σ (ml_M_isRecurrent_10 n x0 x1 x2 x3 x4 σ) := by
  intro n
  induction n with
  | zero => intros; exact pw_none
  | succ n ih =>
    intro x0 x1 x2 x3 x4 σ
    show pw_Sp X 0 0 10 _ _ σ (mb_M_isRecurrent_10 (ml_M_isRecurrent_10 n) x0 x1 x2 x3 x4 σ)
    unfold mb_M_isRecurrent_10
    refine sp_iload (pc := 10) (i := 4) hX 4 rfl md_M_isRecurrent_10 ?_
    refine sp_iload_n (pc := 12) (k := 2) (i := 2) hX rfl 2 rfl md_M_isRecurrent_12 ?_
    refine sp_icmp_ge (pc := 13) hX 85 (by decide) md_M_isRecurrent_13 (fun _ => ?_) (fun _ => ?_)
    · refine sp_aload_n (pc := 85) (k := 0) (i := 0) hX rfl 0 rfl md_M_isRecurrent_85 ?_
      refine sp_iload_n (pc := 86) (k := 2) (i := 2) hX rfl 2 rfl md_M_isRecurrent_86 ?_
      refine sp_iload_n (pc := 87) (k := 3) (i := 3) hX rfl 3 rfl md_M_isRecurrent_87 ?_
      refine sp_isub (pc := 88) hX md_M_isRecurrent_88 ?_
      refine sp_iload_n (pc := 89) (k := 3) (i := 3) hX rfl 3 rfl md_M_isRecurrent_89 ?_
      refine sp_iconst (pc := 90) hX md_M_isRecurrent_90 ?_
      refine sp_iadd (pc := 91) hX md_M_isRecurrent_91 ?_
      refine sp_callVV (pc := 92) (y := my_M_reduce) (ccy := prog_14_method_37_code) (nLy := 8) (ret := none) (rmy := mr_M_reduce) (n := 2) (idx := 156) (As := [.int (iI (x2 - x3)), .int (iI (x3 + (1 : Int)))]) (st := []) (o := x0) (cells' := 0) (slots' := 0) hX (fun _ h => mc_M_reduce h) mk_M_reduce mv_M_reduce mcl_10 (fun _ h => pw_gd_of h) mq_1000 ⟨(Nat.le_of_ble_eq_true rfl), (Nat.le_of_ble_eq_true rfl)⟩ rfl rfl (Nat.le_of_ble_eq_true rfl) ⟨(Nat.le_of_ble_eq_true rfl), (Nat.le_of_ble_eq_true rfl)⟩ rfl rfl md_M_isRecurrent_92 (fun s3 => ?_)
      refine sp_aload_n (pc := 95) (k := 0) (i := 0) hX rfl 0 rfl md_M_isRecurrent_95 ?_
      refine sp_getR (pc := 96) (ci := 10) (k := 11) (idx := 34) hX mcl_10 (by decide) mq_810 rfl md_M_isRecurrent_96 (fun v4 => ?_)
      refine sp_iload_n (pc := 99) (k := 3) (i := 3) hX rfl 3 rfl md_M_isRecurrent_99 ?_
      refine sp_iaload (pc := 100) hX md_M_isRecurrent_100 (fun v5 => ?_)
      refine sp_if_ge (pc := 101) hX 108 (by decide) md_M_isRecurrent_101 (fun _ => ?_) (fun _ => ?_)
      · refine sp_iconst (pc := 108) hX md_M_isRecurrent_108 ?_
        exact sp_zret (pc := 109) hX hR (by decide) rfl (Nat.le_of_ble_eq_true rfl) md_M_isRecurrent_109
      · refine sp_iconst (pc := 104) hX md_M_isRecurrent_104 ?_
        refine sp_goto (pc := 105) hX 109 (by decide) md_M_isRecurrent_105 ?_
        exact sp_zret (pc := 109) hX hR (by decide) rfl (Nat.le_of_ble_eq_true rfl) md_M_isRecurrent_109
    · refine sp_iconst (pc := 16) hX md_M_isRecurrent_16 ?_
      refine sp_istore (pc := 17) (i := 5) (L' := [(5, Value.int (iI (1 : Int))), (0, Value.ref x0), (1, Value.int (iI x1)), (2, Value.int (iI x2)), (3, Value.int (iI x3)), (4, Value.int (iI x4))]) hX (by decide) rfl md_M_isRecurrent_17 ?_
      refine sp_sub [1, 2, 3, 4, 5, 0] (L' := [(0, Value.ref x0), (1, Value.int (iI x1)), (2, Value.int (iI x2)), (3, Value.int (iI x3)), (4, Value.int (iI x4)), (5, Value.int (iI (1 : Int)))]) rfl ?_
      exact sl_M_isRecurrent_19 hX hR ih 1000 x0 x1 x2 x3 x4 (1 : Int) σ
set_option maxHeartbeats 4000000 in
set_option maxRecDepth 20000 in
theorem mc_M_isRecurrent {l : Launch} {E : pw_E} {σ : pw_Sto} {x0 : Nat} {x1 : Int} {x2 : Int} {x3 : Int} {out : Int × pw_Sto} (h : mf_M_isRecurrent x0 x1 x2 x3 σ = some out) : pw_CI l E my_M_isRecurrent prog_14_method_66_code 6 (some .boolean) mr_M_isRecurrent [.ref x0, .int (iI x1), .int (iI x2), .int (iI x3)] σ out := by
  unfold mf_M_isRecurrent at h
  refine pw_entryZ (by decide) (Nat.le_of_ble_eq_true rfl) (pw_gd_val h) (fun X hX hR hI => ?_)
  change pw_Ok X prog_14_method_66_code "PadeWorkbenchModel" mr_M_isRecurrent 6 at hX
  show pw_Sp X 0 0 0 [(0, Value.ref x0), (1, Value.int (iI x1)), (2, Value.int (iI x2)), (3, Value.int (iI x3))] [] σ _
  refine sp_aload_n (pc := 0) (k := 0) (i := 0) hX rfl 0 rfl md_M_isRecurrent_0 ?_
  refine sp_getR (pc := 1) (ci := 10) (k := 10) (idx := 31) hX mcl_10 (by decide) mq_809 rfl md_M_isRecurrent_1 (fun v1 => ?_)
  refine sp_callSV (pc := 4) (y := my_M_clear) (ccy := prog_14_method_15_code) (nLy := 2) (ret := none) (rmy := mr_M_clear) (n := 1) (idx := 107) (As := [.ref v1]) (st := []) (cells' := 0) (slots' := 0) hX (fun _ h => mc_M_clear h) mk_M_clear mq_926 mq_925 ⟨(Nat.le_of_ble_eq_true rfl), (Nat.le_of_ble_eq_true rfl)⟩ rfl rfl (Nat.le_of_ble_eq_true rfl) ⟨(Nat.le_of_ble_eq_true rfl), (Nat.le_of_ble_eq_true rfl)⟩ rfl rfl md_M_isRecurrent_4 (fun s2 => ?_)
  refine sp_iload_n (pc := 7) (k := 3) (i := 3) hX rfl 3 rfl md_M_isRecurrent_7 ?_
  refine sp_istore (pc := 8) (i := 4) (L' := [(4, Value.int (iI x3)), (0, Value.ref x0), (1, Value.int (iI x1)), (2, Value.int (iI x2)), (3, Value.int (iI x3))]) hX (by decide) rfl md_M_isRecurrent_8 ?_
  refine sp_sub [1, 2, 3, 4, 0] (L' := [(0, Value.ref x0), (1, Value.int (iI x1)), (2, Value.int (iI x2)), (3, Value.int (iI x3)), (4, Value.int (iI x3))]) rfl ?_
  exact sl_M_isRecurrent_10 hX hR 1000 x0 x1 x2 x3 x3 s2
/-! PadeWorkbenchModel.complexityOf(II)I -/
theorem md_M_complexityOf_0 : decode prog_14_method_67_code 0 = .ok (.iconst 0, 1) := by decide +kernel
theorem md_M_complexityOf_1 : decode prog_14_method_67_code 1 = .ok (.istore_n 3, 1) := by decide +kernel
theorem md_M_complexityOf_2 : decode prog_14_method_67_code 2 = .ok (.aload_n 0, 1) := by decide +kernel
theorem md_M_complexityOf_3 : decode prog_14_method_67_code 3 = .ok (.iload_n 1, 1) := by decide +kernel
theorem md_M_complexityOf_4 : decode prog_14_method_67_code 4 = .ok (.iload_n 2, 1) := by decide +kernel
theorem md_M_complexityOf_5 : decode prog_14_method_67_code 5 = .ok (.iload_n 3, 1) := by decide +kernel
theorem md_M_complexityOf_6 : decode prog_14_method_67_code 6 = .ok (.invokevirtual 213, 3) := by decide +kernel
theorem md_M_complexityOf_9 : decode prog_14_method_67_code 9 = .ok (.ifCond .ne 9, 3) := by decide +kernel
theorem md_M_complexityOf_18 : decode prog_14_method_67_code 18 = .ok (.iload_n 3, 1) := by decide +kernel
theorem md_M_complexityOf_19 : decode prog_14_method_67_code 19 = .ok (.ireturn, 1) := by decide +kernel
theorem md_M_complexityOf_12 : decode prog_14_method_67_code 12 = .ok (.iinc 3 1, 3) := by decide +kernel
theorem md_M_complexityOf_15 : decode prog_14_method_67_code 15 = .ok (.goto (-13), 3) := by decide +kernel
def mb_M_complexityOf_2 (rc : Nat → Int → Int → Int → pw_Sto → Option (Int × pw_Sto)) : Nat → Int → Int → Int → pw_Sto → Option (Int × pw_Sto) := fun x0 x1 x2 x3 σ => pw_bd (mf_M_isRecurrent x0 x1 x2 x3 σ) (fun v2 s1 => pw_ck v2 0 (if v2 = 0 then rc x0 x1 x2 (x3 + 1) s1 else some (x3, s1)))
def ml_M_complexityOf_2 : Nat → Nat → Int → Int → Int → pw_Sto → Option (Int × pw_Sto) := pw_lp (fun _ _ _ _ _ => none) (mb_M_complexityOf_2)
def mf_M_complexityOf (x0 : Nat) (x1 : Int) (x2 : Int) (σ : pw_Sto) : Option (Int × pw_Sto) := pw_gd 10 x0 σ (ml_M_complexityOf_2 1000 x0 x1 x2 (0 : Int) σ)
set_option maxHeartbeats 4000000 in
set_option maxRecDepth 20000 in
theorem sl_M_complexityOf_2 {X : pw_X Int} (hX : pw_Ok X prog_14_method_67_code "PadeWorkbenchModel" mr_M_complexityOf 4) (hR : pw_RI X prog_14_method_67_code) : ∀ (n : Nat) (x0 : Nat) (x1 : Int) (x2 : Int) (x3 : Int) (σ : pw_Sto), pw_Sp X 0 0 2 [(0, Value.ref x0), (1, Value.int (iI x1)), (2, Value.int (iI x2)), (3, Value.int (iI x3))] [] σ (ml_M_complexityOf_2 n x0 x1 x2 x3 σ) := by
  intro n
  induction n with
  | zero => intros; exact pw_none
  | succ n ih =>
    intro x0 x1 x2 x3 σ
    show pw_Sp X 0 0 2 _ _ σ (mb_M_complexityOf_2 (ml_M_complexityOf_2 n) x0 x1 x2 x3 σ)
    unfold mb_M_complexityOf_2
    refine sp_aload_n (pc := 2) (k := 0) (i := 0) hX rfl 0 rfl md_M_complexityOf_2 ?_
    refine sp_iload_n (pc := 3) (k := 1) (i := 1) hX rfl 1 rfl md_M_complexityOf_3 ?_
    refine sp_iload_n (pc := 4) (k := 2) (i := 2) hX rfl 2 rfl md_M_complexityOf_4 ?_
    refine sp_iload_n (pc := 5) (k := 3) (i := 3) hX rfl 3 rfl md_M_complexityOf_5 ?_
    refine sp_callVI (pc := 6) (y := my_M_isRecurrent) (ccy := prog_14_method_66_code) (nLy := 6) (ret := (some .boolean)) (rmy := mr_M_isRecurrent) (n := 3) (idx := 213) (As := [.int (iI x1), .int (iI x2), .int (iI x3)]) (st := []) (o := x0) (cells' := 0) (slots' := 0) hX (fun _ h => mc_M_isRecurrent h) mk_M_isRecurrent mv_M_isRecurrent mcl_10 (fun _ h => pw_gd_of h) mq_1117 ⟨(Nat.le_of_ble_eq_true rfl), (Nat.le_of_ble_eq_true rfl)⟩ rfl rfl (Nat.le_of_ble_eq_true rfl) ⟨(Nat.le_of_ble_eq_true rfl), (Nat.le_of_ble_eq_true rfl)⟩ rfl rfl md_M_complexityOf_6 (fun v2 s1 => ?_)
    refine sp_if_ne (pc := 9) hX 18 (by decide) md_M_complexityOf_9 (fun _ => ?_) (fun _ => ?_)
    · refine sp_iinc (pc := 12) (i := 3) (L' := [(3, Value.int (iI (x3 + 1))), (0, Value.ref x0), (1, Value.int (iI x1)), (2, Value.int (iI x2))]) hX 3 rfl (by decide) rfl md_M_complexityOf_12 ?_
      refine sp_goto (pc := 15) hX 2 (by decide) md_M_complexityOf_15 ?_
      refine sp_sub [1, 2, 3, 0] (L' := [(0, Value.ref x0), (1, Value.int (iI x1)), (2, Value.int (iI x2)), (3, Value.int (iI (x3 + 1)))]) rfl ?_
      exact ih x0 x1 x2 (x3 + 1) s1
    · refine sp_iload_n (pc := 18) (k := 3) (i := 3) hX rfl 3 rfl md_M_complexityOf_18 ?_
      exact sp_iret (pc := 19) hX hR rfl (Nat.le_of_ble_eq_true rfl) md_M_complexityOf_19
set_option maxHeartbeats 4000000 in
set_option maxRecDepth 20000 in
theorem mc_M_complexityOf {l : Launch} {E : pw_E} {σ : pw_Sto} {x0 : Nat} {x1 : Int} {x2 : Int} {out : Int × pw_Sto} (h : mf_M_complexityOf x0 x1 x2 σ = some out) : pw_CI l E my_M_complexityOf prog_14_method_67_code 4 (some .int) mr_M_complexityOf [.ref x0, .int (iI x1), .int (iI x2)] σ out := by
  unfold mf_M_complexityOf at h
  refine pw_entryI (by decide) (Nat.le_of_ble_eq_true rfl) (pw_gd_val h) (fun X hX hR hI => ?_)
  change pw_Ok X prog_14_method_67_code "PadeWorkbenchModel" mr_M_complexityOf 4 at hX
  show pw_Sp X 0 0 0 [(0, Value.ref x0), (1, Value.int (iI x1)), (2, Value.int (iI x2))] [] σ _
  refine sp_iconst (pc := 0) hX md_M_complexityOf_0 ?_
  refine sp_istore_n (pc := 1) (k := 3) (i := 3) (L' := [(3, Value.int (iI (0 : Int))), (0, Value.ref x0), (1, Value.int (iI x1)), (2, Value.int (iI x2))]) hX rfl (by decide) rfl md_M_complexityOf_1 ?_
  refine sp_sub [1, 2, 3, 0] (L' := [(0, Value.ref x0), (1, Value.int (iI x1)), (2, Value.int (iI x2)), (3, Value.int (iI (0 : Int)))]) rfl ?_
  exact sl_M_complexityOf_2 hX hR 1000 x0 x1 x2 (0 : Int) σ
/-! PadeWorkbenchModel.complexity(II)I -/
theorem md_M_complexity_0 : decode prog_14_method_68_code 0 = .ok (.iload_n 1, 1) := by decide +kernel
theorem md_M_complexity_1 : decode prog_14_method_68_code 1 = .ok (.invokestatic 84, 3) := by decide +kernel
theorem md_M_complexity_4 : decode prog_14_method_68_code 4 = .ok (.ifCond .eq 22, 3) := by decide +kernel
theorem md_M_complexity_26 : decode prog_14_method_68_code 26 = .ok (.aload_n 0, 1) := by decide +kernel
theorem md_M_complexity_27 : decode prog_14_method_68_code 27 = .ok (.bipush (-2), 2) := by decide +kernel
theorem md_M_complexity_29 : decode prog_14_method_68_code 29 = .ok (.invokevirtual 77, 3) := by decide +kernel
theorem md_M_complexity_32 : decode prog_14_method_68_code 32 = .ok (.ireturn, 1) := by decide +kernel
theorem md_M_complexity_7 : decode prog_14_method_68_code 7 = .ok (.iload_n 2, 1) := by decide +kernel
theorem md_M_complexity_8 : decode prog_14_method_68_code 8 = .ok (.iconst 1, 1) := by decide +kernel
theorem md_M_complexity_9 : decode prog_14_method_68_code 9 = .ok (.bipush 16, 2) := by decide +kernel
theorem md_M_complexity_11 : decode prog_14_method_68_code 11 = .ok (.invokestatic 65, 3) := by decide +kernel
theorem md_M_complexity_14 : decode prog_14_method_68_code 14 = .ok (.ifCond .eq 12, 3) := by decide +kernel
theorem md_M_complexity_17 : decode prog_14_method_68_code 17 = .ok (.aload_n 0, 1) := by decide +kernel
theorem md_M_complexity_18 : decode prog_14_method_68_code 18 = .ok (.iload_n 1, 1) := by decide +kernel
theorem md_M_complexity_19 : decode prog_14_method_68_code 19 = .ok (.iload_n 2, 1) := by decide +kernel
theorem md_M_complexity_20 : decode prog_14_method_68_code 20 = .ok (.invokevirtual 216, 3) := by decide +kernel
theorem md_M_complexity_23 : decode prog_14_method_68_code 23 = .ok (.goto 9, 3) := by decide +kernel
def mj_M_complexity_26 (x0 : Nat) (σ : pw_Sto) : Option (Int × pw_Sto) := pw_bd (mf_M_fail x0 (-2 : Int) σ) (fun v4 s3 => some (v4, s3))
def mf_M_complexity (x0 : Nat) (x1 : Int) (x2 : Int) (σ : pw_Sto) : Option (Int × pw_Sto) := pw_gd 10 x0 σ (pw_bd (mf_M_isSlot x1 σ) (fun v2 s1 => pw_ck v2 0 (if v2 = 0 then mj_M_complexity_26 x0 s1 else pw_bd (mf_M_in x2 (1 : Int) (16 : Int) s1) (fun v6 s5 => pw_ck v6 0 (if v6 = 0 then mj_M_complexity_26 x0 s5 else pw_bd (mf_M_complexityOf x0 x1 x2 s5) (fun v8 s7 => some (v8, s7)))))))
set_option maxHeartbeats 4000000 in
set_option maxRecDepth 20000 in
theorem sj_M_complexity_26 {X : pw_X Int} (hX : pw_Ok X prog_14_method_68_code "PadeWorkbenchModel" mr_M_complexity 3) (hR : pw_RI X prog_14_method_68_code) (x0 : Nat) (σ : pw_Sto) : pw_Sp X 0 0 26 [(0, Value.ref x0)] [] σ (mj_M_complexity_26 x0 σ) := by
  unfold mj_M_complexity_26
  refine sp_aload_n (pc := 26) (k := 0) (i := 0) hX rfl 0 rfl md_M_complexity_26 ?_
  refine sp_bipush (pc := 27) hX (by decide) md_M_complexity_27 ?_
  refine sp_callVI (pc := 29) (y := my_M_fail) (ccy := prog_14_method_3_code) (nLy := 2) (ret := (some .int)) (rmy := mr_M_fail) (n := 1) (idx := 77) (As := [.int (iI (-2 : Int))]) (st := []) (o := x0) (cells' := 0) (slots' := 0) hX (fun _ h => mc_M_fail h) mk_M_fail mv_M_fail mcl_10 (fun _ h => pw_gd_of h) mq_870 ⟨(Nat.le_of_ble_eq_true rfl), (Nat.le_of_ble_eq_true rfl)⟩ rfl rfl (Nat.le_of_ble_eq_true rfl) ⟨(Nat.le_of_ble_eq_true rfl), (Nat.le_of_ble_eq_true rfl)⟩ rfl rfl md_M_complexity_29 (fun v4 s3 => ?_)
  exact sp_iret (pc := 32) hX hR rfl (Nat.le_of_ble_eq_true rfl) md_M_complexity_32
set_option maxHeartbeats 4000000 in
set_option maxRecDepth 20000 in
theorem mc_M_complexity {l : Launch} {E : pw_E} {σ : pw_Sto} {x0 : Nat} {x1 : Int} {x2 : Int} {out : Int × pw_Sto} (h : mf_M_complexity x0 x1 x2 σ = some out) : pw_CI l E my_M_complexity prog_14_method_68_code 3 (some .int) mr_M_complexity [.ref x0, .int (iI x1), .int (iI x2)] σ out := by
  unfold mf_M_complexity at h
  refine pw_entryI (by decide) (Nat.le_of_ble_eq_true rfl) (pw_gd_val h) (fun X hX hR hI => ?_)
  change pw_Ok X prog_14_method_68_code "PadeWorkbenchModel" mr_M_complexity 3 at hX
  show pw_Sp X 0 0 0 [(0, Value.ref x0), (1, Value.int (iI x1)), (2, Value.int (iI x2))] [] σ _
  refine sp_iload_n (pc := 0) (k := 1) (i := 1) hX rfl 1 rfl md_M_complexity_0 ?_
  refine sp_callSI (pc := 1) (y := my_M_isSlot) (ccy := prog_14_method_8_code) (nLy := 1) (ret := (some .boolean)) (rmy := mr_M_isSlot) (n := 1) (idx := 84) (As := [.int (iI x1)]) (st := []) (cells' := 0) (slots' := 0) hX (fun _ h => mc_M_isSlot h) mk_M_isSlot mq_887 mq_886 ⟨(Nat.le_of_ble_eq_true rfl), (Nat.le_of_ble_eq_true rfl)⟩ rfl rfl (Nat.le_of_ble_eq_true rfl) ⟨(Nat.le_of_ble_eq_true rfl), (Nat.le_of_ble_eq_true rfl)⟩ rfl rfl md_M_complexity_1 (fun v2 s1 => ?_)
  refine sp_if_eq (pc := 4) hX 26 (by decide) md_M_complexity_4 (fun _ => ?_) (fun _ => ?_)
  · refine sp_sub [0] (L' := [(0, Value.ref x0)]) rfl ?_
    exact sj_M_complexity_26 hX hR x0 s1
  · refine sp_iload_n (pc := 7) (k := 2) (i := 2) hX rfl 2 rfl md_M_complexity_7 ?_
    refine sp_iconst (pc := 8) hX md_M_complexity_8 ?_
    refine sp_bipush (pc := 9) hX (by decide) md_M_complexity_9 ?_
    refine sp_callSI (pc := 11) (y := my_M_in) (ccy := prog_14_method_2_code) (nLy := 3) (ret := (some .boolean)) (rmy := mr_M_in) (n := 3) (idx := 65) (As := [.int (iI x2), .int (iI (1 : Int)), .int (iI (16 : Int))]) (st := []) (cells' := 0) (slots' := 0) hX (fun _ h => mc_M_in h) mk_M_in mq_868 mq_867 ⟨(Nat.le_of_ble_eq_true rfl), (Nat.le_of_ble_eq_true rfl)⟩ rfl rfl (Nat.le_of_ble_eq_true rfl) ⟨(Nat.le_of_ble_eq_true rfl), (Nat.le_of_ble_eq_true rfl)⟩ rfl rfl md_M_complexity_11 (fun v6 s5 => ?_)
    refine sp_if_eq (pc := 14) hX 26 (by decide) md_M_complexity_14 (fun _ => ?_) (fun _ => ?_)
    · refine sp_sub [0] (L' := [(0, Value.ref x0)]) rfl ?_
      exact sj_M_complexity_26 hX hR x0 s5
    · refine sp_aload_n (pc := 17) (k := 0) (i := 0) hX rfl 0 rfl md_M_complexity_17 ?_
      refine sp_iload_n (pc := 18) (k := 1) (i := 1) hX rfl 1 rfl md_M_complexity_18 ?_
      refine sp_iload_n (pc := 19) (k := 2) (i := 2) hX rfl 2 rfl md_M_complexity_19 ?_
      refine sp_callVI (pc := 20) (y := my_M_complexityOf) (ccy := prog_14_method_67_code) (nLy := 4) (ret := (some .int)) (rmy := mr_M_complexityOf) (n := 2) (idx := 216) (As := [.int (iI x1), .int (iI x2)]) (st := []) (o := x0) (cells' := 0) (slots' := 0) hX (fun _ h => mc_M_complexityOf h) mk_M_complexityOf mv_M_complexityOf mcl_10 (fun _ h => pw_gd_of h) mq_1113 ⟨(Nat.le_of_ble_eq_true rfl), (Nat.le_of_ble_eq_true rfl)⟩ rfl rfl (Nat.le_of_ble_eq_true rfl) ⟨(Nat.le_of_ble_eq_true rfl), (Nat.le_of_ble_eq_true rfl)⟩ rfl rfl md_M_complexity_20 (fun v8 s7 => ?_)
      refine sp_goto (pc := 23) hX 32 (by decide) md_M_complexity_23 ?_
      exact sp_iret (pc := 32) hX hR rfl (Nat.le_of_ble_eq_true rfl) md_M_complexity_32
/-! PadeWorkbenchModel.recurrence(III)I -/
theorem md_M_recurrence_0 : decode prog_14_method_69_code 0 = .ok (.iload_n 1, 1) := by decide +kernel
theorem md_M_recurrence_1 : decode prog_14_method_69_code 1 = .ok (.invokestatic 84, 3) := by decide +kernel
theorem md_M_recurrence_4 : decode prog_14_method_69_code 4 = .ok (.ifCond .eq 18, 3) := by decide +kernel
theorem md_M_recurrence_22 : decode prog_14_method_69_code 22 = .ok (.aload_n 0, 1) := by decide +kernel
theorem md_M_recurrence_23 : decode prog_14_method_69_code 23 = .ok (.bipush (-2), 2) := by decide +kernel
theorem md_M_recurrence_25 : decode prog_14_method_69_code 25 = .ok (.invokevirtual 77, 3) := by decide +kernel
theorem md_M_recurrence_28 : decode prog_14_method_69_code 28 = .ok (.ireturn, 1) := by decide +kernel
theorem md_M_recurrence_7 : decode prog_14_method_69_code 7 = .ok (.iload_n 2, 1) := by decide +kernel
theorem md_M_recurrence_8 : decode prog_14_method_69_code 8 = .ok (.iconst 1, 1) := by decide +kernel
theorem md_M_recurrence_9 : decode prog_14_method_69_code 9 = .ok (.bipush 16, 2) := by decide +kernel
theorem md_M_recurrence_11 : decode prog_14_method_69_code 11 = .ok (.invokestatic 65, 3) := by decide +kernel
theorem md_M_recurrence_14 : decode prog_14_method_69_code 14 = .ok (.ifCond .eq 8, 3) := by decide +kernel
theorem md_M_recurrence_17 : decode prog_14_method_69_code 17 = .ok (.iload_n 3, 1) := by decide +kernel
theorem md_M_recurrence_18 : decode prog_14_method_69_code 18 = .ok (.iconst 1, 1) := by decide +kernel
theorem md_M_recurrence_19 : decode prog_14_method_69_code 19 = .ok (.if_icmp .ge 10, 3) := by decide +kernel
theorem md_M_recurrence_29 : decode prog_14_method_69_code 29 = .ok (.aload_n 0, 1) := by decide +kernel
theorem md_M_recurrence_30 : decode prog_14_method_69_code 30 = .ok (.iload_n 1, 1) := by decide +kernel
theorem md_M_recurrence_31 : decode prog_14_method_69_code 31 = .ok (.iload_n 2, 1) := by decide +kernel
theorem md_M_recurrence_32 : decode prog_14_method_69_code 32 = .ok (.invokevirtual 216, 3) := by decide +kernel
theorem md_M_recurrence_35 : decode prog_14_method_69_code 35 = .ok (.istore 4, 2) := by decide +kernel
theorem md_M_recurrence_37 : decode prog_14_method_69_code 37 = .ok (.iconst 2, 1) := by decide +kernel
theorem md_M_recurrence_38 : decode prog_14_method_69_code 38 = .ok (.iload 4, 2) := by decide +kernel
theorem md_M_recurrence_40 : decode prog_14_method_69_code 40 = .ok (.imul, 1) := by decide +kernel
theorem md_M_recurrence_41 : decode prog_14_method_69_code 41 = .ok (.iload_n 2, 1) := by decide +kernel
theorem md_M_recurrence_42 : decode prog_14_method_69_code 42 = .ok (.if_icmp .gt 9, 3) := by decide +kernel
theorem md_M_recurrence_51 : decode prog_14_method_69_code 51 = .ok (.iconst (-1), 1) := by decide +kernel
theorem md_M_recurrence_52 : decode prog_14_method_69_code 52 = .ok (.goto 22, 3) := by decide +kernel
theorem md_M_recurrence_74 : decode prog_14_method_69_code 74 = .ok (.ireturn, 1) := by decide +kernel
theorem md_M_recurrence_45 : decode prog_14_method_69_code 45 = .ok (.iload_n 3, 1) := by decide +kernel
theorem md_M_recurrence_46 : decode prog_14_method_69_code 46 = .ok (.iload 4, 2) := by decide +kernel
theorem md_M_recurrence_48 : decode prog_14_method_69_code 48 = .ok (.if_icmp .le 7, 3) := by decide +kernel
theorem md_M_recurrence_55 : decode prog_14_method_69_code 55 = .ok (.aload_n 0, 1) := by decide +kernel
theorem md_M_recurrence_56 : decode prog_14_method_69_code 56 = .ok (.getfield 31, 3) := by decide +kernel
theorem md_M_recurrence_59 : decode prog_14_method_69_code 59 = .ok (.bipush 18, 2) := by decide +kernel
theorem md_M_recurrence_61 : decode prog_14_method_69_code 61 = .ok (.aload_n 0, 1) := by decide +kernel
theorem md_M_recurrence_62 : decode prog_14_method_69_code 62 = .ok (.getfield 34, 3) := by decide +kernel
theorem md_M_recurrence_65 : decode prog_14_method_69_code 65 = .ok (.iload_n 3, 1) := by decide +kernel
theorem md_M_recurrence_66 : decode prog_14_method_69_code 66 = .ok (.iconst 1, 1) := by decide +kernel
theorem md_M_recurrence_67 : decode prog_14_method_69_code 67 = .ok (.isub, 1) := by decide +kernel
theorem md_M_recurrence_68 : decode prog_14_method_69_code 68 = .ok (.iaload, 1) := by decide +kernel
theorem md_M_recurrence_69 : decode prog_14_method_69_code 69 = .ok (.imul, 1) := by decide +kernel
theorem md_M_recurrence_70 : decode prog_14_method_69_code 70 = .ok (.iload 4, 2) := by decide +kernel
theorem md_M_recurrence_72 : decode prog_14_method_69_code 72 = .ok (.iadd, 1) := by decide +kernel
theorem md_M_recurrence_73 : decode prog_14_method_69_code 73 = .ok (.iaload, 1) := by decide +kernel
def mj_M_recurrence_22 (x0 : Nat) (σ : pw_Sto) : Option (Int × pw_Sto) := pw_bd (mf_M_fail x0 (-2 : Int) σ) (fun v4 s3 => some (v4, s3))
def mf_M_recurrence (x0 : Nat) (x1 : Int) (x2 : Int) (x3 : Int) (σ : pw_Sto) : Option (Int × pw_Sto) := pw_gd 10 x0 σ (pw_bd (mf_M_isSlot x1 σ) (fun v2 s1 => pw_ck v2 0 (if v2 = 0 then mj_M_recurrence_22 x0 s1 else pw_bd (mf_M_in x2 (1 : Int) (16 : Int) s1) (fun v6 s5 => pw_ck v6 0 (if v6 = 0 then mj_M_recurrence_22 x0 s5 else pw_ck x3 (1 : Int) (if (1 : Int) ≤ x3 then pw_bd (mf_M_complexityOf x0 x1 x2 s5) (fun v8 s7 => pw_ck ((2 : Int) * v8) x2 (if x2 < ((2 : Int) * v8) then some ((-1 : Int), s7) else pw_ck x3 v8 (if x3 ≤ v8 then (pw_gr 10 x0 10 s7).bind (fun v9 => (pw_gr 10 x0 11 s7).bind (fun v10 => (pw_ai v10 (x3 - (1 : Int)) s7).bind (fun v11 => (pw_ai v9 (((18 : Int) * v11) + v8) s7).bind (fun v12 => some (v12, s7))))) else some ((-1 : Int), s7)))) else mj_M_recurrence_22 x0 s5))))))
set_option maxHeartbeats 4000000 in
set_option maxRecDepth 20000 in
theorem sj_M_recurrence_22 {X : pw_X Int} (hX : pw_Ok X prog_14_method_69_code "PadeWorkbenchModel" mr_M_recurrence 5) (hR : pw_RI X prog_14_method_69_code) (x0 : Nat) (σ : pw_Sto) : pw_Sp X 0 0 22 [(0, Value.ref x0)] [] σ (mj_M_recurrence_22 x0 σ) := by
  unfold mj_M_recurrence_22
  refine sp_aload_n (pc := 22) (k := 0) (i := 0) hX rfl 0 rfl md_M_recurrence_22 ?_
  refine sp_bipush (pc := 23) hX (by decide) md_M_recurrence_23 ?_
  refine sp_callVI (pc := 25) (y := my_M_fail) (ccy := prog_14_method_3_code) (nLy := 2) (ret := (some .int)) (rmy := mr_M_fail) (n := 1) (idx := 77) (As := [.int (iI (-2 : Int))]) (st := []) (o := x0) (cells' := 0) (slots' := 0) hX (fun _ h => mc_M_fail h) mk_M_fail mv_M_fail mcl_10 (fun _ h => pw_gd_of h) mq_870 ⟨(Nat.le_of_ble_eq_true rfl), (Nat.le_of_ble_eq_true rfl)⟩ rfl rfl (Nat.le_of_ble_eq_true rfl) ⟨(Nat.le_of_ble_eq_true rfl), (Nat.le_of_ble_eq_true rfl)⟩ rfl rfl md_M_recurrence_25 (fun v4 s3 => ?_)
  exact sp_iret (pc := 28) hX hR rfl (Nat.le_of_ble_eq_true rfl) md_M_recurrence_28
set_option maxHeartbeats 4000000 in
set_option maxRecDepth 20000 in
theorem mc_M_recurrence {l : Launch} {E : pw_E} {σ : pw_Sto} {x0 : Nat} {x1 : Int} {x2 : Int} {x3 : Int} {out : Int × pw_Sto} (h : mf_M_recurrence x0 x1 x2 x3 σ = some out) : pw_CI l E my_M_recurrence prog_14_method_69_code 5 (some .int) mr_M_recurrence [.ref x0, .int (iI x1), .int (iI x2), .int (iI x3)] σ out := by
  unfold mf_M_recurrence at h
  refine pw_entryI (by decide) (Nat.le_of_ble_eq_true rfl) (pw_gd_val h) (fun X hX hR hI => ?_)
  change pw_Ok X prog_14_method_69_code "PadeWorkbenchModel" mr_M_recurrence 5 at hX
  show pw_Sp X 0 0 0 [(0, Value.ref x0), (1, Value.int (iI x1)), (2, Value.int (iI x2)), (3, Value.int (iI x3))] [] σ _
  refine sp_iload_n (pc := 0) (k := 1) (i := 1) hX rfl 1 rfl md_M_recurrence_0 ?_
  refine sp_callSI (pc := 1) (y := my_M_isSlot) (ccy := prog_14_method_8_code) (nLy := 1) (ret := (some .boolean)) (rmy := mr_M_isSlot) (n := 1) (idx := 84) (As := [.int (iI x1)]) (st := []) (cells' := 0) (slots' := 0) hX (fun _ h => mc_M_isSlot h) mk_M_isSlot mq_887 mq_886 ⟨(Nat.le_of_ble_eq_true rfl), (Nat.le_of_ble_eq_true rfl)⟩ rfl rfl (Nat.le_of_ble_eq_true rfl) ⟨(Nat.le_of_ble_eq_true rfl), (Nat.le_of_ble_eq_true rfl)⟩ rfl rfl md_M_recurrence_1 (fun v2 s1 => ?_)
  refine sp_if_eq (pc := 4) hX 22 (by decide) md_M_recurrence_4 (fun _ => ?_) (fun _ => ?_)
  · refine sp_sub [0] (L' := [(0, Value.ref x0)]) rfl ?_
    exact sj_M_recurrence_22 hX hR x0 s1
  · refine sp_iload_n (pc := 7) (k := 2) (i := 2) hX rfl 2 rfl md_M_recurrence_7 ?_
    refine sp_iconst (pc := 8) hX md_M_recurrence_8 ?_
    refine sp_bipush (pc := 9) hX (by decide) md_M_recurrence_9 ?_
    refine sp_callSI (pc := 11) (y := my_M_in) (ccy := prog_14_method_2_code) (nLy := 3) (ret := (some .boolean)) (rmy := mr_M_in) (n := 3) (idx := 65) (As := [.int (iI x2), .int (iI (1 : Int)), .int (iI (16 : Int))]) (st := []) (cells' := 0) (slots' := 0) hX (fun _ h => mc_M_in h) mk_M_in mq_868 mq_867 ⟨(Nat.le_of_ble_eq_true rfl), (Nat.le_of_ble_eq_true rfl)⟩ rfl rfl (Nat.le_of_ble_eq_true rfl) ⟨(Nat.le_of_ble_eq_true rfl), (Nat.le_of_ble_eq_true rfl)⟩ rfl rfl md_M_recurrence_11 (fun v6 s5 => ?_)
    refine sp_if_eq (pc := 14) hX 22 (by decide) md_M_recurrence_14 (fun _ => ?_) (fun _ => ?_)
    · refine sp_sub [0] (L' := [(0, Value.ref x0)]) rfl ?_
      exact sj_M_recurrence_22 hX hR x0 s5
    · refine sp_iload_n (pc := 17) (k := 3) (i := 3) hX rfl 3 rfl md_M_recurrence_17 ?_
      refine sp_iconst (pc := 18) hX md_M_recurrence_18 ?_
      refine sp_icmp_ge (pc := 19) hX 29 (by decide) md_M_recurrence_19 (fun _ => ?_) (fun _ => ?_)
      · refine sp_aload_n (pc := 29) (k := 0) (i := 0) hX rfl 0 rfl md_M_recurrence_29 ?_
        refine sp_iload_n (pc := 30) (k := 1) (i := 1) hX rfl 1 rfl md_M_recurrence_30 ?_
        refine sp_iload_n (pc := 31) (k := 2) (i := 2) hX rfl 2 rfl md_M_recurrence_31 ?_
        refine sp_callVI (pc := 32) (y := my_M_complexityOf) (ccy := prog_14_method_67_code) (nLy := 4) (ret := (some .int)) (rmy := mr_M_complexityOf) (n := 2) (idx := 216) (As := [.int (iI x1), .int (iI x2)]) (st := []) (o := x0) (cells' := 0) (slots' := 0) hX (fun _ h => mc_M_complexityOf h) mk_M_complexityOf mv_M_complexityOf mcl_10 (fun _ h => pw_gd_of h) mq_1113 ⟨(Nat.le_of_ble_eq_true rfl), (Nat.le_of_ble_eq_true rfl)⟩ rfl rfl (Nat.le_of_ble_eq_true rfl) ⟨(Nat.le_of_ble_eq_true rfl), (Nat.le_of_ble_eq_true rfl)⟩ rfl rfl md_M_recurrence_32 (fun v8 s7 => ?_)
        refine sp_istore (pc := 35) (i := 4) (L' := [(4, Value.int (iI v8)), (0, Value.ref x0), (1, Value.int (iI x1)), (2, Value.int (iI x2)), (3, Value.int (iI x3))]) hX (by decide) rfl md_M_recurrence_35 ?_
        refine sp_iconst (pc := 37) hX md_M_recurrence_37 ?_
        refine sp_iload (pc := 38) (i := 4) hX 0 rfl md_M_recurrence_38 ?_
        refine sp_imul (pc := 40) hX md_M_recurrence_40 ?_
        refine sp_iload_n (pc := 41) (k := 2) (i := 2) hX rfl 3 rfl md_M_recurrence_41 ?_
        refine sp_icmp_gt (pc := 42) hX 51 (by decide) md_M_recurrence_42 (fun _ => ?_) (fun _ => ?_)
        · refine sp_iconst (pc := 51) hX md_M_recurrence_51 ?_
          refine sp_goto (pc := 52) hX 74 (by decide) md_M_recurrence_52 ?_
          exact sp_iret (pc := 74) hX hR rfl (Nat.le_of_ble_eq_true rfl) md_M_recurrence_74
        · refine sp_iload_n (pc := 45) (k := 3) (i := 3) hX rfl 4 rfl md_M_recurrence_45 ?_
          refine sp_iload (pc := 46) (i := 4) hX 0 rfl md_M_recurrence_46 ?_
          refine sp_icmp_le (pc := 48) hX 55 (by decide) md_M_recurrence_48 (fun _ => ?_) (fun _ => ?_)
          · refine sp_aload_n (pc := 55) (k := 0) (i := 0) hX rfl 1 rfl md_M_recurrence_55 ?_
            refine sp_getR (pc := 56) (ci := 10) (k := 10) (idx := 31) hX mcl_10 (by decide) mq_809 rfl md_M_recurrence_56 (fun v9 => ?_)
            refine sp_bipush (pc := 59) hX (by decide) md_M_recurrence_59 ?_
            refine sp_aload_n (pc := 61) (k := 0) (i := 0) hX rfl 1 rfl md_M_recurrence_61 ?_
            refine sp_getR (pc := 62) (ci := 10) (k := 11) (idx := 34) hX mcl_10 (by decide) mq_810 rfl md_M_recurrence_62 (fun v10 => ?_)
            refine sp_iload_n (pc := 65) (k := 3) (i := 3) hX rfl 4 rfl md_M_recurrence_65 ?_
            refine sp_iconst (pc := 66) hX md_M_recurrence_66 ?_
            refine sp_isub (pc := 67) hX md_M_recurrence_67 ?_
            refine sp_iaload (pc := 68) hX md_M_recurrence_68 (fun v11 => ?_)
            refine sp_imul (pc := 69) hX md_M_recurrence_69 ?_
            refine sp_iload (pc := 70) (i := 4) hX 0 rfl md_M_recurrence_70 ?_
            refine sp_iadd (pc := 72) hX md_M_recurrence_72 ?_
            refine sp_iaload (pc := 73) hX md_M_recurrence_73 (fun v12 => ?_)
            exact sp_iret (pc := 74) hX hR rfl (Nat.le_of_ble_eq_true rfl) md_M_recurrence_74
          · refine sp_iconst (pc := 51) hX md_M_recurrence_51 ?_
            refine sp_goto (pc := 52) hX 74 (by decide) md_M_recurrence_52 ?_
            exact sp_iret (pc := 74) hX hR rfl (Nat.le_of_ble_eq_true rfl) md_M_recurrence_74
      · refine sp_sub [0] (L' := [(0, Value.ref x0)]) rfl ?_
        exact sj_M_recurrence_22 hX hR x0 s5
/-! PadeWorkbenchModel.points()I -/
theorem md_M_points_0 : decode prog_14_method_70_code 0 = .ok (.aload_n 0, 1) := by decide +kernel
theorem md_M_points_1 : decode prog_14_method_70_code 1 = .ok (.getfield 7, 3) := by decide +kernel
theorem md_M_points_4 : decode prog_14_method_70_code 4 = .ok (.bipush 65, 2) := by decide +kernel
theorem md_M_points_6 : decode prog_14_method_70_code 6 = .ok (.iaload, 1) := by decide +kernel
theorem md_M_points_7 : decode prog_14_method_70_code 7 = .ok (.ireturn, 1) := by decide +kernel
def mf_M_points (x0 : Nat) (σ : pw_Sto) : Option (Int × pw_Sto) := pw_gd 10 x0 σ ((pw_gr 10 x0 0 σ).bind (fun v1 => (pw_ai v1 (65 : Int) σ).bind (fun v2 => some (v2, σ))))
set_option maxHeartbeats 4000000 in
set_option maxRecDepth 20000 in
theorem mc_M_points {l : Launch} {E : pw_E} {σ : pw_Sto} {x0 : Nat} {out : Int × pw_Sto} (h : mf_M_points x0 σ = some out) : pw_CI l E my_M_points prog_14_method_70_code 1 (some .int) mr_M_points [.ref x0] σ out := by
  unfold mf_M_points at h
  refine pw_entryI (by decide) (Nat.le_of_ble_eq_true rfl) (pw_gd_val h) (fun X hX hR hI => ?_)
  change pw_Ok X prog_14_method_70_code "PadeWorkbenchModel" mr_M_points 1 at hX
  show pw_Sp X 0 0 0 [(0, Value.ref x0)] [] σ _
  refine sp_aload_n (pc := 0) (k := 0) (i := 0) hX rfl 0 rfl md_M_points_0 ?_
  refine sp_getR (pc := 1) (ci := 10) (k := 0) (idx := 7) hX mcl_10 (by decide) mq_799 rfl md_M_points_1 (fun v1 => ?_)
  refine sp_bipush (pc := 4) hX (by decide) md_M_points_4 ?_
  refine sp_iaload (pc := 6) hX md_M_points_6 (fun v2 => ?_)
  exact sp_iret (pc := 7) hX hR rfl (Nat.le_of_ble_eq_true rfl) md_M_points_7
/-! PadeWorkbenchModel.addPoint(II)I -/
theorem md_M_addPoint_0 : decode prog_14_method_71_code 0 = .ok (.iload_n 1, 1) := by decide +kernel
theorem md_M_addPoint_1 : decode prog_14_method_71_code 1 = .ok (.iconst 0, 1) := by decide +kernel
theorem md_M_addPoint_2 : decode prog_14_method_71_code 2 = .ok (.aload_n 0, 1) := by decide +kernel
theorem md_M_addPoint_3 : decode prog_14_method_71_code 3 = .ok (.invokevirtual 61, 3) := by decide +kernel
theorem md_M_addPoint_6 : decode prog_14_method_71_code 6 = .ok (.iconst 1, 1) := by decide +kernel
theorem md_M_addPoint_7 : decode prog_14_method_71_code 7 = .ok (.isub, 1) := by decide +kernel
theorem md_M_addPoint_8 : decode prog_14_method_71_code 8 = .ok (.invokestatic 65, 3) := by decide +kernel
theorem md_M_addPoint_11 : decode prog_14_method_71_code 11 = .ok (.ifCond .eq 17, 3) := by decide +kernel
theorem md_M_addPoint_28 : decode prog_14_method_71_code 28 = .ok (.aload_n 0, 1) := by decide +kernel
theorem md_M_addPoint_29 : decode prog_14_method_71_code 29 = .ok (.bipush (-2), 2) := by decide +kernel
theorem md_M_addPoint_31 : decode prog_14_method_71_code 31 = .ok (.invokevirtual 77, 3) := by decide +kernel
theorem md_M_addPoint_34 : decode prog_14_method_71_code 34 = .ok (.ireturn, 1) := by decide +kernel
theorem md_M_addPoint_14 : decode prog_14_method_71_code 14 = .ok (.iload_n 2, 1) := by decide +kernel
theorem md_M_addPoint_15 : decode prog_14_method_71_code 15 = .ok (.iconst 0, 1) := by decide +kernel
theorem md_M_addPoint_16 : decode prog_14_method_71_code 16 = .ok (.aload_n 0, 1) := by decide +kernel
theorem md_M_addPoint_17 : decode prog_14_method_71_code 17 = .ok (.invokevirtual 61, 3) := by decide +kernel
theorem md_M_addPoint_20 : decode prog_14_method_71_code 20 = .ok (.iconst 1, 1) := by decide +kernel
theorem md_M_addPoint_21 : decode prog_14_method_71_code 21 = .ok (.isub, 1) := by decide +kernel
theorem md_M_addPoint_22 : decode prog_14_method_71_code 22 = .ok (.invokestatic 65, 3) := by decide +kernel
theorem md_M_addPoint_25 : decode prog_14_method_71_code 25 = .ok (.ifCond .ne 10, 3) := by decide +kernel
theorem md_M_addPoint_35 : decode prog_14_method_71_code 35 = .ok (.iconst 0, 1) := by decide +kernel
theorem md_M_addPoint_36 : decode prog_14_method_71_code 36 = .ok (.istore_n 3, 1) := by decide +kernel
theorem md_M_addPoint_37 : decode prog_14_method_71_code 37 = .ok (.iload_n 3, 1) := by decide +kernel
theorem md_M_addPoint_38 : decode prog_14_method_71_code 38 = .ok (.aload_n 0, 1) := by decide +kernel
theorem md_M_addPoint_39 : decode prog_14_method_71_code 39 = .ok (.invokevirtual 219, 3) := by decide +kernel
theorem md_M_addPoint_42 : decode prog_14_method_71_code 42 = .ok (.if_icmp .ge 29, 3) := by decide +kernel
theorem md_M_addPoint_71 : decode prog_14_method_71_code 71 = .ok (.aload_n 0, 1) := by decide +kernel
theorem md_M_addPoint_72 : decode prog_14_method_71_code 72 = .ok (.invokevirtual 219, 3) := by decide +kernel
theorem md_M_addPoint_75 : decode prog_14_method_71_code 75 = .ok (.bipush 10, 2) := by decide +kernel
theorem md_M_addPoint_77 : decode prog_14_method_71_code 77 = .ok (.if_icmp .ne 10, 3) := by decide +kernel
theorem md_M_addPoint_87 : decode prog_14_method_71_code 87 = .ok (.aload_n 0, 1) := by decide +kernel
theorem md_M_addPoint_88 : decode prog_14_method_71_code 88 = .ok (.invokevirtual 81, 3) := by decide +kernel
theorem md_M_addPoint_91 : decode prog_14_method_71_code 91 = .ok (.aload_n 0, 1) := by decide +kernel
theorem md_M_addPoint_92 : decode prog_14_method_71_code 92 = .ok (.getfield 7, 3) := by decide +kernel
theorem md_M_addPoint_95 : decode prog_14_method_71_code 95 = .ok (.bipush 66, 2) := by decide +kernel
theorem md_M_addPoint_97 : decode prog_14_method_71_code 97 = .ok (.aload_n 0, 1) := by decide +kernel
theorem md_M_addPoint_98 : decode prog_14_method_71_code 98 = .ok (.invokevirtual 219, 3) := by decide +kernel
theorem md_M_addPoint_101 : decode prog_14_method_71_code 101 = .ok (.iadd, 1) := by decide +kernel
theorem md_M_addPoint_102 : decode prog_14_method_71_code 102 = .ok (.iload_n 1, 1) := by decide +kernel
theorem md_M_addPoint_103 : decode prog_14_method_71_code 103 = .ok (.iastore, 1) := by decide +kernel
theorem md_M_addPoint_104 : decode prog_14_method_71_code 104 = .ok (.aload_n 0, 1) := by decide +kernel
theorem md_M_addPoint_105 : decode prog_14_method_71_code 105 = .ok (.getfield 7, 3) := by decide +kernel
theorem md_M_addPoint_108 : decode prog_14_method_71_code 108 = .ok (.bipush 76, 2) := by decide +kernel
theorem md_M_addPoint_110 : decode prog_14_method_71_code 110 = .ok (.aload_n 0, 1) := by decide +kernel
theorem md_M_addPoint_111 : decode prog_14_method_71_code 111 = .ok (.invokevirtual 219, 3) := by decide +kernel
theorem md_M_addPoint_114 : decode prog_14_method_71_code 114 = .ok (.iadd, 1) := by decide +kernel
theorem md_M_addPoint_115 : decode prog_14_method_71_code 115 = .ok (.iload_n 2, 1) := by decide +kernel
theorem md_M_addPoint_116 : decode prog_14_method_71_code 116 = .ok (.iastore, 1) := by decide +kernel
theorem md_M_addPoint_117 : decode prog_14_method_71_code 117 = .ok (.aload_n 0, 1) := by decide +kernel
theorem md_M_addPoint_118 : decode prog_14_method_71_code 118 = .ok (.getfield 7, 3) := by decide +kernel
theorem md_M_addPoint_121 : decode prog_14_method_71_code 121 = .ok (.bipush 65, 2) := by decide +kernel
theorem md_M_addPoint_123 : decode prog_14_method_71_code 123 = .ok (.dup2, 1) := by decide +kernel
theorem md_M_addPoint_124 : decode prog_14_method_71_code 124 = .ok (.iaload, 1) := by decide +kernel
theorem md_M_addPoint_125 : decode prog_14_method_71_code 125 = .ok (.iconst 1, 1) := by decide +kernel
theorem md_M_addPoint_126 : decode prog_14_method_71_code 126 = .ok (.iadd, 1) := by decide +kernel
theorem md_M_addPoint_127 : decode prog_14_method_71_code 127 = .ok (.iastore, 1) := by decide +kernel
theorem md_M_addPoint_128 : decode prog_14_method_71_code 128 = .ok (.aload_n 0, 1) := by decide +kernel
theorem md_M_addPoint_129 : decode prog_14_method_71_code 129 = .ok (.invokevirtual 219, 3) := by decide +kernel
theorem md_M_addPoint_132 : decode prog_14_method_71_code 132 = .ok (.ireturn, 1) := by decide +kernel
theorem md_M_addPoint_80 : decode prog_14_method_71_code 80 = .ok (.aload_n 0, 1) := by decide +kernel
theorem md_M_addPoint_81 : decode prog_14_method_71_code 81 = .ok (.bipush (-4), 2) := by decide +kernel
theorem md_M_addPoint_83 : decode prog_14_method_71_code 83 = .ok (.invokevirtual 77, 3) := by decide +kernel
theorem md_M_addPoint_86 : decode prog_14_method_71_code 86 = .ok (.ireturn, 1) := by decide +kernel
theorem md_M_addPoint_45 : decode prog_14_method_71_code 45 = .ok (.aload_n 0, 1) := by decide +kernel
theorem md_M_addPoint_46 : decode prog_14_method_71_code 46 = .ok (.getfield 7, 3) := by decide +kernel
theorem md_M_addPoint_49 : decode prog_14_method_71_code 49 = .ok (.bipush 66, 2) := by decide +kernel
theorem md_M_addPoint_51 : decode prog_14_method_71_code 51 = .ok (.iload_n 3, 1) := by decide +kernel
theorem md_M_addPoint_52 : decode prog_14_method_71_code 52 = .ok (.iadd, 1) := by decide +kernel
theorem md_M_addPoint_53 : decode prog_14_method_71_code 53 = .ok (.iaload, 1) := by decide +kernel
theorem md_M_addPoint_54 : decode prog_14_method_71_code 54 = .ok (.iload_n 1, 1) := by decide +kernel
theorem md_M_addPoint_55 : decode prog_14_method_71_code 55 = .ok (.if_icmp .ne 10, 3) := by decide +kernel
theorem md_M_addPoint_65 : decode prog_14_method_71_code 65 = .ok (.iinc 3 1, 3) := by decide +kernel
theorem md_M_addPoint_68 : decode prog_14_method_71_code 68 = .ok (.goto (-31), 3) := by decide +kernel
theorem md_M_addPoint_58 : decode prog_14_method_71_code 58 = .ok (.aload_n 0, 1) := by decide +kernel
theorem md_M_addPoint_59 : decode prog_14_method_71_code 59 = .ok (.bipush (-3), 2) := by decide +kernel
theorem md_M_addPoint_61 : decode prog_14_method_71_code 61 = .ok (.invokevirtual 77, 3) := by decide +kernel
theorem md_M_addPoint_64 : decode prog_14_method_71_code 64 = .ok (.ireturn, 1) := by decide +kernel
def mj_M_addPoint_28 (x0 : Nat) (σ : pw_Sto) : Option (Int × pw_Sto) := pw_bd (mf_M_fail x0 (-2 : Int) σ) (fun v6 s5 => some (v6, s5))
def mb_M_addPoint_37 (rc : Nat → Int → Int → Int → pw_Sto → Option (Int × pw_Sto)) : Nat → Int → Int → Int → pw_Sto → Option (Int × pw_Sto) := fun x0 x1 x2 x3 σ => pw_bd (mf_M_points x0 σ) (fun v12 s11 => pw_ck x3 v12 (if v12 ≤ x3 then pw_bd (mf_M_points x0 s11) (fun v14 s13 => pw_ck v14 (10 : Int) (if v14 = (10 : Int) then pw_bd (mf_M_fail x0 (-4 : Int) s13) (fun v30 s29 => some (v30, s29)) else pw_bd (mf_M_save x0 s13) (fun _ s15 => (pw_gr 10 x0 0 s15).bind (fun v16 => pw_bd (mf_M_points x0 s15) (fun v18 s17 => (pw_si v16 ((66 : Int) + v18) x1 s17).bind (fun s19 => (pw_gr 10 x0 0 s19).bind (fun v20 => pw_bd (mf_M_points x0 s19) (fun v22 s21 => (pw_si v20 ((76 : Int) + v22) x2 s21).bind (fun s23 => (pw_gr 10 x0 0 s23).bind (fun v24 => (pw_ai v24 (65 : Int) s23).bind (fun v25 => (pw_si v24 (65 : Int) (v25 + (1 : Int)) s23).bind (fun s26 => pw_bd (mf_M_points x0 s26) (fun v28 s27 => some (v28, s27)))))))))))))) else (pw_gr 10 x0 0 s11).bind (fun v31 => (pw_ai v31 ((66 : Int) + x3) s11).bind (fun v32 => pw_ck v32 x1 (if v32 = x1 then pw_bd (mf_M_fail x0 (-3 : Int) s11) (fun v34 s33 => some (v34, s33)) else rc x0 x1 x2 (x3 + 1) s11)))))
def ml_M_addPoint_37 : Nat → Nat → Int → Int → Int → pw_Sto → Option (Int × pw_Sto) := pw_lp (fun _ _ _ _ _ => none) (mb_M_addPoint_37)
def mf_M_addPoint (x0 : Nat) (x1 : Int) (x2 : Int) (σ : pw_Sto) : Option (Int × pw_Sto) := pw_gd 10 x0 σ (pw_bd (mf_M_prime x0 σ) (fun v2 s1 => pw_bd (mf_M_in x1 (0 : Int) (v2 - (1 : Int)) s1) (fun v4 s3 => pw_ck v4 0 (if v4 = 0 then mj_M_addPoint_28 x0 s3 else pw_bd (mf_M_prime x0 s3) (fun v8 s7 => pw_bd (mf_M_in x2 (0 : Int) (v8 - (1 : Int)) s7) (fun v10 s9 => pw_ck v10 0 (if v10 = 0 then mj_M_addPoint_28 x0 s9 else ml_M_addPoint_37 1000 x0 x1 x2 (0 : Int) s9)))))))
set_option maxHeartbeats 4000000 in
set_option maxRecDepth 20000 in
theorem sj_M_addPoint_28 {X : pw_X Int} (hX : pw_Ok X prog_14_method_71_code "PadeWorkbenchModel" mr_M_addPoint 4) (hR : pw_RI X prog_14_method_71_code) (x0 : Nat) (σ : pw_Sto) : pw_Sp X 0 0 28 [(0, Value.ref x0)] [] σ (mj_M_addPoint_28 x0 σ) := by
  unfold mj_M_addPoint_28
  refine sp_aload_n (pc := 28) (k := 0) (i := 0) hX rfl 0 rfl md_M_addPoint_28 ?_
  refine sp_bipush (pc := 29) hX (by decide) md_M_addPoint_29 ?_
  refine sp_callVI (pc := 31) (y := my_M_fail) (ccy := prog_14_method_3_code) (nLy := 2) (ret := (some .int)) (rmy := mr_M_fail) (n := 1) (idx := 77) (As := [.int (iI (-2 : Int))]) (st := []) (o := x0) (cells' := 0) (slots' := 0) hX (fun _ h => mc_M_fail h) mk_M_fail mv_M_fail mcl_10 (fun _ h => pw_gd_of h) mq_870 ⟨(Nat.le_of_ble_eq_true rfl), (Nat.le_of_ble_eq_true rfl)⟩ rfl rfl (Nat.le_of_ble_eq_true rfl) ⟨(Nat.le_of_ble_eq_true rfl), (Nat.le_of_ble_eq_true rfl)⟩ rfl rfl md_M_addPoint_31 (fun v6 s5 => ?_)
  exact sp_iret (pc := 34) hX hR rfl (Nat.le_of_ble_eq_true rfl) md_M_addPoint_34
set_option maxHeartbeats 4000000 in
set_option maxRecDepth 20000 in
theorem sl_M_addPoint_37 {X : pw_X Int} (hX : pw_Ok X prog_14_method_71_code "PadeWorkbenchModel" mr_M_addPoint 4) (hR : pw_RI X prog_14_method_71_code) : ∀ (n : Nat) (x0 : Nat) (x1 : Int) (x2 : Int) (x3 : Int) (σ : pw_Sto), pw_Sp X 0 0 37 [(0, Value.ref x0), (1, Value.int (iI x1)), (2, Value.int (iI x2)), (3, Value.int (iI x3))] [] σ (ml_M_addPoint_37 n x0 x1 x2 x3 σ) := by
  intro n
  induction n with
  | zero => intros; exact pw_none
  | succ n ih =>
    intro x0 x1 x2 x3 σ
    show pw_Sp X 0 0 37 _ _ σ (mb_M_addPoint_37 (ml_M_addPoint_37 n) x0 x1 x2 x3 σ)
    unfold mb_M_addPoint_37
    refine sp_iload_n (pc := 37) (k := 3) (i := 3) hX rfl 3 rfl md_M_addPoint_37 ?_
    refine sp_aload_n (pc := 38) (k := 0) (i := 0) hX rfl 0 rfl md_M_addPoint_38 ?_
    refine sp_callVI (pc := 39) (y := my_M_points) (ccy := prog_14_method_70_code) (nLy := 1) (ret := (some .int)) (rmy := mr_M_points) (n := 0) (idx := 219) (As := []) (st := [.int (iI x3)]) (o := x0) (cells' := 0) (slots' := 0) hX (fun _ h => mc_M_points h) mk_M_points mv_M_points mcl_10 (fun _ h => pw_gd_of h) mq_1129 ⟨(Nat.le_of_ble_eq_true rfl), (Nat.le_of_ble_eq_true rfl)⟩ rfl rfl (Nat.le_of_ble_eq_true rfl) ⟨(Nat.le_of_ble_eq_true rfl), (Nat.le_of_ble_eq_true rfl)⟩ rfl rfl md_M_addPoint_39 (fun v12 s11 => ?_)
    refine sp_icmp_ge (pc := 42) hX 71 (by decide) md_M_addPoint_42 (fun _ => ?_) (fun _ => ?_)
    · refine sp_aload_n (pc := 71) (k := 0) (i := 0) hX rfl 0 rfl md_M_addPoint_71 ?_
      refine sp_callVI (pc := 72) (y := my_M_points) (ccy := prog_14_method_70_code) (nLy := 1) (ret := (some .int)) (rmy := mr_M_points) (n := 0) (idx := 219) (As := []) (st := []) (o := x0) (cells' := 0) (slots' := 0) hX (fun _ h => mc_M_points h) mk_M_points mv_M_points mcl_10 (fun _ h => pw_gd_of h) mq_1129 ⟨(Nat.le_of_ble_eq_true rfl), (Nat.le_of_ble_eq_true rfl)⟩ rfl rfl (Nat.le_of_ble_eq_true rfl) ⟨(Nat.le_of_ble_eq_true rfl), (Nat.le_of_ble_eq_true rfl)⟩ rfl rfl md_M_addPoint_72 (fun v14 s13 => ?_)
      refine sp_bipush (pc := 75) hX (by decide) md_M_addPoint_75 ?_
      refine sp_icmp_ne (pc := 77) hX 87 (by decide) md_M_addPoint_77 (fun _ => ?_) (fun _ => ?_)
      · refine sp_aload_n (pc := 80) (k := 0) (i := 0) hX rfl 0 rfl md_M_addPoint_80 ?_
        refine sp_bipush (pc := 81) hX (by decide) md_M_addPoint_81 ?_
        refine sp_callVI (pc := 83) (y := my_M_fail) (ccy := prog_14_method_3_code) (nLy := 2) (ret := (some .int)) (rmy := mr_M_fail) (n := 1) (idx := 77) (As := [.int (iI (-4 : Int))]) (st := []) (o := x0) (cells' := 0) (slots' := 0) hX (fun _ h => mc_M_fail h) mk_M_fail mv_M_fail mcl_10 (fun _ h => pw_gd_of h) mq_870 ⟨(Nat.le_of_ble_eq_true rfl), (Nat.le_of_ble_eq_true rfl)⟩ rfl rfl (Nat.le_of_ble_eq_true rfl) ⟨(Nat.le_of_ble_eq_true rfl), (Nat.le_of_ble_eq_true rfl)⟩ rfl rfl md_M_addPoint_83 (fun v30 s29 => ?_)
        exact sp_iret (pc := 86) hX hR rfl (Nat.le_of_ble_eq_true rfl) md_M_addPoint_86
      · refine sp_aload_n (pc := 87) (k := 0) (i := 0) hX rfl 0 rfl md_M_addPoint_87 ?_
        refine sp_callVV (pc := 88) (y := my_M_save) (ccy := prog_14_method_10_code) (nLy := 2) (ret := none) (rmy := mr_M_save) (n := 0) (idx := 81) (As := []) (st := []) (o := x0) (cells' := 0) (slots' := 0) hX (fun _ h => mc_M_save h) mk_M_save mv_M_save mcl_10 (fun _ h => pw_gd_of h) mq_874 ⟨(Nat.le_of_ble_eq_true rfl), (Nat.le_of_ble_eq_true rfl)⟩ rfl rfl (Nat.le_of_ble_eq_true rfl) ⟨(Nat.le_of_ble_eq_true rfl), (Nat.le_of_ble_eq_true rfl)⟩ rfl rfl md_M_addPoint_88 (fun s15 => ?_)
        refine sp_aload_n (pc := 91) (k := 0) (i := 0) hX rfl 0 rfl md_M_addPoint_91 ?_
        refine sp_getR (pc := 92) (ci := 10) (k := 0) (idx := 7) hX mcl_10 (by decide) mq_799 rfl md_M_addPoint_92 (fun v16 => ?_)
        refine sp_bipush (pc := 95) hX (by decide) md_M_addPoint_95 ?_
        refine sp_aload_n (pc := 97) (k := 0) (i := 0) hX rfl 0 rfl md_M_addPoint_97 ?_
        refine sp_callVI (pc := 98) (y := my_M_points) (ccy := prog_14_method_70_code) (nLy := 1) (ret := (some .int)) (rmy := mr_M_points) (n := 0) (idx := 219) (As := []) (st := [.int (iI (66 : Int)), .ref v16]) (o := x0) (cells' := 0) (slots' := 0) hX (fun _ h => mc_M_points h) mk_M_points mv_M_points mcl_10 (fun _ h => pw_gd_of h) mq_1129 ⟨(Nat.le_of_ble_eq_true rfl), (Nat.le_of_ble_eq_true rfl)⟩ rfl rfl (Nat.le_of_ble_eq_true rfl) ⟨(Nat.le_of_ble_eq_true rfl), (Nat.le_of_ble_eq_true rfl)⟩ rfl rfl md_M_addPoint_98 (fun v18 s17 => ?_)
        refine sp_iadd (pc := 101) hX md_M_addPoint_101 ?_
        refine sp_iload_n (pc := 102) (k := 1) (i := 1) hX rfl 1 rfl md_M_addPoint_102 ?_
        refine sp_iastore (pc := 103) hX md_M_addPoint_103 (fun s19 => ?_)
        refine sp_aload_n (pc := 104) (k := 0) (i := 0) hX rfl 0 rfl md_M_addPoint_104 ?_
        refine sp_getR (pc := 105) (ci := 10) (k := 0) (idx := 7) hX mcl_10 (by decide) mq_799 rfl md_M_addPoint_105 (fun v20 => ?_)
        refine sp_bipush (pc := 108) hX (by decide) md_M_addPoint_108 ?_
        refine sp_aload_n (pc := 110) (k := 0) (i := 0) hX rfl 0 rfl md_M_addPoint_110 ?_
        refine sp_callVI (pc := 111) (y := my_M_points) (ccy := prog_14_method_70_code) (nLy := 1) (ret := (some .int)) (rmy := mr_M_points) (n := 0) (idx := 219) (As := []) (st := [.int (iI (76 : Int)), .ref v20]) (o := x0) (cells' := 0) (slots' := 0) hX (fun _ h => mc_M_points h) mk_M_points mv_M_points mcl_10 (fun _ h => pw_gd_of h) mq_1129 ⟨(Nat.le_of_ble_eq_true rfl), (Nat.le_of_ble_eq_true rfl)⟩ rfl rfl (Nat.le_of_ble_eq_true rfl) ⟨(Nat.le_of_ble_eq_true rfl), (Nat.le_of_ble_eq_true rfl)⟩ rfl rfl md_M_addPoint_111 (fun v22 s21 => ?_)
        refine sp_iadd (pc := 114) hX md_M_addPoint_114 ?_
        refine sp_iload_n (pc := 115) (k := 2) (i := 2) hX rfl 2 rfl md_M_addPoint_115 ?_
        refine sp_iastore (pc := 116) hX md_M_addPoint_116 (fun s23 => ?_)
        refine sp_aload_n (pc := 117) (k := 0) (i := 0) hX rfl 0 rfl md_M_addPoint_117 ?_
        refine sp_getR (pc := 118) (ci := 10) (k := 0) (idx := 7) hX mcl_10 (by decide) mq_799 rfl md_M_addPoint_118 (fun v24 => ?_)
        refine sp_bipush (pc := 121) hX (by decide) md_M_addPoint_121 ?_
        refine sp_dup2 (pc := 123) hX rfl rfl md_M_addPoint_123 ?_
        refine sp_iaload (pc := 124) hX md_M_addPoint_124 (fun v25 => ?_)
        refine sp_iconst (pc := 125) hX md_M_addPoint_125 ?_
        refine sp_iadd (pc := 126) hX md_M_addPoint_126 ?_
        refine sp_iastore (pc := 127) hX md_M_addPoint_127 (fun s26 => ?_)
        refine sp_aload_n (pc := 128) (k := 0) (i := 0) hX rfl 0 rfl md_M_addPoint_128 ?_
        refine sp_callVI (pc := 129) (y := my_M_points) (ccy := prog_14_method_70_code) (nLy := 1) (ret := (some .int)) (rmy := mr_M_points) (n := 0) (idx := 219) (As := []) (st := []) (o := x0) (cells' := 0) (slots' := 0) hX (fun _ h => mc_M_points h) mk_M_points mv_M_points mcl_10 (fun _ h => pw_gd_of h) mq_1129 ⟨(Nat.le_of_ble_eq_true rfl), (Nat.le_of_ble_eq_true rfl)⟩ rfl rfl (Nat.le_of_ble_eq_true rfl) ⟨(Nat.le_of_ble_eq_true rfl), (Nat.le_of_ble_eq_true rfl)⟩ rfl rfl md_M_addPoint_129 (fun v28 s27 => ?_)
        exact sp_iret (pc := 132) hX hR rfl (Nat.le_of_ble_eq_true rfl) md_M_addPoint_132
    · refine sp_aload_n (pc := 45) (k := 0) (i := 0) hX rfl 0 rfl md_M_addPoint_45 ?_
      refine sp_getR (pc := 46) (ci := 10) (k := 0) (idx := 7) hX mcl_10 (by decide) mq_799 rfl md_M_addPoint_46 (fun v31 => ?_)
      refine sp_bipush (pc := 49) hX (by decide) md_M_addPoint_49 ?_
      refine sp_iload_n (pc := 51) (k := 3) (i := 3) hX rfl 3 rfl md_M_addPoint_51 ?_
      refine sp_iadd (pc := 52) hX md_M_addPoint_52 ?_
      refine sp_iaload (pc := 53) hX md_M_addPoint_53 (fun v32 => ?_)
      refine sp_iload_n (pc := 54) (k := 1) (i := 1) hX rfl 1 rfl md_M_addPoint_54 ?_
      refine sp_icmp_ne (pc := 55) hX 65 (by decide) md_M_addPoint_55 (fun _ => ?_) (fun _ => ?_)
      · refine sp_aload_n (pc := 58) (k := 0) (i := 0) hX rfl 0 rfl md_M_addPoint_58 ?_
        refine sp_bipush (pc := 59) hX (by decide) md_M_addPoint_59 ?_
        refine sp_callVI (pc := 61) (y := my_M_fail) (ccy := prog_14_method_3_code) (nLy := 2) (ret := (some .int)) (rmy := mr_M_fail) (n := 1) (idx := 77) (As := [.int (iI (-3 : Int))]) (st := []) (o := x0) (cells' := 0) (slots' := 0) hX (fun _ h => mc_M_fail h) mk_M_fail mv_M_fail mcl_10 (fun _ h => pw_gd_of h) mq_870 ⟨(Nat.le_of_ble_eq_true rfl), (Nat.le_of_ble_eq_true rfl)⟩ rfl rfl (Nat.le_of_ble_eq_true rfl) ⟨(Nat.le_of_ble_eq_true rfl), (Nat.le_of_ble_eq_true rfl)⟩ rfl rfl md_M_addPoint_61 (fun v34 s33 => ?_)
        exact sp_iret (pc := 64) hX hR rfl (Nat.le_of_ble_eq_true rfl) md_M_addPoint_64
      · refine sp_iinc (pc := 65) (i := 3) (L' := [(3, Value.int (iI (x3 + 1))), (0, Value.ref x0), (1, Value.int (iI x1)), (2, Value.int (iI x2))]) hX 3 rfl (by decide) rfl md_M_addPoint_65 ?_
        refine sp_goto (pc := 68) hX 37 (by decide) md_M_addPoint_68 ?_
        refine sp_sub [1, 2, 3, 0] (L' := [(0, Value.ref x0), (1, Value.int (iI x1)), (2, Value.int (iI x2)), (3, Value.int (iI (x3 + 1)))]) rfl ?_
        exact ih x0 x1 x2 (x3 + 1) s11
set_option maxHeartbeats 4000000 in
set_option maxRecDepth 20000 in
theorem mc_M_addPoint {l : Launch} {E : pw_E} {σ : pw_Sto} {x0 : Nat} {x1 : Int} {x2 : Int} {out : Int × pw_Sto} (h : mf_M_addPoint x0 x1 x2 σ = some out) : pw_CI l E my_M_addPoint prog_14_method_71_code 4 (some .int) mr_M_addPoint [.ref x0, .int (iI x1), .int (iI x2)] σ out := by
  unfold mf_M_addPoint at h
  refine pw_entryI (by decide) (Nat.le_of_ble_eq_true rfl) (pw_gd_val h) (fun X hX hR hI => ?_)
  change pw_Ok X prog_14_method_71_code "PadeWorkbenchModel" mr_M_addPoint 4 at hX
  show pw_Sp X 0 0 0 [(0, Value.ref x0), (1, Value.int (iI x1)), (2, Value.int (iI x2))] [] σ _
  refine sp_iload_n (pc := 0) (k := 1) (i := 1) hX rfl 1 rfl md_M_addPoint_0 ?_
  refine sp_iconst (pc := 1) hX md_M_addPoint_1 ?_
  refine sp_aload_n (pc := 2) (k := 0) (i := 0) hX rfl 0 rfl md_M_addPoint_2 ?_
  refine sp_callVI (pc := 3) (y := my_M_prime) (ccy := prog_14_method_4_code) (nLy := 1) (ret := (some .int)) (rmy := mr_M_prime) (n := 0) (idx := 61) (As := []) (st := [.int (iI (0 : Int)), .int (iI x1)]) (o := x0) (cells' := 0) (slots' := 0) hX (fun _ h => mc_M_prime h) mk_M_prime mv_M_prime mcl_10 (fun _ h => pw_gd_of h) mq_878 ⟨(Nat.le_of_ble_eq_true rfl), (Nat.le_of_ble_eq_true rfl)⟩ rfl rfl (Nat.le_of_ble_eq_true rfl) ⟨(Nat.le_of_ble_eq_true rfl), (Nat.le_of_ble_eq_true rfl)⟩ rfl rfl md_M_addPoint_3 (fun v2 s1 => ?_)
  refine sp_iconst (pc := 6) hX md_M_addPoint_6 ?_
  refine sp_isub (pc := 7) hX md_M_addPoint_7 ?_
  refine sp_callSI (pc := 8) (y := my_M_in) (ccy := prog_14_method_2_code) (nLy := 3) (ret := (some .boolean)) (rmy := mr_M_in) (n := 3) (idx := 65) (As := [.int (iI x1), .int (iI (0 : Int)), .int (iI (v2 - (1 : Int)))]) (st := []) (cells' := 0) (slots' := 0) hX (fun _ h => mc_M_in h) mk_M_in mq_868 mq_867 ⟨(Nat.le_of_ble_eq_true rfl), (Nat.le_of_ble_eq_true rfl)⟩ rfl rfl (Nat.le_of_ble_eq_true rfl) ⟨(Nat.le_of_ble_eq_true rfl), (Nat.le_of_ble_eq_true rfl)⟩ rfl rfl md_M_addPoint_8 (fun v4 s3 => ?_)
  refine sp_if_eq (pc := 11) hX 28 (by decide) md_M_addPoint_11 (fun _ => ?_) (fun _ => ?_)
  · refine sp_sub [0] (L' := [(0, Value.ref x0)]) rfl ?_
    exact sj_M_addPoint_28 hX hR x0 s3
  · refine sp_iload_n (pc := 14) (k := 2) (i := 2) hX rfl 2 rfl md_M_addPoint_14 ?_
    refine sp_iconst (pc := 15) hX md_M_addPoint_15 ?_
    refine sp_aload_n (pc := 16) (k := 0) (i := 0) hX rfl 0 rfl md_M_addPoint_16 ?_
    refine sp_callVI (pc := 17) (y := my_M_prime) (ccy := prog_14_method_4_code) (nLy := 1) (ret := (some .int)) (rmy := mr_M_prime) (n := 0) (idx := 61) (As := []) (st := [.int (iI (0 : Int)), .int (iI x2)]) (o := x0) (cells' := 0) (slots' := 0) hX (fun _ h => mc_M_prime h) mk_M_prime mv_M_prime mcl_10 (fun _ h => pw_gd_of h) mq_878 ⟨(Nat.le_of_ble_eq_true rfl), (Nat.le_of_ble_eq_true rfl)⟩ rfl rfl (Nat.le_of_ble_eq_true rfl) ⟨(Nat.le_of_ble_eq_true rfl), (Nat.le_of_ble_eq_true rfl)⟩ rfl rfl md_M_addPoint_17 (fun v8 s7 => ?_)
    refine sp_iconst (pc := 20) hX md_M_addPoint_20 ?_
    refine sp_isub (pc := 21) hX md_M_addPoint_21 ?_
    refine sp_callSI (pc := 22) (y := my_M_in) (ccy := prog_14_method_2_code) (nLy := 3) (ret := (some .boolean)) (rmy := mr_M_in) (n := 3) (idx := 65) (As := [.int (iI x2), .int (iI (0 : Int)), .int (iI (v8 - (1 : Int)))]) (st := []) (cells' := 0) (slots' := 0) hX (fun _ h => mc_M_in h) mk_M_in mq_868 mq_867 ⟨(Nat.le_of_ble_eq_true rfl), (Nat.le_of_ble_eq_true rfl)⟩ rfl rfl (Nat.le_of_ble_eq_true rfl) ⟨(Nat.le_of_ble_eq_true rfl), (Nat.le_of_ble_eq_true rfl)⟩ rfl rfl md_M_addPoint_22 (fun v10 s9 => ?_)
    refine sp_if_ne (pc := 25) hX 35 (by decide) md_M_addPoint_25 (fun _ => ?_) (fun _ => ?_)
    · refine sp_sub [0] (L' := [(0, Value.ref x0)]) rfl ?_
      exact sj_M_addPoint_28 hX hR x0 s9
    · refine sp_iconst (pc := 35) hX md_M_addPoint_35 ?_
      refine sp_istore_n (pc := 36) (k := 3) (i := 3) (L' := [(3, Value.int (iI (0 : Int))), (0, Value.ref x0), (1, Value.int (iI x1)), (2, Value.int (iI x2))]) hX rfl (by decide) rfl md_M_addPoint_36 ?_
      refine sp_sub [1, 2, 3, 0] (L' := [(0, Value.ref x0), (1, Value.int (iI x1)), (2, Value.int (iI x2)), (3, Value.int (iI (0 : Int)))]) rfl ?_
      exact sl_M_addPoint_37 hX hR 1000 x0 x1 x2 (0 : Int) s9
/-! PadeWorkbenchModel.clearPoints()I -/
theorem md_M_clearPoints_0 : decode prog_14_method_72_code 0 = .ok (.aload_n 0, 1) := by decide +kernel
theorem md_M_clearPoints_1 : decode prog_14_method_72_code 1 = .ok (.invokevirtual 81, 3) := by decide +kernel
theorem md_M_clearPoints_4 : decode prog_14_method_72_code 4 = .ok (.aload_n 0, 1) := by decide +kernel
theorem md_M_clearPoints_5 : decode prog_14_method_72_code 5 = .ok (.invokevirtual 219, 3) := by decide +kernel
theorem md_M_clearPoints_8 : decode prog_14_method_72_code 8 = .ok (.istore_n 1, 1) := by decide +kernel
theorem md_M_clearPoints_9 : decode prog_14_method_72_code 9 = .ok (.bipush 65, 2) := by decide +kernel
theorem md_M_clearPoints_11 : decode prog_14_method_72_code 11 = .ok (.istore_n 2, 1) := by decide +kernel
theorem md_M_clearPoints_12 : decode prog_14_method_72_code 12 = .ok (.iload_n 2, 1) := by decide +kernel
theorem md_M_clearPoints_13 : decode prog_14_method_72_code 13 = .ok (.bipush 86, 2) := by decide +kernel
theorem md_M_clearPoints_15 : decode prog_14_method_72_code 15 = .ok (.if_icmp .ge 16, 3) := by decide +kernel
theorem md_M_clearPoints_31 : decode prog_14_method_72_code 31 = .ok (.iload_n 1, 1) := by decide +kernel
theorem md_M_clearPoints_32 : decode prog_14_method_72_code 32 = .ok (.ireturn, 1) := by decide +kernel
theorem md_M_clearPoints_18 : decode prog_14_method_72_code 18 = .ok (.aload_n 0, 1) := by decide +kernel
theorem md_M_clearPoints_19 : decode prog_14_method_72_code 19 = .ok (.getfield 7, 3) := by decide +kernel
theorem md_M_clearPoints_22 : decode prog_14_method_72_code 22 = .ok (.iload_n 2, 1) := by decide +kernel
theorem md_M_clearPoints_23 : decode prog_14_method_72_code 23 = .ok (.iconst 0, 1) := by decide +kernel
theorem md_M_clearPoints_24 : decode prog_14_method_72_code 24 = .ok (.iastore, 1) := by decide +kernel
theorem md_M_clearPoints_25 : decode prog_14_method_72_code 25 = .ok (.iinc 2 1, 3) := by decide +kernel
theorem md_M_clearPoints_28 : decode prog_14_method_72_code 28 = .ok (.goto (-16), 3) := by decide +kernel
def mb_M_clearPoints_12 (rc : Nat → Int → Int → pw_Sto → Option (Int × pw_Sto)) : Nat → Int → Int → pw_Sto → Option (Int × pw_Sto) := fun x0 x1 x2 σ => pw_ck x2 (86 : Int) (if (86 : Int) ≤ x2 then some (x1, σ) else (pw_gr 10 x0 0 σ).bind (fun v4 => (pw_si v4 x2 (0 : Int) σ).bind (fun s5 => rc x0 x1 (x2 + 1) s5)))
def ml_M_clearPoints_12 : Nat → Nat → Int → Int → pw_Sto → Option (Int × pw_Sto) := pw_lp (fun _ _ _ _ => none) (mb_M_clearPoints_12)
def mf_M_clearPoints (x0 : Nat) (σ : pw_Sto) : Option (Int × pw_Sto) := pw_gd 10 x0 σ (pw_bd (mf_M_save x0 σ) (fun _ s1 => pw_bd (mf_M_points x0 s1) (fun v3 s2 => ml_M_clearPoints_12 1000 x0 v3 (65 : Int) s2)))
set_option maxHeartbeats 4000000 in
set_option maxRecDepth 20000 in
theorem sl_M_clearPoints_12 {X : pw_X Int} (hX : pw_Ok X prog_14_method_72_code "PadeWorkbenchModel" mr_M_clearPoints 3) (hR : pw_RI X prog_14_method_72_code) : ∀ (n : Nat) (x0 : Nat) (x1 : Int) (x2 : Int) (σ : pw_Sto), pw_Sp X 0 0 12 [(0, Value.ref x0), (1, Value.int (iI x1)), (2, Value.int (iI x2))] [] σ (ml_M_clearPoints_12 n x0 x1 x2 σ) := by
  intro n
  induction n with
  | zero => intros; exact pw_none
  | succ n ih =>
    intro x0 x1 x2 σ
    show pw_Sp X 0 0 12 _ _ σ (mb_M_clearPoints_12 (ml_M_clearPoints_12 n) x0 x1 x2 σ)
    unfold mb_M_clearPoints_12
    refine sp_iload_n (pc := 12) (k := 2) (i := 2) hX rfl 2 rfl md_M_clearPoints_12 ?_
    refine sp_bipush (pc := 13) hX (by decide) md_M_clearPoints_13 ?_
    refine sp_icmp_ge (pc := 15) hX 31 (by decide) md_M_clearPoints_15 (fun _ => ?_) (fun _ => ?_)
    · refine sp_iload_n (pc := 31) (k := 1) (i := 1) hX rfl 1 rfl md_M_clearPoints_31 ?_
      exact sp_iret (pc := 32) hX hR rfl (Nat.le_of_ble_eq_true rfl) md_M_clearPoints_32
    · refine sp_aload_n (pc := 18) (k := 0) (i := 0) hX rfl 0 rfl md_M_clearPoints_18 ?_
      refine sp_getR (pc := 19) (ci := 10) (k := 0) (idx := 7) hX mcl_10 (by decide) mq_799 rfl md_M_clearPoints_19 (fun v4 => ?_)
      refine sp_iload_n (pc := 22) (k := 2) (i := 2) hX rfl 2 rfl md_M_clearPoints_22 ?_
      refine sp_iconst (pc := 23) hX md_M_clearPoints_23 ?_
      refine sp_iastore (pc := 24) hX md_M_clearPoints_24 (fun s5 => ?_)
      refine sp_iinc (pc := 25) (i := 2) (L' := [(2, Value.int (iI (x2 + 1))), (0, Value.ref x0), (1, Value.int (iI x1))]) hX 2 rfl (by decide) rfl md_M_clearPoints_25 ?_
      refine sp_goto (pc := 28) hX 12 (by decide) md_M_clearPoints_28 ?_
      refine sp_sub [1, 2, 0] (L' := [(0, Value.ref x0), (1, Value.int (iI x1)), (2, Value.int (iI (x2 + 1)))]) rfl ?_
      exact ih x0 x1 (x2 + 1) s5
set_option maxHeartbeats 4000000 in
set_option maxRecDepth 20000 in
theorem mc_M_clearPoints {l : Launch} {E : pw_E} {σ : pw_Sto} {x0 : Nat} {out : Int × pw_Sto} (h : mf_M_clearPoints x0 σ = some out) : pw_CI l E my_M_clearPoints prog_14_method_72_code 3 (some .int) mr_M_clearPoints [.ref x0] σ out := by
  unfold mf_M_clearPoints at h
  refine pw_entryI (by decide) (Nat.le_of_ble_eq_true rfl) (pw_gd_val h) (fun X hX hR hI => ?_)
  change pw_Ok X prog_14_method_72_code "PadeWorkbenchModel" mr_M_clearPoints 3 at hX
  show pw_Sp X 0 0 0 [(0, Value.ref x0)] [] σ _
  refine sp_aload_n (pc := 0) (k := 0) (i := 0) hX rfl 0 rfl md_M_clearPoints_0 ?_
  refine sp_callVV (pc := 1) (y := my_M_save) (ccy := prog_14_method_10_code) (nLy := 2) (ret := none) (rmy := mr_M_save) (n := 0) (idx := 81) (As := []) (st := []) (o := x0) (cells' := 0) (slots' := 0) hX (fun _ h => mc_M_save h) mk_M_save mv_M_save mcl_10 (fun _ h => pw_gd_of h) mq_874 ⟨(Nat.le_of_ble_eq_true rfl), (Nat.le_of_ble_eq_true rfl)⟩ rfl rfl (Nat.le_of_ble_eq_true rfl) ⟨(Nat.le_of_ble_eq_true rfl), (Nat.le_of_ble_eq_true rfl)⟩ rfl rfl md_M_clearPoints_1 (fun s1 => ?_)
  refine sp_aload_n (pc := 4) (k := 0) (i := 0) hX rfl 0 rfl md_M_clearPoints_4 ?_
  refine sp_callVI (pc := 5) (y := my_M_points) (ccy := prog_14_method_70_code) (nLy := 1) (ret := (some .int)) (rmy := mr_M_points) (n := 0) (idx := 219) (As := []) (st := []) (o := x0) (cells' := 0) (slots' := 0) hX (fun _ h => mc_M_points h) mk_M_points mv_M_points mcl_10 (fun _ h => pw_gd_of h) mq_1129 ⟨(Nat.le_of_ble_eq_true rfl), (Nat.le_of_ble_eq_true rfl)⟩ rfl rfl (Nat.le_of_ble_eq_true rfl) ⟨(Nat.le_of_ble_eq_true rfl), (Nat.le_of_ble_eq_true rfl)⟩ rfl rfl md_M_clearPoints_5 (fun v3 s2 => ?_)
  refine sp_istore_n (pc := 8) (k := 1) (i := 1) (L' := [(1, Value.int (iI v3)), (0, Value.ref x0)]) hX rfl (by decide) rfl md_M_clearPoints_8 ?_
  refine sp_bipush (pc := 9) hX (by decide) md_M_clearPoints_9 ?_
  refine sp_istore_n (pc := 11) (k := 2) (i := 2) (L' := [(2, Value.int (iI (65 : Int))), (1, Value.int (iI v3)), (0, Value.ref x0)]) hX rfl (by decide) rfl md_M_clearPoints_11 ?_
  refine sp_sub [2, 1, 0] (L' := [(0, Value.ref x0), (1, Value.int (iI v3)), (2, Value.int (iI (65 : Int)))]) rfl ?_
  exact sl_M_clearPoints_12 hX hR 1000 x0 v3 (65 : Int) s2
/-! PadeWorkbenchModel.interpolate(I)V -/
theorem md_M_interpolate_0 : decode prog_14_method_73_code 0 = .ok (.aload_n 0, 1) := by decide +kernel
theorem md_M_interpolate_1 : decode prog_14_method_73_code 1 = .ok (.invokevirtual 219, 3) := by decide +kernel
theorem md_M_interpolate_4 : decode prog_14_method_73_code 4 = .ok (.istore_n 2, 1) := by decide +kernel
theorem md_M_interpolate_5 : decode prog_14_method_73_code 5 = .ok (.aload_n 0, 1) := by decide +kernel
theorem md_M_interpolate_6 : decode prog_14_method_73_code 6 = .ok (.getfield 31, 3) := by decide +kernel
theorem md_M_interpolate_9 : decode prog_14_method_73_code 9 = .ok (.invokestatic 107, 3) := by decide +kernel
theorem md_M_interpolate_12 : decode prog_14_method_73_code 12 = .ok (.iconst 0, 1) := by decide +kernel
theorem md_M_interpolate_13 : decode prog_14_method_73_code 13 = .ok (.istore_n 3, 1) := by decide +kernel
theorem md_M_interpolate_14 : decode prog_14_method_73_code 14 = .ok (.iload_n 3, 1) := by decide +kernel
theorem md_M_interpolate_15 : decode prog_14_method_73_code 15 = .ok (.iload_n 2, 1) := by decide +kernel
theorem md_M_interpolate_16 : decode prog_14_method_73_code 16 = .ok (.if_icmp .ge 108, 3) := by decide +kernel
theorem md_M_interpolate_124 : decode prog_14_method_73_code 124 = .ok (.aload_n 0, 1) := by decide +kernel
theorem md_M_interpolate_125 : decode prog_14_method_73_code 125 = .ok (.iload_n 2, 1) := by decide +kernel
theorem md_M_interpolate_126 : decode prog_14_method_73_code 126 = .ok (.iload_n 2, 1) := by decide +kernel
theorem md_M_interpolate_127 : decode prog_14_method_73_code 127 = .ok (.iconst 1, 1) := by decide +kernel
theorem md_M_interpolate_128 : decode prog_14_method_73_code 128 = .ok (.iadd, 1) := by decide +kernel
theorem md_M_interpolate_129 : decode prog_14_method_73_code 129 = .ok (.invokevirtual 171, 3) := by decide +kernel
theorem md_M_interpolate_132 : decode prog_14_method_73_code 132 = .ok (.aload_n 0, 1) := by decide +kernel
theorem md_M_interpolate_133 : decode prog_14_method_73_code 133 = .ok (.getfield 40, 3) := by decide +kernel
theorem md_M_interpolate_136 : decode prog_14_method_73_code 136 = .ok (.invokestatic 107, 3) := by decide +kernel
theorem md_M_interpolate_139 : decode prog_14_method_73_code 139 = .ok (.aload_n 0, 1) := by decide +kernel
theorem md_M_interpolate_140 : decode prog_14_method_73_code 140 = .ok (.getfield 43, 3) := by decide +kernel
theorem md_M_interpolate_143 : decode prog_14_method_73_code 143 = .ok (.invokestatic 107, 3) := by decide +kernel
theorem md_M_interpolate_146 : decode prog_14_method_73_code 146 = .ok (.iconst 0, 1) := by decide +kernel
theorem md_M_interpolate_147 : decode prog_14_method_73_code 147 = .ok (.istore_n 3, 1) := by decide +kernel
theorem md_M_interpolate_148 : decode prog_14_method_73_code 148 = .ok (.iload_n 3, 1) := by decide +kernel
theorem md_M_interpolate_149 : decode prog_14_method_73_code 149 = .ok (.iload_n 2, 1) := by decide +kernel
theorem md_M_interpolate_150 : decode prog_14_method_73_code 150 = .ok (.if_icmp .gt 45, 3) := by decide +kernel
theorem md_M_interpolate_195 : decode prog_14_method_73_code 195 = .ok (.aload_n 0, 1) := by decide +kernel
theorem md_M_interpolate_196 : decode prog_14_method_73_code 196 = .ok (.invokevirtual 174, 3) := by decide +kernel
theorem md_M_interpolate_199 : decode prog_14_method_73_code 199 = .ok (.return_, 1) := by decide +kernel
theorem md_M_interpolate_153 : decode prog_14_method_73_code 153 = .ok (.iload_n 3, 1) := by decide +kernel
theorem md_M_interpolate_154 : decode prog_14_method_73_code 154 = .ok (.iload_n 1, 1) := by decide +kernel
theorem md_M_interpolate_155 : decode prog_14_method_73_code 155 = .ok (.if_icmp .gt 18, 3) := by decide +kernel
theorem md_M_interpolate_173 : decode prog_14_method_73_code 173 = .ok (.aload_n 0, 1) := by decide +kernel
theorem md_M_interpolate_174 : decode prog_14_method_73_code 174 = .ok (.getfield 43, 3) := by decide +kernel
theorem md_M_interpolate_177 : decode prog_14_method_73_code 177 = .ok (.iload_n 3, 1) := by decide +kernel
theorem md_M_interpolate_178 : decode prog_14_method_73_code 178 = .ok (.iload_n 1, 1) := by decide +kernel
theorem md_M_interpolate_179 : decode prog_14_method_73_code 179 = .ok (.isub, 1) := by decide +kernel
theorem md_M_interpolate_180 : decode prog_14_method_73_code 180 = .ok (.iconst 1, 1) := by decide +kernel
theorem md_M_interpolate_181 : decode prog_14_method_73_code 181 = .ok (.isub, 1) := by decide +kernel
theorem md_M_interpolate_182 : decode prog_14_method_73_code 182 = .ok (.aload_n 0, 1) := by decide +kernel
theorem md_M_interpolate_183 : decode prog_14_method_73_code 183 = .ok (.getfield 37, 3) := by decide +kernel
theorem md_M_interpolate_186 : decode prog_14_method_73_code 186 = .ok (.iload_n 3, 1) := by decide +kernel
theorem md_M_interpolate_187 : decode prog_14_method_73_code 187 = .ok (.iaload, 1) := by decide +kernel
theorem md_M_interpolate_188 : decode prog_14_method_73_code 188 = .ok (.iastore, 1) := by decide +kernel
theorem md_M_interpolate_189 : decode prog_14_method_73_code 189 = .ok (.iinc 3 1, 3) := by decide +kernel
theorem md_M_interpolate_192 : decode prog_14_method_73_code 192 = .ok (.goto (-44), 3) := by decide +kernel
theorem md_M_interpolate_158 : decode prog_14_method_73_code 158 = .ok (.aload_n 0, 1) := by decide +kernel
theorem md_M_interpolate_159 : decode prog_14_method_73_code 159 = .ok (.getfield 40, 3) := by decide +kernel
theorem md_M_interpolate_162 : decode prog_14_method_73_code 162 = .ok (.iload_n 3, 1) := by decide +kernel
theorem md_M_interpolate_163 : decode prog_14_method_73_code 163 = .ok (.aload_n 0, 1) := by decide +kernel
theorem md_M_interpolate_164 : decode prog_14_method_73_code 164 = .ok (.getfield 37, 3) := by decide +kernel
theorem md_M_interpolate_167 : decode prog_14_method_73_code 167 = .ok (.iload_n 3, 1) := by decide +kernel
theorem md_M_interpolate_168 : decode prog_14_method_73_code 168 = .ok (.iaload, 1) := by decide +kernel
theorem md_M_interpolate_169 : decode prog_14_method_73_code 169 = .ok (.iastore, 1) := by decide +kernel
theorem md_M_interpolate_170 : decode prog_14_method_73_code 170 = .ok (.goto 19, 3) := by decide +kernel
theorem md_M_interpolate_19 : decode prog_14_method_73_code 19 = .ok (.iconst 1, 1) := by decide +kernel
theorem md_M_interpolate_20 : decode prog_14_method_73_code 20 = .ok (.istore 4, 2) := by decide +kernel
theorem md_M_interpolate_22 : decode prog_14_method_73_code 22 = .ok (.iconst 0, 1) := by decide +kernel
theorem md_M_interpolate_23 : decode prog_14_method_73_code 23 = .ok (.istore 5, 2) := by decide +kernel
theorem md_M_interpolate_25 : decode prog_14_method_73_code 25 = .ok (.iload 5, 2) := by decide +kernel
theorem md_M_interpolate_27 : decode prog_14_method_73_code 27 = .ok (.iload_n 2, 1) := by decide +kernel
theorem md_M_interpolate_28 : decode prog_14_method_73_code 28 = .ok (.if_icmp .ge 90, 3) := by decide +kernel
theorem md_M_interpolate_118 : decode prog_14_method_73_code 118 = .ok (.iinc 3 1, 3) := by decide +kernel
theorem md_M_interpolate_121 : decode prog_14_method_73_code 121 = .ok (.goto (-107), 3) := by decide +kernel
theorem md_M_interpolate_31 : decode prog_14_method_73_code 31 = .ok (.iload 5, 2) := by decide +kernel
theorem md_M_interpolate_33 : decode prog_14_method_73_code 33 = .ok (.iload_n 1, 1) := by decide +kernel
theorem md_M_interpolate_34 : decode prog_14_method_73_code 34 = .ok (.if_icmp .gt 17, 3) := by decide +kernel
theorem md_M_interpolate_51 : decode prog_14_method_73_code 51 = .ok (.iload 5, 2) := by decide +kernel
theorem md_M_interpolate_53 : decode prog_14_method_73_code 53 = .ok (.iload_n 2, 1) := by decide +kernel
theorem md_M_interpolate_54 : decode prog_14_method_73_code 54 = .ok (.iconst 1, 1) := by decide +kernel
theorem md_M_interpolate_55 : decode prog_14_method_73_code 55 = .ok (.isub, 1) := by decide +kernel
theorem md_M_interpolate_56 : decode prog_14_method_73_code 56 = .ok (.iload_n 1, 1) := by decide +kernel
theorem md_M_interpolate_57 : decode prog_14_method_73_code 57 = .ok (.isub, 1) := by decide +kernel
theorem md_M_interpolate_58 : decode prog_14_method_73_code 58 = .ok (.if_icmp .gt 36, 3) := by decide +kernel
theorem md_M_interpolate_94 : decode prog_14_method_73_code 94 = .ok (.aload_n 0, 1) := by decide +kernel
theorem md_M_interpolate_95 : decode prog_14_method_73_code 95 = .ok (.iload 4, 2) := by decide +kernel
theorem md_M_interpolate_97 : decode prog_14_method_73_code 97 = .ok (.aload_n 0, 1) := by decide +kernel
theorem md_M_interpolate_98 : decode prog_14_method_73_code 98 = .ok (.getfield 7, 3) := by decide +kernel
theorem md_M_interpolate_101 : decode prog_14_method_73_code 101 = .ok (.bipush 66, 2) := by decide +kernel
theorem md_M_interpolate_103 : decode prog_14_method_73_code 103 = .ok (.iload_n 3, 1) := by decide +kernel
theorem md_M_interpolate_104 : decode prog_14_method_73_code 104 = .ok (.iadd, 1) := by decide +kernel
theorem md_M_interpolate_105 : decode prog_14_method_73_code 105 = .ok (.iaload, 1) := by decide +kernel
theorem md_M_interpolate_106 : decode prog_14_method_73_code 106 = .ok (.imul, 1) := by decide +kernel
theorem md_M_interpolate_107 : decode prog_14_method_73_code 107 = .ok (.invokevirtual 91, 3) := by decide +kernel
theorem md_M_interpolate_110 : decode prog_14_method_73_code 110 = .ok (.istore 4, 2) := by decide +kernel
theorem md_M_interpolate_112 : decode prog_14_method_73_code 112 = .ok (.iinc 5 1, 3) := by decide +kernel
theorem md_M_interpolate_115 : decode prog_14_method_73_code 115 = .ok (.goto (-90), 3) := by decide +kernel
theorem md_M_interpolate_61 : decode prog_14_method_73_code 61 = .ok (.aload_n 0, 1) := by decide +kernel
theorem md_M_interpolate_62 : decode prog_14_method_73_code 62 = .ok (.getfield 31, 3) := by decide +kernel
theorem md_M_interpolate_65 : decode prog_14_method_73_code 65 = .ok (.bipush 18, 2) := by decide +kernel
theorem md_M_interpolate_67 : decode prog_14_method_73_code 67 = .ok (.iload_n 3, 1) := by decide +kernel
theorem md_M_interpolate_68 : decode prog_14_method_73_code 68 = .ok (.imul, 1) := by decide +kernel
theorem md_M_interpolate_69 : decode prog_14_method_73_code 69 = .ok (.iload_n 1, 1) := by decide +kernel
theorem md_M_interpolate_70 : decode prog_14_method_73_code 70 = .ok (.iadd, 1) := by decide +kernel
theorem md_M_interpolate_71 : decode prog_14_method_73_code 71 = .ok (.iconst 1, 1) := by decide +kernel
theorem md_M_interpolate_72 : decode prog_14_method_73_code 72 = .ok (.iadd, 1) := by decide +kernel
theorem md_M_interpolate_73 : decode prog_14_method_73_code 73 = .ok (.iload 5, 2) := by decide +kernel
theorem md_M_interpolate_75 : decode prog_14_method_73_code 75 = .ok (.iadd, 1) := by decide +kernel
theorem md_M_interpolate_76 : decode prog_14_method_73_code 76 = .ok (.aload_n 0, 1) := by decide +kernel
theorem md_M_interpolate_77 : decode prog_14_method_73_code 77 = .ok (.iload 4, 2) := by decide +kernel
theorem md_M_interpolate_79 : decode prog_14_method_73_code 79 = .ok (.ineg, 1) := by decide +kernel
theorem md_M_interpolate_80 : decode prog_14_method_73_code 80 = .ok (.aload_n 0, 1) := by decide +kernel
theorem md_M_interpolate_81 : decode prog_14_method_73_code 81 = .ok (.getfield 7, 3) := by decide +kernel
theorem md_M_interpolate_84 : decode prog_14_method_73_code 84 = .ok (.bipush 76, 2) := by decide +kernel
theorem md_M_interpolate_86 : decode prog_14_method_73_code 86 = .ok (.iload_n 3, 1) := by decide +kernel
theorem md_M_interpolate_87 : decode prog_14_method_73_code 87 = .ok (.iadd, 1) := by decide +kernel
theorem md_M_interpolate_88 : decode prog_14_method_73_code 88 = .ok (.iaload, 1) := by decide +kernel
theorem md_M_interpolate_89 : decode prog_14_method_73_code 89 = .ok (.imul, 1) := by decide +kernel
theorem md_M_interpolate_90 : decode prog_14_method_73_code 90 = .ok (.invokevirtual 91, 3) := by decide +kernel
theorem md_M_interpolate_93 : decode prog_14_method_73_code 93 = .ok (.iastore, 1) := by decide +kernel
theorem md_M_interpolate_37 : decode prog_14_method_73_code 37 = .ok (.aload_n 0, 1) := by decide +kernel
theorem md_M_interpolate_38 : decode prog_14_method_73_code 38 = .ok (.getfield 31, 3) := by decide +kernel
theorem md_M_interpolate_41 : decode prog_14_method_73_code 41 = .ok (.bipush 18, 2) := by decide +kernel
theorem md_M_interpolate_43 : decode prog_14_method_73_code 43 = .ok (.iload_n 3, 1) := by decide +kernel
theorem md_M_interpolate_44 : decode prog_14_method_73_code 44 = .ok (.imul, 1) := by decide +kernel
theorem md_M_interpolate_45 : decode prog_14_method_73_code 45 = .ok (.iload 5, 2) := by decide +kernel
theorem md_M_interpolate_47 : decode prog_14_method_73_code 47 = .ok (.iadd, 1) := by decide +kernel
theorem md_M_interpolate_48 : decode prog_14_method_73_code 48 = .ok (.iload 4, 2) := by decide +kernel
theorem md_M_interpolate_50 : decode prog_14_method_73_code 50 = .ok (.iastore, 1) := by decide +kernel
def mb_M_interpolate_148 (rc : Nat → Int → Int → Int → pw_Sto → Option (Unit × pw_Sto)) : Nat → Int → Int → Int → pw_Sto → Option (Unit × pw_Sto) := fun x0 x1 x2 x3 σ => pw_ck x3 x2 (if x2 < x3 then pw_bd (mf_M_toLowest x0 σ) (fun _ s10 => some ((), s10)) else pw_ck x3 x1 (if x1 < x3 then (pw_gr 10 x0 14 σ).bind (fun v11 => (pw_gr 10 x0 12 σ).bind (fun v12 => (pw_ai v12 x3 σ).bind (fun v13 => (pw_si v11 ((x3 - x1) - (1 : Int)) v13 σ).bind (fun s14 => rc x0 x1 x2 (x3 + 1) s14)))) else (pw_gr 10 x0 13 σ).bind (fun v15 => (pw_gr 10 x0 12 σ).bind (fun v16 => (pw_ai v16 x3 σ).bind (fun v17 => (pw_si v15 x3 v17 σ).bind (fun s18 => rc x0 x1 x2 (x3 + 1) s18))))))
def ml_M_interpolate_148 : Nat → Nat → Int → Int → Int → pw_Sto → Option (Unit × pw_Sto) := pw_lp (fun _ _ _ _ _ => none) (mb_M_interpolate_148)
def mj_M_interpolate_94 (r14 : Nat → Int → Int → Int → pw_Sto → Option (Unit × pw_Sto)) (r25 : Nat → Int → Int → Int → Int → Int → pw_Sto → Option (Unit × pw_Sto)) (x0 : Nat) (x1 : Int) (x2 : Int) (x3 : Int) (x4 : Int) (x5 : Int) (σ : pw_Sto) : Option (Unit × pw_Sto) := (pw_gr 10 x0 0 σ).bind (fun v19 => (pw_ai v19 ((66 : Int) + x3) σ).bind (fun v20 => pw_bd (mf_M_mod x0 (x4 * v20) σ) (fun v22 s21 => r25 x0 x1 x2 x3 v22 (x5 + 1) s21)))
def mj_M_interpolate_51 (r14 : Nat → Int → Int → Int → pw_Sto → Option (Unit × pw_Sto)) (r25 : Nat → Int → Int → Int → Int → Int → pw_Sto → Option (Unit × pw_Sto)) (x0 : Nat) (x1 : Int) (x2 : Int) (x3 : Int) (x4 : Int) (x5 : Int) (σ : pw_Sto) : Option (Unit × pw_Sto) := pw_ck x5 ((x2 - (1 : Int)) - x1) (if ((x2 - (1 : Int)) - x1) < x5 then mj_M_interpolate_94 r14 r25 x0 x1 x2 x3 x4 x5 σ else (pw_gr 10 x0 10 σ).bind (fun v23 => (pw_gr 10 x0 0 σ).bind (fun v24 => (pw_ai v24 ((76 : Int) + x3) σ).bind (fun v25 => pw_bd (mf_M_mod x0 ((-x4) * v25) σ) (fun v27 s26 => (pw_si v23 (((((18 : Int) * x3) + x1) + (1 : Int)) + x5) v27 s26).bind (fun s28 => mj_M_interpolate_94 r14 r25 x0 x1 x2 x3 x4 x5 s28))))))
def mb_M_interpolate_25 (r14 : Nat → Int → Int → Int → pw_Sto → Option (Unit × pw_Sto)) (rc : Nat → Int → Int → Int → Int → Int → pw_Sto → Option (Unit × pw_Sto)) : Nat → Int → Int → Int → Int → Int → pw_Sto → Option (Unit × pw_Sto) := fun x0 x1 x2 x3 x4 x5 σ => pw_ck x5 x2 (if x2 ≤ x5 then r14 x0 x1 x2 (x3 + 1) σ else pw_ck x5 x1 (if x1 < x5 then mj_M_interpolate_51 r14 rc x0 x1 x2 x3 x4 x5 σ else (pw_gr 10 x0 10 σ).bind (fun v29 => (pw_si v29 (((18 : Int) * x3) + x5) x4 σ).bind (fun s30 => mj_M_interpolate_51 r14 rc x0 x1 x2 x3 x4 x5 s30))))
def ml_M_interpolate_25 (r14 : Nat → Int → Int → Int → pw_Sto → Option (Unit × pw_Sto)) : Nat → Nat → Int → Int → Int → Int → Int → pw_Sto → Option (Unit × pw_Sto) := pw_lp (fun _ _ _ _ _ _ _ => none) (mb_M_interpolate_25 r14)
def mb_M_interpolate_14 (rc : Nat → Int → Int → Int → pw_Sto → Option (Unit × pw_Sto)) : Nat → Int → Int → Int → pw_Sto → Option (Unit × pw_Sto) := fun x0 x1 x2 x3 σ => pw_ck x3 x2 (if x2 ≤ x3 then pw_bd (mf_M_findVector x0 x2 (x2 + (1 : Int)) σ) (fun _ s5 => (pw_gr 10 x0 13 s5).bind (fun v6 => pw_bd (mf_M_clear v6 s5) (fun _ s7 => (pw_gr 10 x0 14 s7).bind (fun v8 => pw_bd (mf_M_clear v8 s7) (fun _ s9 => ml_M_interpolate_148 1000 x0 x1 x2 (0 : Int) s9))))) else ml_M_interpolate_25 rc 1000 x0 x1 x2 x3 (1 : Int) (0 : Int) σ)
def ml_M_interpolate_14 : Nat → Nat → Int → Int → Int → pw_Sto → Option (Unit × pw_Sto) := pw_lp (fun _ _ _ _ _ => none) (mb_M_interpolate_14)
def mf_M_interpolate (x0 : Nat) (x1 : Int) (σ : pw_Sto) : Option (Unit × pw_Sto) := pw_gd 10 x0 σ (pw_bd (mf_M_points x0 σ) (fun v2 s1 => (pw_gr 10 x0 10 s1).bind (fun v3 => pw_bd (mf_M_clear v3 s1) (fun _ s4 => ml_M_interpolate_14 1000 x0 x1 v2 (0 : Int) s4))))
set_option maxHeartbeats 4000000 in
set_option maxRecDepth 20000 in
theorem sl_M_interpolate_148 {X : pw_X Unit} (hX : pw_Ok X prog_14_method_73_code "PadeWorkbenchModel" mr_M_interpolate 6) (hR : pw_RV X prog_14_method_73_code) : ∀ (n : Nat) (x0 : Nat) (x1 : Int) (x2 : Int) (x3 : Int) (σ : pw_Sto), pw_Sp X 0 0 148 [(0, Value.ref x0), (1, Value.int (iI x1)), (2, Value.int (iI x2)), (3, Value.int (iI x3))] [] σ (ml_M_interpolate_148 n x0 x1 x2 x3 σ) := by
  intro n
  induction n with
  | zero => intros; exact pw_none
  | succ n ih =>
    intro x0 x1 x2 x3 σ
    show pw_Sp X 0 0 148 _ _ σ (mb_M_interpolate_148 (ml_M_interpolate_148 n) x0 x1 x2 x3 σ)
    unfold mb_M_interpolate_148
    refine sp_iload_n (pc := 148) (k := 3) (i := 3) hX rfl 3 rfl md_M_interpolate_148 ?_
    refine sp_iload_n (pc := 149) (k := 2) (i := 2) hX rfl 2 rfl md_M_interpolate_149 ?_
    refine sp_icmp_gt (pc := 150) hX 195 (by decide) md_M_interpolate_150 (fun _ => ?_) (fun _ => ?_)
    · refine sp_aload_n (pc := 195) (k := 0) (i := 0) hX rfl 0 rfl md_M_interpolate_195 ?_
      refine sp_callVV (pc := 196) (y := my_M_toLowest) (ccy := prog_14_method_42_code) (nLy := 4) (ret := none) (rmy := mr_M_toLowest) (n := 0) (idx := 174) (As := []) (st := []) (o := x0) (cells' := 0) (slots' := 0) hX (fun _ h => mc_M_toLowest h) mk_M_toLowest mv_M_toLowest mcl_10 (fun _ h => pw_gd_of h) mq_1016 ⟨(Nat.le_of_ble_eq_true rfl), (Nat.le_of_ble_eq_true rfl)⟩ rfl rfl (Nat.le_of_ble_eq_true rfl) ⟨(Nat.le_of_ble_eq_true rfl), (Nat.le_of_ble_eq_true rfl)⟩ rfl rfl md_M_interpolate_196 (fun s10 => ?_)
      exact sp_vret (pc := 199) hX hR rfl (Nat.le_of_ble_eq_true rfl) md_M_interpolate_199
    · refine sp_iload_n (pc := 153) (k := 3) (i := 3) hX rfl 3 rfl md_M_interpolate_153 ?_
      refine sp_iload_n (pc := 154) (k := 1) (i := 1) hX rfl 1 rfl md_M_interpolate_154 ?_
      refine sp_icmp_gt (pc := 155) hX 173 (by decide) md_M_interpolate_155 (fun _ => ?_) (fun _ => ?_)
      · refine sp_aload_n (pc := 173) (k := 0) (i := 0) hX rfl 0 rfl md_M_interpolate_173 ?_
        refine sp_getR (pc := 174) (ci := 10) (k := 14) (idx := 43) hX mcl_10 (by decide) mq_813 rfl md_M_interpolate_174 (fun v11 => ?_)
        refine sp_iload_n (pc := 177) (k := 3) (i := 3) hX rfl 3 rfl md_M_interpolate_177 ?_
        refine sp_iload_n (pc := 178) (k := 1) (i := 1) hX rfl 1 rfl md_M_interpolate_178 ?_
        refine sp_isub (pc := 179) hX md_M_interpolate_179 ?_
        refine sp_iconst (pc := 180) hX md_M_interpolate_180 ?_
        refine sp_isub (pc := 181) hX md_M_interpolate_181 ?_
        refine sp_aload_n (pc := 182) (k := 0) (i := 0) hX rfl 0 rfl md_M_interpolate_182 ?_
        refine sp_getR (pc := 183) (ci := 10) (k := 12) (idx := 37) hX mcl_10 (by decide) mq_811 rfl md_M_interpolate_183 (fun v12 => ?_)
        refine sp_iload_n (pc := 186) (k := 3) (i := 3) hX rfl 3 rfl md_M_interpolate_186 ?_
        refine sp_iaload (pc := 187) hX md_M_interpolate_187 (fun v13 => ?_)
        refine sp_iastore (pc := 188) hX md_M_interpolate_188 (fun s14 => ?_)
        refine sp_iinc (pc := 189) (i := 3) (L' := [(3, Value.int (iI (x3 + 1))), (0, Value.ref x0), (1, Value.int (iI x1)), (2, Value.int (iI x2))]) hX 3 rfl (by decide) rfl md_M_interpolate_189 ?_
        refine sp_goto (pc := 192) hX 148 (by decide) md_M_interpolate_192 ?_
        refine sp_sub [1, 2, 3, 0] (L' := [(0, Value.ref x0), (1, Value.int (iI x1)), (2, Value.int (iI x2)), (3, Value.int (iI (x3 + 1)))]) rfl ?_
        exact ih x0 x1 x2 (x3 + 1) s14
      · refine sp_aload_n (pc := 158) (k := 0) (i := 0) hX rfl 0 rfl md_M_interpolate_158 ?_
        refine sp_getR (pc := 159) (ci := 10) (k := 13) (idx := 40) hX mcl_10 (by decide) mq_812 rfl md_M_interpolate_159 (fun v15 => ?_)
        refine sp_iload_n (pc := 162) (k := 3) (i := 3) hX rfl 3 rfl md_M_interpolate_162 ?_
        refine sp_aload_n (pc := 163) (k := 0) (i := 0) hX rfl 0 rfl md_M_interpolate_163 ?_
        refine sp_getR (pc := 164) (ci := 10) (k := 12) (idx := 37) hX mcl_10 (by decide) mq_811 rfl md_M_interpolate_164 (fun v16 => ?_)
        refine sp_iload_n (pc := 167) (k := 3) (i := 3) hX rfl 3 rfl md_M_interpolate_167 ?_
        refine sp_iaload (pc := 168) hX md_M_interpolate_168 (fun v17 => ?_)
        refine sp_iastore (pc := 169) hX md_M_interpolate_169 (fun s18 => ?_)
        refine sp_goto (pc := 170) hX 189 (by decide) md_M_interpolate_170 ?_
        refine sp_iinc (pc := 189) (i := 3) (L' := [(3, Value.int (iI (x3 + 1))), (0, Value.ref x0), (1, Value.int (iI x1)), (2, Value.int (iI x2))]) hX 3 rfl (by decide) rfl md_M_interpolate_189 ?_
        refine sp_goto (pc := 192) hX 148 (by decide) md_M_interpolate_192 ?_
        refine sp_sub [1, 2, 3, 0] (L' := [(0, Value.ref x0), (1, Value.int (iI x1)), (2, Value.int (iI x2)), (3, Value.int (iI (x3 + 1)))]) rfl ?_
        exact ih x0 x1 x2 (x3 + 1) s18
set_option maxHeartbeats 4000000 in
set_option maxRecDepth 20000 in
theorem sj_M_interpolate_94 {X : pw_X Unit} (hX : pw_Ok X prog_14_method_73_code "PadeWorkbenchModel" mr_M_interpolate 6) (hR : pw_RV X prog_14_method_73_code) {r14 : Nat → Int → Int → Int → pw_Sto → Option (Unit × pw_Sto)} {r25 : Nat → Int → Int → Int → Int → Int → pw_Sto → Option (Unit × pw_Sto)} (h14 : ∀ (z0 : Nat) (z1 : Int) (z2 : Int) (z3 : Int) (σ : pw_Sto), pw_Sp X 0 0 14 [(0, Value.ref z0), (1, Value.int (iI z1)), (2, Value.int (iI z2)), (3, Value.int (iI z3))] [] σ (r14 z0 z1 z2 z3 σ)) (h25 : ∀ (z0 : Nat) (z1 : Int) (z2 : Int) (z3 : Int) (z4 : Int) (z5 : Int) (σ : pw_Sto), pw_Sp X 0 0 25 [(0, Value.ref z0), (1, Value.int (iI z1)), (2, Value.int (iI z2)), (3, Value.int (iI z3)), (4, Value.int (iI z4)), (5, Value.int (iI z5))] [] σ (r25 z0 z1 z2 z3 z4 z5 σ)) (x0 : Nat) (x1 : Int) (x2 : Int) (x3 : Int) (x4 : Int) (x5 : Int) (σ : pw_Sto) : pw_Sp X 0 0 94 [(0, Value.ref x0), (1, Value.int (iI x1)), (2, Value.int (iI x2)), (3, Value.int (iI x3)), (4, Value.int (iI x4)), (5, Value.int (iI x5))] [] σ (mj_M_interpolate_94 r14 r25 x0 x1 x2 x3 x4 x5 σ) := by
  unfold mj_M_interpolate_94
  refine sp_aload_n (pc := 94) (k := 0) (i := 0) hX rfl 0 rfl md_M_interpolate_94 ?_
  refine sp_iload (pc := 95) (i := 4) hX 4 rfl md_M_interpolate_95 ?_
  refine sp_aload_n (pc := 97) (k := 0) (i := 0) hX rfl 0 rfl md_M_interpolate_97 ?_
  refine sp_getR (pc := 98) (ci := 10) (k := 0) (idx := 7) hX mcl_10 (by decide) mq_799 rfl md_M_interpolate_98 (fun v19 => ?_)
  refine sp_bipush (pc := 101) hX (by decide) md_M_interpolate_101 ?_
  refine sp_iload_n (pc := 103) (k := 3) (i := 3) hX rfl 3 rfl md_M_interpolate_103 ?_
  refine sp_iadd (pc := 104) hX md_M_interpolate_104 ?_
  refine sp_iaload (pc := 105) hX md_M_interpolate_105 (fun v20 => ?_)
  refine sp_imul (pc := 106) hX md_M_interpolate_106 ?_
  refine sp_callVI (pc := 107) (y := my_M_mod) (ccy := prog_14_method_5_code) (nLy := 3) (ret := (some .int)) (rmy := mr_M_mod) (n := 1) (idx := 91) (As := [.int (iI (x4 * v20))]) (st := []) (o := x0) (cells' := 0) (slots' := 0) hX (fun _ h => mc_M_mod h) mk_M_mod mv_M_mod mcl_10 (fun _ h => pw_gd_of h) mq_901 ⟨(Nat.le_of_ble_eq_true rfl), (Nat.le_of_ble_eq_true rfl)⟩ rfl rfl (Nat.le_of_ble_eq_true rfl) ⟨(Nat.le_of_ble_eq_true rfl), (Nat.le_of_ble_eq_true rfl)⟩ rfl rfl md_M_interpolate_107 (fun v22 s21 => ?_)
  refine sp_istore (pc := 110) (i := 4) (L' := [(4, Value.int (iI v22)), (0, Value.ref x0), (1, Value.int (iI x1)), (2, Value.int (iI x2)), (3, Value.int (iI x3)), (5, Value.int (iI x5))]) hX (by decide) rfl md_M_interpolate_110 ?_
  refine sp_iinc (pc := 112) (i := 5) (L' := [(5, Value.int (iI (x5 + 1))), (4, Value.int (iI v22)), (0, Value.ref x0), (1, Value.int (iI x1)), (2, Value.int (iI x2)), (3, Value.int (iI x3))]) hX 5 rfl (by decide) rfl md_M_interpolate_112 ?_
  refine sp_goto (pc := 115) hX 25 (by decide) md_M_interpolate_115 ?_
  refine sp_sub [2, 3, 4, 5, 1, 0] (L' := [(0, Value.ref x0), (1, Value.int (iI x1)), (2, Value.int (iI x2)), (3, Value.int (iI x3)), (4, Value.int (iI v22)), (5, Value.int (iI (x5 + 1)))]) rfl ?_
  exact h25 x0 x1 x2 x3 v22 (x5 + 1) s21
set_option maxHeartbeats 4000000 in
set_option maxRecDepth 20000 in
theorem sj_M_interpolate_51 {X : pw_X Unit} (hX : pw_Ok X prog_14_method_73_code "PadeWorkbenchModel" mr_M_interpolate 6) (hR : pw_RV X prog_14_method_73_code) {r14 : Nat → Int → Int → Int → pw_Sto → Option (Unit × pw_Sto)} {r25 : Nat → Int → Int → Int → Int → Int → pw_Sto → Option (Unit × pw_Sto)} (h14 : ∀ (z0 : Nat) (z1 : Int) (z2 : Int) (z3 : Int) (σ : pw_Sto), pw_Sp X 0 0 14 [(0, Value.ref z0), (1, Value.int (iI z1)), (2, Value.int (iI z2)), (3, Value.int (iI z3))] [] σ (r14 z0 z1 z2 z3 σ)) (h25 : ∀ (z0 : Nat) (z1 : Int) (z2 : Int) (z3 : Int) (z4 : Int) (z5 : Int) (σ : pw_Sto), pw_Sp X 0 0 25 [(0, Value.ref z0), (1, Value.int (iI z1)), (2, Value.int (iI z2)), (3, Value.int (iI z3)), (4, Value.int (iI z4)), (5, Value.int (iI z5))] [] σ (r25 z0 z1 z2 z3 z4 z5 σ)) (x0 : Nat) (x1 : Int) (x2 : Int) (x3 : Int) (x4 : Int) (x5 : Int) (σ : pw_Sto) : pw_Sp X 0 0 51 [(0, Value.ref x0), (1, Value.int (iI x1)), (2, Value.int (iI x2)), (3, Value.int (iI x3)), (4, Value.int (iI x4)), (5, Value.int (iI x5))] [] σ (mj_M_interpolate_51 r14 r25 x0 x1 x2 x3 x4 x5 σ) := by
  unfold mj_M_interpolate_51
  refine sp_iload (pc := 51) (i := 5) hX 5 rfl md_M_interpolate_51 ?_
  refine sp_iload_n (pc := 53) (k := 2) (i := 2) hX rfl 2 rfl md_M_interpolate_53 ?_
  refine sp_iconst (pc := 54) hX md_M_interpolate_54 ?_
  refine sp_isub (pc := 55) hX md_M_interpolate_55 ?_
  refine sp_iload_n (pc := 56) (k := 1) (i := 1) hX rfl 1 rfl md_M_interpolate_56 ?_
  refine sp_isub (pc := 57) hX md_M_interpolate_57 ?_
  refine sp_icmp_gt (pc := 58) hX 94 (by decide) md_M_interpolate_58 (fun _ => ?_) (fun _ => ?_)
  · exact sj_M_interpolate_94 hX hR h14 h25 x0 x1 x2 x3 x4 x5 σ
  · refine sp_aload_n (pc := 61) (k := 0) (i := 0) hX rfl 0 rfl md_M_interpolate_61 ?_
    refine sp_getR (pc := 62) (ci := 10) (k := 10) (idx := 31) hX mcl_10 (by decide) mq_809 rfl md_M_interpolate_62 (fun v23 => ?_)
    refine sp_bipush (pc := 65) hX (by decide) md_M_interpolate_65 ?_
    refine sp_iload_n (pc := 67) (k := 3) (i := 3) hX rfl 3 rfl md_M_interpolate_67 ?_
    refine sp_imul (pc := 68) hX md_M_interpolate_68 ?_
    refine sp_iload_n (pc := 69) (k := 1) (i := 1) hX rfl 1 rfl md_M_interpolate_69 ?_
    refine sp_iadd (pc := 70) hX md_M_interpolate_70 ?_
    refine sp_iconst (pc := 71) hX md_M_interpolate_71 ?_
    refine sp_iadd (pc := 72) hX md_M_interpolate_72 ?_
    refine sp_iload (pc := 73) (i := 5) hX 5 rfl md_M_interpolate_73 ?_
    refine sp_iadd (pc := 75) hX md_M_interpolate_75 ?_
    refine sp_aload_n (pc := 76) (k := 0) (i := 0) hX rfl 0 rfl md_M_interpolate_76 ?_
    refine sp_iload (pc := 77) (i := 4) hX 4 rfl md_M_interpolate_77 ?_
    refine sp_ineg (pc := 79) hX md_M_interpolate_79 ?_
    refine sp_aload_n (pc := 80) (k := 0) (i := 0) hX rfl 0 rfl md_M_interpolate_80 ?_
    refine sp_getR (pc := 81) (ci := 10) (k := 0) (idx := 7) hX mcl_10 (by decide) mq_799 rfl md_M_interpolate_81 (fun v24 => ?_)
    refine sp_bipush (pc := 84) hX (by decide) md_M_interpolate_84 ?_
    refine sp_iload_n (pc := 86) (k := 3) (i := 3) hX rfl 3 rfl md_M_interpolate_86 ?_
    refine sp_iadd (pc := 87) hX md_M_interpolate_87 ?_
    refine sp_iaload (pc := 88) hX md_M_interpolate_88 (fun v25 => ?_)
    refine sp_imul (pc := 89) hX md_M_interpolate_89 ?_
    refine sp_callVI (pc := 90) (y := my_M_mod) (ccy := prog_14_method_5_code) (nLy := 3) (ret := (some .int)) (rmy := mr_M_mod) (n := 1) (idx := 91) (As := [.int (iI ((-x4) * v25))]) (st := [.int (iI (((((18 : Int) * x3) + x1) + (1 : Int)) + x5)), .ref v23]) (o := x0) (cells' := 0) (slots' := 0) hX (fun _ h => mc_M_mod h) mk_M_mod mv_M_mod mcl_10 (fun _ h => pw_gd_of h) mq_901 ⟨(Nat.le_of_ble_eq_true rfl), (Nat.le_of_ble_eq_true rfl)⟩ rfl rfl (Nat.le_of_ble_eq_true rfl) ⟨(Nat.le_of_ble_eq_true rfl), (Nat.le_of_ble_eq_true rfl)⟩ rfl rfl md_M_interpolate_90 (fun v27 s26 => ?_)
    refine sp_iastore (pc := 93) hX md_M_interpolate_93 (fun s28 => ?_)
    exact sj_M_interpolate_94 hX hR h14 h25 x0 x1 x2 x3 x4 x5 s28
set_option maxHeartbeats 4000000 in
set_option maxRecDepth 20000 in
theorem sl_M_interpolate_25 {X : pw_X Unit} (hX : pw_Ok X prog_14_method_73_code "PadeWorkbenchModel" mr_M_interpolate 6) (hR : pw_RV X prog_14_method_73_code) {r14 : Nat → Int → Int → Int → pw_Sto → Option (Unit × pw_Sto)} (h14 : ∀ (z0 : Nat) (z1 : Int) (z2 : Int) (z3 : Int) (σ : pw_Sto), pw_Sp X 0 0 14 [(0, Value.ref z0), (1, Value.int (iI z1)), (2, Value.int (iI z2)), (3, Value.int (iI z3))] [] σ (r14 z0 z1 z2 z3 σ)) : ∀ (n : Nat) (x0 : Nat) (x1 : Int) (x2 : Int) (x3 : Int) (x4 : Int) (x5 : Int) (σ : pw_Sto), pw_Sp X 0 0 25 [(0, Value.ref x0), (1, Value.int (iI x1)), (2, Value.int (iI x2)), (3, Value.int (iI x3)), (4, Value.int (iI x4)), (5, Value.int (iI x5))] [] σ (ml_M_interpolate_25 r14 n x0 x1 x2 x3 x4 x5 σ) := by
  intro n
  induction n with
  | zero => intros; exact pw_none
  | succ n ih =>
    intro x0 x1 x2 x3 x4 x5 σ
    show pw_Sp X 0 0 25 _ _ σ (mb_M_interpolate_25 r14 (ml_M_interpolate_25 r14 n) x0 x1 x2 x3 x4 x5 σ)
    unfold mb_M_interpolate_25
    refine sp_iload (pc := 25) (i := 5) hX 5 rfl md_M_interpolate_25 ?_
    refine sp_iload_n (pc := 27) (k := 2) (i := 2) hX rfl 2 rfl md_M_interpolate_27 ?_
    refine sp_icmp_ge (pc := 28) hX 118 (by decide) md_M_interpolate_28 (fun _ => ?_) (fun _ => ?_)
    · refine sp_iinc (pc := 118) (i := 3) (L' := [(3, Value.int (iI (x3 + 1))), (0, Value.ref x0), (1, Value.int (iI x1)), (2, Value.int (iI x2)), (4, Value.int (iI x4)), (5, Value.int (iI x5))]) hX 3 rfl (by decide) rfl md_M_interpolate_118 ?_
      refine sp_goto (pc := 121) hX 14 (by decide) md_M_interpolate_121 ?_
      refine sp_sub [1, 2, 3, 0] (L' := [(0, Value.ref x0), (1, Value.int (iI x1)), (2, Value.int (iI x2)), (3, Value.int (iI (x3 + 1)))]) rfl ?_
      exact h14 x0 x1 x2 (x3 + 1) σ
    · refine sp_iload (pc := 31) (i := 5) hX 5 rfl md_M_interpolate_31 ?_
      refine sp_iload_n (pc := 33) (k := 1) (i := 1) hX rfl 1 rfl md_M_interpolate_33 ?_
      refine sp_icmp_gt (pc := 34) hX 51 (by decide) md_M_interpolate_34 (fun _ => ?_) (fun _ => ?_)
      · exact sj_M_interpolate_51 hX hR h14 ih x0 x1 x2 x3 x4 x5 σ
      · refine sp_aload_n (pc := 37) (k := 0) (i := 0) hX rfl 0 rfl md_M_interpolate_37 ?_
        refine sp_getR (pc := 38) (ci := 10) (k := 10) (idx := 31) hX mcl_10 (by decide) mq_809 rfl md_M_interpolate_38 (fun v29 => ?_)
        refine sp_bipush (pc := 41) hX (by decide) md_M_interpolate_41 ?_
        refine sp_iload_n (pc := 43) (k := 3) (i := 3) hX rfl 3 rfl md_M_interpolate_43 ?_
        refine sp_imul (pc := 44) hX md_M_interpolate_44 ?_
        refine sp_iload (pc := 45) (i := 5) hX 5 rfl md_M_interpolate_45 ?_
        refine sp_iadd (pc := 47) hX md_M_interpolate_47 ?_
        refine sp_iload (pc := 48) (i := 4) hX 4 rfl md_M_interpolate_48 ?_
        refine sp_iastore (pc := 50) hX md_M_interpolate_50 (fun s30 => ?_)
        exact sj_M_interpolate_51 hX hR h14 ih x0 x1 x2 x3 x4 x5 s30
set_option maxHeartbeats 4000000 in
set_option maxRecDepth 20000 in
theorem sl_M_interpolate_14 {X : pw_X Unit} (hX : pw_Ok X prog_14_method_73_code "PadeWorkbenchModel" mr_M_interpolate 6) (hR : pw_RV X prog_14_method_73_code) : ∀ (n : Nat) (x0 : Nat) (x1 : Int) (x2 : Int) (x3 : Int) (σ : pw_Sto), pw_Sp X 0 0 14 [(0, Value.ref x0), (1, Value.int (iI x1)), (2, Value.int (iI x2)), (3, Value.int (iI x3))] [] σ (ml_M_interpolate_14 n x0 x1 x2 x3 σ) := by
  intro n
  induction n with
  | zero => intros; exact pw_none
  | succ n ih =>
    intro x0 x1 x2 x3 σ
    show pw_Sp X 0 0 14 _ _ σ (mb_M_interpolate_14 (ml_M_interpolate_14 n) x0 x1 x2 x3 σ)
    unfold mb_M_interpolate_14
    refine sp_iload_n (pc := 14) (k := 3) (i := 3) hX rfl 3 rfl md_M_interpolate_14 ?_
    refine sp_iload_n (pc := 15) (k := 2) (i := 2) hX rfl 2 rfl md_M_interpolate_15 ?_
    refine sp_icmp_ge (pc := 16) hX 124 (by decide) md_M_interpolate_16 (fun _ => ?_) (fun _ => ?_)
    · refine sp_aload_n (pc := 124) (k := 0) (i := 0) hX rfl 0 rfl md_M_interpolate_124 ?_
      refine sp_iload_n (pc := 125) (k := 2) (i := 2) hX rfl 2 rfl md_M_interpolate_125 ?_
      refine sp_iload_n (pc := 126) (k := 2) (i := 2) hX rfl 2 rfl md_M_interpolate_126 ?_
      refine sp_iconst (pc := 127) hX md_M_interpolate_127 ?_
      refine sp_iadd (pc := 128) hX md_M_interpolate_128 ?_
      refine sp_callVV (pc := 129) (y := my_M_findVector) (ccy := prog_14_method_38_code) (nLy := 5) (ret := none) (rmy := mr_M_findVector) (n := 2) (idx := 171) (As := [.int (iI x2), .int (iI (x2 + (1 : Int)))]) (st := []) (o := x0) (cells' := 0) (slots' := 0) hX (fun _ h => mc_M_findVector h) mk_M_findVector mv_M_findVector mcl_10 (fun _ h => pw_gd_of h) mq_996 ⟨(Nat.le_of_ble_eq_true rfl), (Nat.le_of_ble_eq_true rfl)⟩ rfl rfl (Nat.le_of_ble_eq_true rfl) ⟨(Nat.le_of_ble_eq_true rfl), (Nat.le_of_ble_eq_true rfl)⟩ rfl rfl md_M_interpolate_129 (fun s5 => ?_)
      refine sp_aload_n (pc := 132) (k := 0) (i := 0) hX rfl 0 rfl md_M_interpolate_132 ?_
      refine sp_getR (pc := 133) (ci := 10) (k := 13) (idx := 40) hX mcl_10 (by decide) mq_812 rfl md_M_interpolate_133 (fun v6 => ?_)
      refine sp_callSV (pc := 136) (y := my_M_clear) (ccy := prog_14_method_15_code) (nLy := 2) (ret := none) (rmy := mr_M_clear) (n := 1) (idx := 107) (As := [.ref v6]) (st := []) (cells' := 0) (slots' := 0) hX (fun _ h => mc_M_clear h) mk_M_clear mq_926 mq_925 ⟨(Nat.le_of_ble_eq_true rfl), (Nat.le_of_ble_eq_true rfl)⟩ rfl rfl (Nat.le_of_ble_eq_true rfl) ⟨(Nat.le_of_ble_eq_true rfl), (Nat.le_of_ble_eq_true rfl)⟩ rfl rfl md_M_interpolate_136 (fun s7 => ?_)
      refine sp_aload_n (pc := 139) (k := 0) (i := 0) hX rfl 0 rfl md_M_interpolate_139 ?_
      refine sp_getR (pc := 140) (ci := 10) (k := 14) (idx := 43) hX mcl_10 (by decide) mq_813 rfl md_M_interpolate_140 (fun v8 => ?_)
      refine sp_callSV (pc := 143) (y := my_M_clear) (ccy := prog_14_method_15_code) (nLy := 2) (ret := none) (rmy := mr_M_clear) (n := 1) (idx := 107) (As := [.ref v8]) (st := []) (cells' := 0) (slots' := 0) hX (fun _ h => mc_M_clear h) mk_M_clear mq_926 mq_925 ⟨(Nat.le_of_ble_eq_true rfl), (Nat.le_of_ble_eq_true rfl)⟩ rfl rfl (Nat.le_of_ble_eq_true rfl) ⟨(Nat.le_of_ble_eq_true rfl), (Nat.le_of_ble_eq_true rfl)⟩ rfl rfl md_M_interpolate_143 (fun s9 => ?_)
      refine sp_iconst (pc := 146) hX md_M_interpolate_146 ?_
      refine sp_istore_n (pc := 147) (k := 3) (i := 3) (L' := [(3, Value.int (iI (0 : Int))), (0, Value.ref x0), (1, Value.int (iI x1)), (2, Value.int (iI x2))]) hX rfl (by decide) rfl md_M_interpolate_147 ?_
      refine sp_sub [1, 2, 3, 0] (L' := [(0, Value.ref x0), (1, Value.int (iI x1)), (2, Value.int (iI x2)), (3, Value.int (iI (0 : Int)))]) rfl ?_
      exact sl_M_interpolate_148 hX hR 1000 x0 x1 x2 (0 : Int) s9
    · refine sp_iconst (pc := 19) hX md_M_interpolate_19 ?_
      refine sp_istore (pc := 20) (i := 4) (L' := [(4, Value.int (iI (1 : Int))), (0, Value.ref x0), (1, Value.int (iI x1)), (2, Value.int (iI x2)), (3, Value.int (iI x3))]) hX (by decide) rfl md_M_interpolate_20 ?_
      refine sp_iconst (pc := 22) hX md_M_interpolate_22 ?_
      refine sp_istore (pc := 23) (i := 5) (L' := [(5, Value.int (iI (0 : Int))), (4, Value.int (iI (1 : Int))), (0, Value.ref x0), (1, Value.int (iI x1)), (2, Value.int (iI x2)), (3, Value.int (iI x3))]) hX (by decide) rfl md_M_interpolate_23 ?_
      refine sp_sub [2, 3, 4, 5, 1, 0] (L' := [(0, Value.ref x0), (1, Value.int (iI x1)), (2, Value.int (iI x2)), (3, Value.int (iI x3)), (4, Value.int (iI (1 : Int))), (5, Value.int (iI (0 : Int)))]) rfl ?_
      exact sl_M_interpolate_25 hX hR ih 1000 x0 x1 x2 x3 (1 : Int) (0 : Int) σ
set_option maxHeartbeats 4000000 in
set_option maxRecDepth 20000 in
theorem mc_M_interpolate {l : Launch} {E : pw_E} {σ : pw_Sto} {x0 : Nat} {x1 : Int} {out : Unit × pw_Sto} (h : mf_M_interpolate x0 x1 σ = some out) : pw_CV l E my_M_interpolate prog_14_method_73_code 6 none mr_M_interpolate [.ref x0, .int (iI x1)] σ out := by
  unfold mf_M_interpolate at h
  refine pw_entryV (by decide) (Nat.le_of_ble_eq_true rfl) (pw_gd_val h) (fun X hX hR hI => ?_)
  change pw_Ok X prog_14_method_73_code "PadeWorkbenchModel" mr_M_interpolate 6 at hX
  show pw_Sp X 0 0 0 [(0, Value.ref x0), (1, Value.int (iI x1))] [] σ _
  refine sp_aload_n (pc := 0) (k := 0) (i := 0) hX rfl 0 rfl md_M_interpolate_0 ?_
  refine sp_callVI (pc := 1) (y := my_M_points) (ccy := prog_14_method_70_code) (nLy := 1) (ret := (some .int)) (rmy := mr_M_points) (n := 0) (idx := 219) (As := []) (st := []) (o := x0) (cells' := 0) (slots' := 0) hX (fun _ h => mc_M_points h) mk_M_points mv_M_points mcl_10 (fun _ h => pw_gd_of h) mq_1129 ⟨(Nat.le_of_ble_eq_true rfl), (Nat.le_of_ble_eq_true rfl)⟩ rfl rfl (Nat.le_of_ble_eq_true rfl) ⟨(Nat.le_of_ble_eq_true rfl), (Nat.le_of_ble_eq_true rfl)⟩ rfl rfl md_M_interpolate_1 (fun v2 s1 => ?_)
  refine sp_istore_n (pc := 4) (k := 2) (i := 2) (L' := [(2, Value.int (iI v2)), (0, Value.ref x0), (1, Value.int (iI x1))]) hX rfl (by decide) rfl md_M_interpolate_4 ?_
  refine sp_aload_n (pc := 5) (k := 0) (i := 0) hX rfl 1 rfl md_M_interpolate_5 ?_
  refine sp_getR (pc := 6) (ci := 10) (k := 10) (idx := 31) hX mcl_10 (by decide) mq_809 rfl md_M_interpolate_6 (fun v3 => ?_)
  refine sp_callSV (pc := 9) (y := my_M_clear) (ccy := prog_14_method_15_code) (nLy := 2) (ret := none) (rmy := mr_M_clear) (n := 1) (idx := 107) (As := [.ref v3]) (st := []) (cells' := 0) (slots' := 0) hX (fun _ h => mc_M_clear h) mk_M_clear mq_926 mq_925 ⟨(Nat.le_of_ble_eq_true rfl), (Nat.le_of_ble_eq_true rfl)⟩ rfl rfl (Nat.le_of_ble_eq_true rfl) ⟨(Nat.le_of_ble_eq_true rfl), (Nat.le_of_ble_eq_true rfl)⟩ rfl rfl md_M_interpolate_9 (fun s4 => ?_)
  refine sp_iconst (pc := 12) hX md_M_interpolate_12 ?_
  refine sp_istore_n (pc := 13) (k := 3) (i := 3) (L' := [(3, Value.int (iI (0 : Int))), (2, Value.int (iI v2)), (0, Value.ref x0), (1, Value.int (iI x1))]) hX rfl (by decide) rfl md_M_interpolate_13 ?_
  refine sp_sub [2, 3, 1, 0] (L' := [(0, Value.ref x0), (1, Value.int (iI x1)), (2, Value.int (iI v2)), (3, Value.int (iI (0 : Int)))]) rfl ?_
  exact sl_M_interpolate_14 hX hR 1000 x0 x1 v2 (0 : Int) s4
/-! PadeWorkbenchModel.missed(I)I -/
theorem md_M_missed_0 : decode prog_14_method_74_code 0 = .ok (.aload_n 0, 1) := by decide +kernel
theorem md_M_missed_1 : decode prog_14_method_74_code 1 = .ok (.iload_n 1, 1) := by decide +kernel
theorem md_M_missed_2 : decode prog_14_method_74_code 2 = .ok (.invokevirtual 222, 3) := by decide +kernel
theorem md_M_missed_5 : decode prog_14_method_74_code 5 = .ok (.iconst 0, 1) := by decide +kernel
theorem md_M_missed_6 : decode prog_14_method_74_code 6 = .ok (.istore_n 2, 1) := by decide +kernel
theorem md_M_missed_7 : decode prog_14_method_74_code 7 = .ok (.iconst 0, 1) := by decide +kernel
theorem md_M_missed_8 : decode prog_14_method_74_code 8 = .ok (.istore_n 3, 1) := by decide +kernel
theorem md_M_missed_9 : decode prog_14_method_74_code 9 = .ok (.iload_n 3, 1) := by decide +kernel
theorem md_M_missed_10 : decode prog_14_method_74_code 10 = .ok (.aload_n 0, 1) := by decide +kernel
theorem md_M_missed_11 : decode prog_14_method_74_code 11 = .ok (.invokevirtual 219, 3) := by decide +kernel
theorem md_M_missed_14 : decode prog_14_method_74_code 14 = .ok (.if_icmp .ge 77, 3) := by decide +kernel
theorem md_M_missed_91 : decode prog_14_method_74_code 91 = .ok (.iload_n 2, 1) := by decide +kernel
theorem md_M_missed_92 : decode prog_14_method_74_code 92 = .ok (.ireturn, 1) := by decide +kernel
theorem md_M_missed_17 : decode prog_14_method_74_code 17 = .ok (.aload_n 0, 1) := by decide +kernel
theorem md_M_missed_18 : decode prog_14_method_74_code 18 = .ok (.aload_n 0, 1) := by decide +kernel
theorem md_M_missed_19 : decode prog_14_method_74_code 19 = .ok (.getfield 43, 3) := by decide +kernel
theorem md_M_missed_22 : decode prog_14_method_74_code 22 = .ok (.aload_n 0, 1) := by decide +kernel
theorem md_M_missed_23 : decode prog_14_method_74_code 23 = .ok (.getfield 7, 3) := by decide +kernel
theorem md_M_missed_26 : decode prog_14_method_74_code 26 = .ok (.bipush 66, 2) := by decide +kernel
theorem md_M_missed_28 : decode prog_14_method_74_code 28 = .ok (.iload_n 3, 1) := by decide +kernel
theorem md_M_missed_29 : decode prog_14_method_74_code 29 = .ok (.iadd, 1) := by decide +kernel
theorem md_M_missed_30 : decode prog_14_method_74_code 30 = .ok (.iaload, 1) := by decide +kernel
theorem md_M_missed_31 : decode prog_14_method_74_code 31 = .ok (.invokevirtual 192, 3) := by decide +kernel
theorem md_M_missed_34 : decode prog_14_method_74_code 34 = .ok (.istore 4, 2) := by decide +kernel
theorem md_M_missed_36 : decode prog_14_method_74_code 36 = .ok (.iload_n 2, 1) := by decide +kernel
theorem md_M_missed_37 : decode prog_14_method_74_code 37 = .ok (.iload 4, 2) := by decide +kernel
theorem md_M_missed_39 : decode prog_14_method_74_code 39 = .ok (.ifCond .eq 39, 3) := by decide +kernel
theorem md_M_missed_78 : decode prog_14_method_74_code 78 = .ok (.iconst 1, 1) := by decide +kernel
theorem md_M_missed_79 : decode prog_14_method_74_code 79 = .ok (.goto 4, 3) := by decide +kernel
theorem md_M_missed_83 : decode prog_14_method_74_code 83 = .ok (.iadd, 1) := by decide +kernel
theorem md_M_missed_84 : decode prog_14_method_74_code 84 = .ok (.istore_n 2, 1) := by decide +kernel
theorem md_M_missed_85 : decode prog_14_method_74_code 85 = .ok (.iinc 3 1, 3) := by decide +kernel
theorem md_M_missed_88 : decode prog_14_method_74_code 88 = .ok (.goto (-79), 3) := by decide +kernel
theorem md_M_missed_42 : decode prog_14_method_74_code 42 = .ok (.aload_n 0, 1) := by decide +kernel
theorem md_M_missed_43 : decode prog_14_method_74_code 43 = .ok (.aload_n 0, 1) := by decide +kernel
theorem md_M_missed_44 : decode prog_14_method_74_code 44 = .ok (.getfield 40, 3) := by decide +kernel
theorem md_M_missed_47 : decode prog_14_method_74_code 47 = .ok (.aload_n 0, 1) := by decide +kernel
theorem md_M_missed_48 : decode prog_14_method_74_code 48 = .ok (.getfield 7, 3) := by decide +kernel
theorem md_M_missed_51 : decode prog_14_method_74_code 51 = .ok (.bipush 66, 2) := by decide +kernel
theorem md_M_missed_53 : decode prog_14_method_74_code 53 = .ok (.iload_n 3, 1) := by decide +kernel
theorem md_M_missed_54 : decode prog_14_method_74_code 54 = .ok (.iadd, 1) := by decide +kernel
theorem md_M_missed_55 : decode prog_14_method_74_code 55 = .ok (.iaload, 1) := by decide +kernel
theorem md_M_missed_56 : decode prog_14_method_74_code 56 = .ok (.invokevirtual 192, 3) := by decide +kernel
theorem md_M_missed_59 : decode prog_14_method_74_code 59 = .ok (.aload_n 0, 1) := by decide +kernel
theorem md_M_missed_60 : decode prog_14_method_74_code 60 = .ok (.iload 4, 2) := by decide +kernel
theorem md_M_missed_62 : decode prog_14_method_74_code 62 = .ok (.aload_n 0, 1) := by decide +kernel
theorem md_M_missed_63 : decode prog_14_method_74_code 63 = .ok (.getfield 7, 3) := by decide +kernel
theorem md_M_missed_66 : decode prog_14_method_74_code 66 = .ok (.bipush 76, 2) := by decide +kernel
theorem md_M_missed_68 : decode prog_14_method_74_code 68 = .ok (.iload_n 3, 1) := by decide +kernel
theorem md_M_missed_69 : decode prog_14_method_74_code 69 = .ok (.iadd, 1) := by decide +kernel
theorem md_M_missed_70 : decode prog_14_method_74_code 70 = .ok (.iaload, 1) := by decide +kernel
theorem md_M_missed_71 : decode prog_14_method_74_code 71 = .ok (.imul, 1) := by decide +kernel
theorem md_M_missed_72 : decode prog_14_method_74_code 72 = .ok (.invokevirtual 91, 3) := by decide +kernel
theorem md_M_missed_75 : decode prog_14_method_74_code 75 = .ok (.if_icmp .eq 7, 3) := by decide +kernel
theorem md_M_missed_82 : decode prog_14_method_74_code 82 = .ok (.iconst 0, 1) := by decide +kernel
def mj_M_missed_83 (r9 : Nat → Int → Int → pw_Sto → Option (Int × pw_Sto)) (x0 : Nat) (x3 : Int) (y0 : Int) (y1 : Int) (σ : pw_Sto) : Option (Int × pw_Sto) := r9 x0 (y1 + y0) (x3 + 1) σ
def mj_M_missed_78 (r9 : Nat → Int → Int → pw_Sto → Option (Int × pw_Sto)) (x0 : Nat) (x3 : Int) (y0 : Int) (σ : pw_Sto) : Option (Int × pw_Sto) := mj_M_missed_83 r9 x0 x3 (1 : Int) y0 σ
def mb_M_missed_9 (rc : Nat → Int → Int → pw_Sto → Option (Int × pw_Sto)) : Nat → Int → Int → pw_Sto → Option (Int × pw_Sto) := fun x0 x2 x3 σ => pw_bd (mf_M_points x0 σ) (fun v3 s2 => pw_ck x3 v3 (if v3 ≤ x3 then some (x2, s2) else (pw_gr 10 x0 14 s2).bind (fun v4 => (pw_gr 10 x0 0 s2).bind (fun v5 => (pw_ai v5 ((66 : Int) + x3) s2).bind (fun v6 => pw_bd (mf_M_valueAt x0 v4 v6 s2) (fun v8 s7 => pw_ck v8 0 (if v8 = 0 then mj_M_missed_78 rc x0 x3 x2 s7 else (pw_gr 10 x0 13 s7).bind (fun v9 => (pw_gr 10 x0 0 s7).bind (fun v10 => (pw_ai v10 ((66 : Int) + x3) s7).bind (fun v11 => pw_bd (mf_M_valueAt x0 v9 v11 s7) (fun v13 s12 => (pw_gr 10 x0 0 s12).bind (fun v14 => (pw_ai v14 ((76 : Int) + x3) s12).bind (fun v15 => pw_bd (mf_M_mod x0 (v8 * v15) s12) (fun v17 s16 => pw_ck v13 v17 (if v13 = v17 then mj_M_missed_83 rc x0 x3 (0 : Int) x2 s16 else mj_M_missed_78 rc x0 x3 x2 s16)))))))))))))))
def ml_M_missed_9 : Nat → Nat → Int → Int → pw_Sto → Option (Int × pw_Sto) := pw_lp (fun _ _ _ _ => none) (mb_M_missed_9)
def mf_M_missed (x0 : Nat) (x1 : Int) (σ : pw_Sto) : Option (Int × pw_Sto) := pw_gd 10 x0 σ (pw_bd (mf_M_interpolate x0 x1 σ) (fun _ s1 => ml_M_missed_9 1000 x0 (0 : Int) (0 : Int) s1))
set_option maxHeartbeats 4000000 in
set_option maxRecDepth 20000 in
theorem sj_M_missed_83 {X : pw_X Int} (hX : pw_Ok X prog_14_method_74_code "PadeWorkbenchModel" mr_M_missed 5) (hR : pw_RI X prog_14_method_74_code) {r9 : Nat → Int → Int → pw_Sto → Option (Int × pw_Sto)} (h9 : ∀ (z0 : Nat) (z1 : Int) (z2 : Int) (σ : pw_Sto), pw_Sp X 0 0 9 [(0, Value.ref z0), (2, Value.int (iI z1)), (3, Value.int (iI z2))] [] σ (r9 z0 z1 z2 σ)) (x0 : Nat) (x3 : Int) (y0 : Int) (y1 : Int) (σ : pw_Sto) : pw_Sp X 0 0 83 [(0, Value.ref x0), (3, Value.int (iI x3))] [Value.int (iI y0), Value.int (iI y1)] σ (mj_M_missed_83 r9 x0 x3 y0 y1 σ) := by
  unfold mj_M_missed_83
  refine sp_iadd (pc := 83) hX md_M_missed_83 ?_
  refine sp_istore_n (pc := 84) (k := 2) (i := 2) (L' := [(2, Value.int (iI (y1 + y0))), (0, Value.ref x0), (3, Value.int (iI x3))]) hX rfl (by decide) rfl md_M_missed_84 ?_
  refine sp_iinc (pc := 85) (i := 3) (L' := [(3, Value.int (iI (x3 + 1))), (2, Value.int (iI (y1 + y0))), (0, Value.ref x0)]) hX 2 rfl (by decide) rfl md_M_missed_85 ?_
  refine sp_goto (pc := 88) hX 9 (by decide) md_M_missed_88 ?_
  refine sp_sub [2, 1, 0] (L' := [(0, Value.ref x0), (2, Value.int (iI (y1 + y0))), (3, Value.int (iI (x3 + 1)))]) rfl ?_
  exact h9 x0 (y1 + y0) (x3 + 1) σ
set_option maxHeartbeats 4000000 in
set_option maxRecDepth 20000 in
theorem sj_M_missed_78 {X : pw_X Int} (hX : pw_Ok X prog_14_method_74_code "PadeWorkbenchModel" mr_M_missed 5) (hR : pw_RI X prog_14_method_74_code) {r9 : Nat → Int → Int → pw_Sto → Option (Int × pw_Sto)} (h9 : ∀ (z0 : Nat) (z1 : Int) (z2 : Int) (σ : pw_Sto), pw_Sp X 0 0 9 [(0, Value.ref z0), (2, Value.int (iI z1)), (3, Value.int (iI z2))] [] σ (r9 z0 z1 z2 σ)) (x0 : Nat) (x3 : Int) (y0 : Int) (σ : pw_Sto) : pw_Sp X 0 0 78 [(0, Value.ref x0), (3, Value.int (iI x3))] [Value.int (iI y0)] σ (mj_M_missed_78 r9 x0 x3 y0 σ) := by
  unfold mj_M_missed_78
  refine sp_iconst (pc := 78) hX md_M_missed_78 ?_
  refine sp_goto (pc := 79) hX 83 (by decide) md_M_missed_79 ?_
  exact sj_M_missed_83 hX hR h9 x0 x3 (1 : Int) y0 σ
set_option maxHeartbeats 4000000 in
set_option maxRecDepth 20000 in
theorem sl_M_missed_9 {X : pw_X Int} (hX : pw_Ok X prog_14_method_74_code "PadeWorkbenchModel" mr_M_missed 5) (hR : pw_RI X prog_14_method_74_code) : ∀ (n : Nat) (x0 : Nat) (x2 : Int) (x3 : Int) (σ : pw_Sto), pw_Sp X 0 0 9 [(0, Value.ref x0), (2, Value.int (iI x2)), (3, Value.int (iI x3))] [] σ (ml_M_missed_9 n x0 x2 x3 σ) := by
  intro n
  induction n with
  | zero => intros; exact pw_none
  | succ n ih =>
    intro x0 x2 x3 σ
    show pw_Sp X 0 0 9 _ _ σ (mb_M_missed_9 (ml_M_missed_9 n) x0 x2 x3 σ)
    unfold mb_M_missed_9
    refine sp_iload_n (pc := 9) (k := 3) (i := 3) hX rfl 2 rfl md_M_missed_9 ?_
    refine sp_aload_n (pc := 10) (k := 0) (i := 0) hX rfl 0 rfl md_M_missed_10 ?_
    refine sp_callVI (pc := 11) (y := my_M_points) (ccy := prog_14_method_70_code) (nLy := 1) (ret := (some .int)) (rmy := mr_M_points) (n := 0) (idx := 219) (As := []) (st := [.int (iI x3)]) (o := x0) (cells' := 0) (slots' := 0) hX (fun _ h => mc_M_points h) mk_M_points mv_M_points mcl_10 (fun _ h => pw_gd_of h) mq_1129 ⟨(Nat.le_of_ble_eq_true rfl), (Nat.le_of_ble_eq_true rfl)⟩ rfl rfl (Nat.le_of_ble_eq_true rfl) ⟨(Nat.le_of_ble_eq_true rfl), (Nat.le_of_ble_eq_true rfl)⟩ rfl rfl md_M_missed_11 (fun v3 s2 => ?_)
    refine sp_icmp_ge (pc := 14) hX 91 (by decide) md_M_missed_14 (fun _ => ?_) (fun _ => ?_)
    · refine sp_iload_n (pc := 91) (k := 2) (i := 2) hX rfl 1 rfl md_M_missed_91 ?_
      exact sp_iret (pc := 92) hX hR rfl (Nat.le_of_ble_eq_true rfl) md_M_missed_92
    · refine sp_aload_n (pc := 17) (k := 0) (i := 0) hX rfl 0 rfl md_M_missed_17 ?_
      refine sp_aload_n (pc := 18) (k := 0) (i := 0) hX rfl 0 rfl md_M_missed_18 ?_
      refine sp_getR (pc := 19) (ci := 10) (k := 14) (idx := 43) hX mcl_10 (by decide) mq_813 rfl md_M_missed_19 (fun v4 => ?_)
      refine sp_aload_n (pc := 22) (k := 0) (i := 0) hX rfl 0 rfl md_M_missed_22 ?_
      refine sp_getR (pc := 23) (ci := 10) (k := 0) (idx := 7) hX mcl_10 (by decide) mq_799 rfl md_M_missed_23 (fun v5 => ?_)
      refine sp_bipush (pc := 26) hX (by decide) md_M_missed_26 ?_
      refine sp_iload_n (pc := 28) (k := 3) (i := 3) hX rfl 2 rfl md_M_missed_28 ?_
      refine sp_iadd (pc := 29) hX md_M_missed_29 ?_
      refine sp_iaload (pc := 30) hX md_M_missed_30 (fun v6 => ?_)
      refine sp_callVI (pc := 31) (y := my_M_valueAt) (ccy := prog_14_method_43_code) (nLy := 5) (ret := (some .int)) (rmy := mr_M_valueAt) (n := 2) (idx := 192) (As := [.ref v4, .int (iI v6)]) (st := []) (o := x0) (cells' := 0) (slots' := 0) hX (fun _ h => mc_M_valueAt h) mk_M_valueAt mv_M_valueAt mcl_10 (fun _ h => pw_gd_of h) mq_1066 ⟨(Nat.le_of_ble_eq_true rfl), (Nat.le_of_ble_eq_true rfl)⟩ rfl rfl (Nat.le_of_ble_eq_true rfl) ⟨(Nat.le_of_ble_eq_true rfl), (Nat.le_of_ble_eq_true rfl)⟩ rfl rfl md_M_missed_31 (fun v8 s7 => ?_)
      refine sp_istore (pc := 34) (i := 4) (L' := [(4, Value.int (iI v8)), (0, Value.ref x0), (2, Value.int (iI x2)), (3, Value.int (iI x3))]) hX (by decide) rfl md_M_missed_34 ?_
      refine sp_iload_n (pc := 36) (k := 2) (i := 2) hX rfl 2 rfl md_M_missed_36 ?_
      refine sp_iload (pc := 37) (i := 4) hX 0 rfl md_M_missed_37 ?_
      refine sp_if_eq (pc := 39) hX 78 (by decide) md_M_missed_39 (fun _ => ?_) (fun _ => ?_)
      · refine sp_sub [1, 3] (L' := [(0, Value.ref x0), (3, Value.int (iI x3))]) rfl ?_
        exact sj_M_missed_78 hX hR ih x0 x3 x2 s7
      · refine sp_aload_n (pc := 42) (k := 0) (i := 0) hX rfl 1 rfl md_M_missed_42 ?_
        refine sp_aload_n (pc := 43) (k := 0) (i := 0) hX rfl 1 rfl md_M_missed_43 ?_
        refine sp_getR (pc := 44) (ci := 10) (k := 13) (idx := 40) hX mcl_10 (by decide) mq_812 rfl md_M_missed_44 (fun v9 => ?_)
        refine sp_aload_n (pc := 47) (k := 0) (i := 0) hX rfl 1 rfl md_M_missed_47 ?_
        refine sp_getR (pc := 48) (ci := 10) (k := 0) (idx := 7) hX mcl_10 (by decide) mq_799 rfl md_M_missed_48 (fun v10 => ?_)
        refine sp_bipush (pc := 51) hX (by decide) md_M_missed_51 ?_
        refine sp_iload_n (pc := 53) (k := 3) (i := 3) hX rfl 3 rfl md_M_missed_53 ?_
        refine sp_iadd (pc := 54) hX md_M_missed_54 ?_
        refine sp_iaload (pc := 55) hX md_M_missed_55 (fun v11 => ?_)
        refine sp_callVI (pc := 56) (y := my_M_valueAt) (ccy := prog_14_method_43_code) (nLy := 5) (ret := (some .int)) (rmy := mr_M_valueAt) (n := 2) (idx := 192) (As := [.ref v9, .int (iI v11)]) (st := [.int (iI x2)]) (o := x0) (cells' := 0) (slots' := 0) hX (fun _ h => mc_M_valueAt h) mk_M_valueAt mv_M_valueAt mcl_10 (fun _ h => pw_gd_of h) mq_1066 ⟨(Nat.le_of_ble_eq_true rfl), (Nat.le_of_ble_eq_true rfl)⟩ rfl rfl (Nat.le_of_ble_eq_true rfl) ⟨(Nat.le_of_ble_eq_true rfl), (Nat.le_of_ble_eq_true rfl)⟩ rfl rfl md_M_missed_56 (fun v13 s12 => ?_)
        refine sp_aload_n (pc := 59) (k := 0) (i := 0) hX rfl 1 rfl md_M_missed_59 ?_
        refine sp_iload (pc := 60) (i := 4) hX 0 rfl md_M_missed_60 ?_
        refine sp_aload_n (pc := 62) (k := 0) (i := 0) hX rfl 1 rfl md_M_missed_62 ?_
        refine sp_getR (pc := 63) (ci := 10) (k := 0) (idx := 7) hX mcl_10 (by decide) mq_799 rfl md_M_missed_63 (fun v14 => ?_)
        refine sp_bipush (pc := 66) hX (by decide) md_M_missed_66 ?_
        refine sp_iload_n (pc := 68) (k := 3) (i := 3) hX rfl 3 rfl md_M_missed_68 ?_
        refine sp_iadd (pc := 69) hX md_M_missed_69 ?_
        refine sp_iaload (pc := 70) hX md_M_missed_70 (fun v15 => ?_)
        refine sp_imul (pc := 71) hX md_M_missed_71 ?_
        refine sp_callVI (pc := 72) (y := my_M_mod) (ccy := prog_14_method_5_code) (nLy := 3) (ret := (some .int)) (rmy := mr_M_mod) (n := 1) (idx := 91) (As := [.int (iI (v8 * v15))]) (st := [.int (iI v13), .int (iI x2)]) (o := x0) (cells' := 0) (slots' := 0) hX (fun _ h => mc_M_mod h) mk_M_mod mv_M_mod mcl_10 (fun _ h => pw_gd_of h) mq_901 ⟨(Nat.le_of_ble_eq_true rfl), (Nat.le_of_ble_eq_true rfl)⟩ rfl rfl (Nat.le_of_ble_eq_true rfl) ⟨(Nat.le_of_ble_eq_true rfl), (Nat.le_of_ble_eq_true rfl)⟩ rfl rfl md_M_missed_72 (fun v17 s16 => ?_)
        refine sp_icmp_eq (pc := 75) hX 82 (by decide) md_M_missed_75 (fun _ => ?_) (fun _ => ?_)
        · refine sp_iconst (pc := 82) hX md_M_missed_82 ?_
          refine sp_sub [1, 3] (L' := [(0, Value.ref x0), (3, Value.int (iI x3))]) rfl ?_
          exact sj_M_missed_83 hX hR ih x0 x3 (0 : Int) x2 s16
        · refine sp_sub [1, 3] (L' := [(0, Value.ref x0), (3, Value.int (iI x3))]) rfl ?_
          exact sj_M_missed_78 hX hR ih x0 x3 x2 s16
set_option maxHeartbeats 4000000 in
set_option maxRecDepth 20000 in
theorem mc_M_missed {l : Launch} {E : pw_E} {σ : pw_Sto} {x0 : Nat} {x1 : Int} {out : Int × pw_Sto} (h : mf_M_missed x0 x1 σ = some out) : pw_CI l E my_M_missed prog_14_method_74_code 5 (some .int) mr_M_missed [.ref x0, .int (iI x1)] σ out := by
  unfold mf_M_missed at h
  refine pw_entryI (by decide) (Nat.le_of_ble_eq_true rfl) (pw_gd_val h) (fun X hX hR hI => ?_)
  change pw_Ok X prog_14_method_74_code "PadeWorkbenchModel" mr_M_missed 5 at hX
  show pw_Sp X 0 0 0 [(0, Value.ref x0), (1, Value.int (iI x1))] [] σ _
  refine sp_aload_n (pc := 0) (k := 0) (i := 0) hX rfl 0 rfl md_M_missed_0 ?_
  refine sp_iload_n (pc := 1) (k := 1) (i := 1) hX rfl 1 rfl md_M_missed_1 ?_
  refine sp_callVV (pc := 2) (y := my_M_interpolate) (ccy := prog_14_method_73_code) (nLy := 6) (ret := none) (rmy := mr_M_interpolate) (n := 1) (idx := 222) (As := [.int (iI x1)]) (st := []) (o := x0) (cells' := 0) (slots' := 0) hX (fun _ h => mc_M_interpolate h) mk_M_interpolate mv_M_interpolate mcl_10 (fun _ h => pw_gd_of h) mq_1141 ⟨(Nat.le_of_ble_eq_true rfl), (Nat.le_of_ble_eq_true rfl)⟩ rfl rfl (Nat.le_of_ble_eq_true rfl) ⟨(Nat.le_of_ble_eq_true rfl), (Nat.le_of_ble_eq_true rfl)⟩ rfl rfl md_M_missed_2 (fun s1 => ?_)
  refine sp_iconst (pc := 5) hX md_M_missed_5 ?_
  refine sp_istore_n (pc := 6) (k := 2) (i := 2) (L' := [(2, Value.int (iI (0 : Int))), (0, Value.ref x0), (1, Value.int (iI x1))]) hX rfl (by decide) rfl md_M_missed_6 ?_
  refine sp_iconst (pc := 7) hX md_M_missed_7 ?_
  refine sp_istore_n (pc := 8) (k := 3) (i := 3) (L' := [(3, Value.int (iI (0 : Int))), (2, Value.int (iI (0 : Int))), (0, Value.ref x0), (1, Value.int (iI x1))]) hX rfl (by decide) rfl md_M_missed_8 ?_
  refine sp_sub [2, 1, 0] (L' := [(0, Value.ref x0), (2, Value.int (iI (0 : Int))), (3, Value.int (iI (0 : Int)))]) rfl ?_
  exact sl_M_missed_9 hX hR 1000 x0 (0 : Int) (0 : Int) s1
/-! PadeWorkbenchModel.interpolant(III)I -/
theorem md_M_interpolant_0 : decode prog_14_method_75_code 0 = .ok (.iload_n 1, 1) := by decide +kernel
theorem md_M_interpolant_1 : decode prog_14_method_75_code 1 = .ok (.iconst 0, 1) := by decide +kernel
theorem md_M_interpolant_2 : decode prog_14_method_75_code 2 = .ok (.aload_n 0, 1) := by decide +kernel
theorem md_M_interpolant_3 : decode prog_14_method_75_code 3 = .ok (.invokevirtual 219, 3) := by decide +kernel
theorem md_M_interpolant_6 : decode prog_14_method_75_code 6 = .ok (.iconst 1, 1) := by decide +kernel
theorem md_M_interpolant_7 : decode prog_14_method_75_code 7 = .ok (.isub, 1) := by decide +kernel
theorem md_M_interpolant_8 : decode prog_14_method_75_code 8 = .ok (.invokestatic 65, 3) := by decide +kernel
theorem md_M_interpolant_11 : decode prog_14_method_75_code 11 = .ok (.ifCond .eq 22, 3) := by decide +kernel
theorem md_M_interpolant_33 : decode prog_14_method_75_code 33 = .ok (.aload_n 0, 1) := by decide +kernel
theorem md_M_interpolant_34 : decode prog_14_method_75_code 34 = .ok (.bipush (-2), 2) := by decide +kernel
theorem md_M_interpolant_36 : decode prog_14_method_75_code 36 = .ok (.invokevirtual 77, 3) := by decide +kernel
theorem md_M_interpolant_39 : decode prog_14_method_75_code 39 = .ok (.ireturn, 1) := by decide +kernel
theorem md_M_interpolant_14 : decode prog_14_method_75_code 14 = .ok (.iload_n 2, 1) := by decide +kernel
theorem md_M_interpolant_15 : decode prog_14_method_75_code 15 = .ok (.iconst 0, 1) := by decide +kernel
theorem md_M_interpolant_16 : decode prog_14_method_75_code 16 = .ok (.iconst 1, 1) := by decide +kernel
theorem md_M_interpolant_17 : decode prog_14_method_75_code 17 = .ok (.invokestatic 65, 3) := by decide +kernel
theorem md_M_interpolant_20 : decode prog_14_method_75_code 20 = .ok (.ifCond .eq 13, 3) := by decide +kernel
theorem md_M_interpolant_23 : decode prog_14_method_75_code 23 = .ok (.iload_n 3, 1) := by decide +kernel
theorem md_M_interpolant_24 : decode prog_14_method_75_code 24 = .ok (.iconst 0, 1) := by decide +kernel
theorem md_M_interpolant_25 : decode prog_14_method_75_code 25 = .ok (.bipush 9, 2) := by decide +kernel
theorem md_M_interpolant_27 : decode prog_14_method_75_code 27 = .ok (.invokestatic 65, 3) := by decide +kernel
theorem md_M_interpolant_30 : decode prog_14_method_75_code 30 = .ok (.ifCond .ne 10, 3) := by decide +kernel
theorem md_M_interpolant_40 : decode prog_14_method_75_code 40 = .ok (.aload_n 0, 1) := by decide +kernel
theorem md_M_interpolant_41 : decode prog_14_method_75_code 41 = .ok (.iload_n 1, 1) := by decide +kernel
theorem md_M_interpolant_42 : decode prog_14_method_75_code 42 = .ok (.invokevirtual 222, 3) := by decide +kernel
theorem md_M_interpolant_45 : decode prog_14_method_75_code 45 = .ok (.iload_n 2, 1) := by decide +kernel
theorem md_M_interpolant_46 : decode prog_14_method_75_code 46 = .ok (.ifCond .ne 12, 3) := by decide +kernel
theorem md_M_interpolant_58 : decode prog_14_method_75_code 58 = .ok (.aload_n 0, 1) := by decide +kernel
theorem md_M_interpolant_59 : decode prog_14_method_75_code 59 = .ok (.getfield 43, 3) := by decide +kernel
theorem md_M_interpolant_62 : decode prog_14_method_75_code 62 = .ok (.iload_n 3, 1) := by decide +kernel
theorem md_M_interpolant_63 : decode prog_14_method_75_code 63 = .ok (.iaload, 1) := by decide +kernel
theorem md_M_interpolant_64 : decode prog_14_method_75_code 64 = .ok (.ireturn, 1) := by decide +kernel
theorem md_M_interpolant_49 : decode prog_14_method_75_code 49 = .ok (.aload_n 0, 1) := by decide +kernel
theorem md_M_interpolant_50 : decode prog_14_method_75_code 50 = .ok (.getfield 40, 3) := by decide +kernel
theorem md_M_interpolant_53 : decode prog_14_method_75_code 53 = .ok (.iload_n 3, 1) := by decide +kernel
theorem md_M_interpolant_54 : decode prog_14_method_75_code 54 = .ok (.iaload, 1) := by decide +kernel
theorem md_M_interpolant_55 : decode prog_14_method_75_code 55 = .ok (.goto 9, 3) := by decide +kernel
def mj_M_interpolant_33 (x0 : Nat) (σ : pw_Sto) : Option (Int × pw_Sto) := pw_bd (mf_M_fail x0 (-2 : Int) σ) (fun v6 s5 => some (v6, s5))
def mf_M_interpolant (x0 : Nat) (x1 : Int) (x2 : Int) (x3 : Int) (σ : pw_Sto) : Option (Int × pw_Sto) := pw_gd 10 x0 σ (pw_bd (mf_M_points x0 σ) (fun v2 s1 => pw_bd (mf_M_in x1 (0 : Int) (v2 - (1 : Int)) s1) (fun v4 s3 => pw_ck v4 0 (if v4 = 0 then mj_M_interpolant_33 x0 s3 else pw_bd (mf_M_in x2 (0 : Int) (1 : Int) s3) (fun v8 s7 => pw_ck v8 0 (if v8 = 0 then mj_M_interpolant_33 x0 s7 else pw_bd (mf_M_in x3 (0 : Int) (9 : Int) s7) (fun v10 s9 => pw_ck v10 0 (if v10 = 0 then mj_M_interpolant_33 x0 s9 else pw_bd (mf_M_interpolate x0 x1 s9) (fun _ s11 => pw_ck x2 0 (if x2 = 0 then (pw_gr 10 x0 13 s11).bind (fun v14 => (pw_ai v14 x3 s11).bind (fun v15 => some (v15, s11))) else (pw_gr 10 x0 14 s11).bind (fun v12 => (pw_ai v12 x3 s11).bind (fun v13 => some (v13, s11)))))))))))))
set_option maxHeartbeats 4000000 in
set_option maxRecDepth 20000 in
theorem sj_M_interpolant_33 {X : pw_X Int} (hX : pw_Ok X prog_14_method_75_code "PadeWorkbenchModel" mr_M_interpolant 4) (hR : pw_RI X prog_14_method_75_code) (x0 : Nat) (σ : pw_Sto) : pw_Sp X 0 0 33 [(0, Value.ref x0)] [] σ (mj_M_interpolant_33 x0 σ) := by
  unfold mj_M_interpolant_33
  refine sp_aload_n (pc := 33) (k := 0) (i := 0) hX rfl 0 rfl md_M_interpolant_33 ?_
  refine sp_bipush (pc := 34) hX (by decide) md_M_interpolant_34 ?_
  refine sp_callVI (pc := 36) (y := my_M_fail) (ccy := prog_14_method_3_code) (nLy := 2) (ret := (some .int)) (rmy := mr_M_fail) (n := 1) (idx := 77) (As := [.int (iI (-2 : Int))]) (st := []) (o := x0) (cells' := 0) (slots' := 0) hX (fun _ h => mc_M_fail h) mk_M_fail mv_M_fail mcl_10 (fun _ h => pw_gd_of h) mq_870 ⟨(Nat.le_of_ble_eq_true rfl), (Nat.le_of_ble_eq_true rfl)⟩ rfl rfl (Nat.le_of_ble_eq_true rfl) ⟨(Nat.le_of_ble_eq_true rfl), (Nat.le_of_ble_eq_true rfl)⟩ rfl rfl md_M_interpolant_36 (fun v6 s5 => ?_)
  exact sp_iret (pc := 39) hX hR rfl (Nat.le_of_ble_eq_true rfl) md_M_interpolant_39
set_option maxHeartbeats 4000000 in
set_option maxRecDepth 20000 in
theorem mc_M_interpolant {l : Launch} {E : pw_E} {σ : pw_Sto} {x0 : Nat} {x1 : Int} {x2 : Int} {x3 : Int} {out : Int × pw_Sto} (h : mf_M_interpolant x0 x1 x2 x3 σ = some out) : pw_CI l E my_M_interpolant prog_14_method_75_code 4 (some .int) mr_M_interpolant [.ref x0, .int (iI x1), .int (iI x2), .int (iI x3)] σ out := by
  unfold mf_M_interpolant at h
  refine pw_entryI (by decide) (Nat.le_of_ble_eq_true rfl) (pw_gd_val h) (fun X hX hR hI => ?_)
  change pw_Ok X prog_14_method_75_code "PadeWorkbenchModel" mr_M_interpolant 4 at hX
  show pw_Sp X 0 0 0 [(0, Value.ref x0), (1, Value.int (iI x1)), (2, Value.int (iI x2)), (3, Value.int (iI x3))] [] σ _
  refine sp_iload_n (pc := 0) (k := 1) (i := 1) hX rfl 1 rfl md_M_interpolant_0 ?_
  refine sp_iconst (pc := 1) hX md_M_interpolant_1 ?_
  refine sp_aload_n (pc := 2) (k := 0) (i := 0) hX rfl 0 rfl md_M_interpolant_2 ?_
  refine sp_callVI (pc := 3) (y := my_M_points) (ccy := prog_14_method_70_code) (nLy := 1) (ret := (some .int)) (rmy := mr_M_points) (n := 0) (idx := 219) (As := []) (st := [.int (iI (0 : Int)), .int (iI x1)]) (o := x0) (cells' := 0) (slots' := 0) hX (fun _ h => mc_M_points h) mk_M_points mv_M_points mcl_10 (fun _ h => pw_gd_of h) mq_1129 ⟨(Nat.le_of_ble_eq_true rfl), (Nat.le_of_ble_eq_true rfl)⟩ rfl rfl (Nat.le_of_ble_eq_true rfl) ⟨(Nat.le_of_ble_eq_true rfl), (Nat.le_of_ble_eq_true rfl)⟩ rfl rfl md_M_interpolant_3 (fun v2 s1 => ?_)
  refine sp_iconst (pc := 6) hX md_M_interpolant_6 ?_
  refine sp_isub (pc := 7) hX md_M_interpolant_7 ?_
  refine sp_callSI (pc := 8) (y := my_M_in) (ccy := prog_14_method_2_code) (nLy := 3) (ret := (some .boolean)) (rmy := mr_M_in) (n := 3) (idx := 65) (As := [.int (iI x1), .int (iI (0 : Int)), .int (iI (v2 - (1 : Int)))]) (st := []) (cells' := 0) (slots' := 0) hX (fun _ h => mc_M_in h) mk_M_in mq_868 mq_867 ⟨(Nat.le_of_ble_eq_true rfl), (Nat.le_of_ble_eq_true rfl)⟩ rfl rfl (Nat.le_of_ble_eq_true rfl) ⟨(Nat.le_of_ble_eq_true rfl), (Nat.le_of_ble_eq_true rfl)⟩ rfl rfl md_M_interpolant_8 (fun v4 s3 => ?_)
  refine sp_if_eq (pc := 11) hX 33 (by decide) md_M_interpolant_11 (fun _ => ?_) (fun _ => ?_)
  · refine sp_sub [0] (L' := [(0, Value.ref x0)]) rfl ?_
    exact sj_M_interpolant_33 hX hR x0 s3
  · refine sp_iload_n (pc := 14) (k := 2) (i := 2) hX rfl 2 rfl md_M_interpolant_14 ?_
    refine sp_iconst (pc := 15) hX md_M_interpolant_15 ?_
    refine sp_iconst (pc := 16) hX md_M_interpolant_16 ?_
    refine sp_callSI (pc := 17) (y := my_M_in) (ccy := prog_14_method_2_code) (nLy := 3) (ret := (some .boolean)) (rmy := mr_M_in) (n := 3) (idx := 65) (As := [.int (iI x2), .int (iI (0 : Int)), .int (iI (1 : Int))]) (st := []) (cells' := 0) (slots' := 0) hX (fun _ h => mc_M_in h) mk_M_in mq_868 mq_867 ⟨(Nat.le_of_ble_eq_true rfl), (Nat.le_of_ble_eq_true rfl)⟩ rfl rfl (Nat.le_of_ble_eq_true rfl) ⟨(Nat.le_of_ble_eq_true rfl), (Nat.le_of_ble_eq_true rfl)⟩ rfl rfl md_M_interpolant_17 (fun v8 s7 => ?_)
    refine sp_if_eq (pc := 20) hX 33 (by decide) md_M_interpolant_20 (fun _ => ?_) (fun _ => ?_)
    · refine sp_sub [0] (L' := [(0, Value.ref x0)]) rfl ?_
      exact sj_M_interpolant_33 hX hR x0 s7
    · refine sp_iload_n (pc := 23) (k := 3) (i := 3) hX rfl 3 rfl md_M_interpolant_23 ?_
      refine sp_iconst (pc := 24) hX md_M_interpolant_24 ?_
      refine sp_bipush (pc := 25) hX (by decide) md_M_interpolant_25 ?_
      refine sp_callSI (pc := 27) (y := my_M_in) (ccy := prog_14_method_2_code) (nLy := 3) (ret := (some .boolean)) (rmy := mr_M_in) (n := 3) (idx := 65) (As := [.int (iI x3), .int (iI (0 : Int)), .int (iI (9 : Int))]) (st := []) (cells' := 0) (slots' := 0) hX (fun _ h => mc_M_in h) mk_M_in mq_868 mq_867 ⟨(Nat.le_of_ble_eq_true rfl), (Nat.le_of_ble_eq_true rfl)⟩ rfl rfl (Nat.le_of_ble_eq_true rfl) ⟨(Nat.le_of_ble_eq_true rfl), (Nat.le_of_ble_eq_true rfl)⟩ rfl rfl md_M_interpolant_27 (fun v10 s9 => ?_)
      refine sp_if_ne (pc := 30) hX 40 (by decide) md_M_interpolant_30 (fun _ => ?_) (fun _ => ?_)
      · refine sp_sub [0] (L' := [(0, Value.ref x0)]) rfl ?_
        exact sj_M_interpolant_33 hX hR x0 s9
      · refine sp_aload_n (pc := 40) (k := 0) (i := 0) hX rfl 0 rfl md_M_interpolant_40 ?_
        refine sp_iload_n (pc := 41) (k := 1) (i := 1) hX rfl 1 rfl md_M_interpolant_41 ?_
        refine sp_callVV (pc := 42) (y := my_M_interpolate) (ccy := prog_14_method_73_code) (nLy := 6) (ret := none) (rmy := mr_M_interpolate) (n := 1) (idx := 222) (As := [.int (iI x1)]) (st := []) (o := x0) (cells' := 0) (slots' := 0) hX (fun _ h => mc_M_interpolate h) mk_M_interpolate mv_M_interpolate mcl_10 (fun _ h => pw_gd_of h) mq_1141 ⟨(Nat.le_of_ble_eq_true rfl), (Nat.le_of_ble_eq_true rfl)⟩ rfl rfl (Nat.le_of_ble_eq_true rfl) ⟨(Nat.le_of_ble_eq_true rfl), (Nat.le_of_ble_eq_true rfl)⟩ rfl rfl md_M_interpolant_42 (fun s11 => ?_)
        refine sp_iload_n (pc := 45) (k := 2) (i := 2) hX rfl 2 rfl md_M_interpolant_45 ?_
        refine sp_if_ne (pc := 46) hX 58 (by decide) md_M_interpolant_46 (fun _ => ?_) (fun _ => ?_)
        · refine sp_aload_n (pc := 49) (k := 0) (i := 0) hX rfl 0 rfl md_M_interpolant_49 ?_
          refine sp_getR (pc := 50) (ci := 10) (k := 13) (idx := 40) hX mcl_10 (by decide) mq_812 rfl md_M_interpolant_50 (fun v14 => ?_)
          refine sp_iload_n (pc := 53) (k := 3) (i := 3) hX rfl 3 rfl md_M_interpolant_53 ?_
          refine sp_iaload (pc := 54) hX md_M_interpolant_54 (fun v15 => ?_)
          refine sp_goto (pc := 55) hX 64 (by decide) md_M_interpolant_55 ?_
          exact sp_iret (pc := 64) hX hR rfl (Nat.le_of_ble_eq_true rfl) md_M_interpolant_64
        · refine sp_aload_n (pc := 58) (k := 0) (i := 0) hX rfl 0 rfl md_M_interpolant_58 ?_
          refine sp_getR (pc := 59) (ci := 10) (k := 14) (idx := 43) hX mcl_10 (by decide) mq_813 rfl md_M_interpolant_59 (fun v12 => ?_)
          refine sp_iload_n (pc := 62) (k := 3) (i := 3) hX rfl 3 rfl md_M_interpolant_62 ?_
          refine sp_iaload (pc := 63) hX md_M_interpolant_63 (fun v13 => ?_)
          exact sp_iret (pc := 64) hX hR rfl (Nat.le_of_ble_eq_true rfl) md_M_interpolant_64
/-! PadeWorkbenchModel.unattainable(I)I -/
theorem md_M_unattainable_0 : decode prog_14_method_76_code 0 = .ok (.iload_n 1, 1) := by decide +kernel
theorem md_M_unattainable_1 : decode prog_14_method_76_code 1 = .ok (.iconst 0, 1) := by decide +kernel
theorem md_M_unattainable_2 : decode prog_14_method_76_code 2 = .ok (.aload_n 0, 1) := by decide +kernel
theorem md_M_unattainable_3 : decode prog_14_method_76_code 3 = .ok (.invokevirtual 219, 3) := by decide +kernel
theorem md_M_unattainable_6 : decode prog_14_method_76_code 6 = .ok (.iconst 1, 1) := by decide +kernel
theorem md_M_unattainable_7 : decode prog_14_method_76_code 7 = .ok (.isub, 1) := by decide +kernel
theorem md_M_unattainable_8 : decode prog_14_method_76_code 8 = .ok (.invokestatic 65, 3) := by decide +kernel
theorem md_M_unattainable_11 : decode prog_14_method_76_code 11 = .ok (.ifCond .eq 11, 3) := by decide +kernel
theorem md_M_unattainable_22 : decode prog_14_method_76_code 22 = .ok (.aload_n 0, 1) := by decide +kernel
theorem md_M_unattainable_23 : decode prog_14_method_76_code 23 = .ok (.bipush (-2), 2) := by decide +kernel
theorem md_M_unattainable_25 : decode prog_14_method_76_code 25 = .ok (.invokevirtual 77, 3) := by decide +kernel
theorem md_M_unattainable_28 : decode prog_14_method_76_code 28 = .ok (.ireturn, 1) := by decide +kernel
theorem md_M_unattainable_14 : decode prog_14_method_76_code 14 = .ok (.aload_n 0, 1) := by decide +kernel
theorem md_M_unattainable_15 : decode prog_14_method_76_code 15 = .ok (.iload_n 1, 1) := by decide +kernel
theorem md_M_unattainable_16 : decode prog_14_method_76_code 16 = .ok (.invokevirtual 225, 3) := by decide +kernel
theorem md_M_unattainable_19 : decode prog_14_method_76_code 19 = .ok (.goto 9, 3) := by decide +kernel
def mf_M_unattainable (x0 : Nat) (x1 : Int) (σ : pw_Sto) : Option (Int × pw_Sto) := pw_gd 10 x0 σ (pw_bd (mf_M_points x0 σ) (fun v2 s1 => pw_bd (mf_M_in x1 (0 : Int) (v2 - (1 : Int)) s1) (fun v4 s3 => pw_ck v4 0 (if v4 = 0 then pw_bd (mf_M_fail x0 (-2 : Int) s3) (fun v6 s5 => some (v6, s5)) else pw_bd (mf_M_missed x0 x1 s3) (fun v8 s7 => some (v8, s7))))))
set_option maxHeartbeats 4000000 in
set_option maxRecDepth 20000 in
theorem mc_M_unattainable {l : Launch} {E : pw_E} {σ : pw_Sto} {x0 : Nat} {x1 : Int} {out : Int × pw_Sto} (h : mf_M_unattainable x0 x1 σ = some out) : pw_CI l E my_M_unattainable prog_14_method_76_code 2 (some .int) mr_M_unattainable [.ref x0, .int (iI x1)] σ out := by
  unfold mf_M_unattainable at h
  refine pw_entryI (by decide) (Nat.le_of_ble_eq_true rfl) (pw_gd_val h) (fun X hX hR hI => ?_)
  change pw_Ok X prog_14_method_76_code "PadeWorkbenchModel" mr_M_unattainable 2 at hX
  show pw_Sp X 0 0 0 [(0, Value.ref x0), (1, Value.int (iI x1))] [] σ _
  refine sp_iload_n (pc := 0) (k := 1) (i := 1) hX rfl 1 rfl md_M_unattainable_0 ?_
  refine sp_iconst (pc := 1) hX md_M_unattainable_1 ?_
  refine sp_aload_n (pc := 2) (k := 0) (i := 0) hX rfl 0 rfl md_M_unattainable_2 ?_
  refine sp_callVI (pc := 3) (y := my_M_points) (ccy := prog_14_method_70_code) (nLy := 1) (ret := (some .int)) (rmy := mr_M_points) (n := 0) (idx := 219) (As := []) (st := [.int (iI (0 : Int)), .int (iI x1)]) (o := x0) (cells' := 0) (slots' := 0) hX (fun _ h => mc_M_points h) mk_M_points mv_M_points mcl_10 (fun _ h => pw_gd_of h) mq_1129 ⟨(Nat.le_of_ble_eq_true rfl), (Nat.le_of_ble_eq_true rfl)⟩ rfl rfl (Nat.le_of_ble_eq_true rfl) ⟨(Nat.le_of_ble_eq_true rfl), (Nat.le_of_ble_eq_true rfl)⟩ rfl rfl md_M_unattainable_3 (fun v2 s1 => ?_)
  refine sp_iconst (pc := 6) hX md_M_unattainable_6 ?_
  refine sp_isub (pc := 7) hX md_M_unattainable_7 ?_
  refine sp_callSI (pc := 8) (y := my_M_in) (ccy := prog_14_method_2_code) (nLy := 3) (ret := (some .boolean)) (rmy := mr_M_in) (n := 3) (idx := 65) (As := [.int (iI x1), .int (iI (0 : Int)), .int (iI (v2 - (1 : Int)))]) (st := []) (cells' := 0) (slots' := 0) hX (fun _ h => mc_M_in h) mk_M_in mq_868 mq_867 ⟨(Nat.le_of_ble_eq_true rfl), (Nat.le_of_ble_eq_true rfl)⟩ rfl rfl (Nat.le_of_ble_eq_true rfl) ⟨(Nat.le_of_ble_eq_true rfl), (Nat.le_of_ble_eq_true rfl)⟩ rfl rfl md_M_unattainable_8 (fun v4 s3 => ?_)
  refine sp_if_eq (pc := 11) hX 22 (by decide) md_M_unattainable_11 (fun _ => ?_) (fun _ => ?_)
  · refine sp_aload_n (pc := 22) (k := 0) (i := 0) hX rfl 0 rfl md_M_unattainable_22 ?_
    refine sp_bipush (pc := 23) hX (by decide) md_M_unattainable_23 ?_
    refine sp_callVI (pc := 25) (y := my_M_fail) (ccy := prog_14_method_3_code) (nLy := 2) (ret := (some .int)) (rmy := mr_M_fail) (n := 1) (idx := 77) (As := [.int (iI (-2 : Int))]) (st := []) (o := x0) (cells' := 0) (slots' := 0) hX (fun _ h => mc_M_fail h) mk_M_fail mv_M_fail mcl_10 (fun _ h => pw_gd_of h) mq_870 ⟨(Nat.le_of_ble_eq_true rfl), (Nat.le_of_ble_eq_true rfl)⟩ rfl rfl (Nat.le_of_ble_eq_true rfl) ⟨(Nat.le_of_ble_eq_true rfl), (Nat.le_of_ble_eq_true rfl)⟩ rfl rfl md_M_unattainable_25 (fun v6 s5 => ?_)
    exact sp_iret (pc := 28) hX hR rfl (Nat.le_of_ble_eq_true rfl) md_M_unattainable_28
  · refine sp_aload_n (pc := 14) (k := 0) (i := 0) hX rfl 0 rfl md_M_unattainable_14 ?_
    refine sp_iload_n (pc := 15) (k := 1) (i := 1) hX rfl 1 rfl md_M_unattainable_15 ?_
    refine sp_callVI (pc := 16) (y := my_M_missed) (ccy := prog_14_method_74_code) (nLy := 5) (ret := (some .int)) (rmy := mr_M_missed) (n := 1) (idx := 225) (As := [.int (iI x1)]) (st := []) (o := x0) (cells' := 0) (slots' := 0) hX (fun _ h => mc_M_missed h) mk_M_missed mv_M_missed mcl_10 (fun _ h => pw_gd_of h) mq_1149 ⟨(Nat.le_of_ble_eq_true rfl), (Nat.le_of_ble_eq_true rfl)⟩ rfl rfl (Nat.le_of_ble_eq_true rfl) ⟨(Nat.le_of_ble_eq_true rfl), (Nat.le_of_ble_eq_true rfl)⟩ rfl rfl md_M_unattainable_16 (fun v8 s7 => ?_)
    refine sp_goto (pc := 19) hX 28 (by decide) md_M_unattainable_19 ?_
    exact sp_iret (pc := 28) hX hR rfl (Nat.le_of_ble_eq_true rfl) md_M_unattainable_28
/-! PadeWorkbenchModel.undo()I -/
theorem md_M_undo_0 : decode prog_14_method_77_code 0 = .ok (.aload_n 0, 1) := by decide +kernel
theorem md_M_undo_1 : decode prog_14_method_77_code 1 = .ok (.getfield 69, 3) := by decide +kernel
theorem md_M_undo_4 : decode prog_14_method_77_code 4 = .ok (.ifCond .ne 10, 3) := by decide +kernel
theorem md_M_undo_14 : decode prog_14_method_77_code 14 = .ok (.aload_n 0, 1) := by decide +kernel
theorem md_M_undo_15 : decode prog_14_method_77_code 15 = .ok (.dup, 1) := by decide +kernel
theorem md_M_undo_16 : decode prog_14_method_77_code 16 = .ok (.getfield 69, 3) := by decide +kernel
theorem md_M_undo_19 : decode prog_14_method_77_code 19 = .ok (.iconst 1, 1) := by decide +kernel
theorem md_M_undo_20 : decode prog_14_method_77_code 20 = .ok (.isub, 1) := by decide +kernel
theorem md_M_undo_21 : decode prog_14_method_77_code 21 = .ok (.putfield 69, 3) := by decide +kernel
theorem md_M_undo_24 : decode prog_14_method_77_code 24 = .ok (.iconst 0, 1) := by decide +kernel
theorem md_M_undo_25 : decode prog_14_method_77_code 25 = .ok (.istore_n 1, 1) := by decide +kernel
theorem md_M_undo_26 : decode prog_14_method_77_code 26 = .ok (.iload_n 1, 1) := by decide +kernel
theorem md_M_undo_27 : decode prog_14_method_77_code 27 = .ok (.bipush 86, 2) := by decide +kernel
theorem md_M_undo_29 : decode prog_14_method_77_code 29 = .ok (.if_icmp .ge 29, 3) := by decide +kernel
theorem md_M_undo_58 : decode prog_14_method_77_code 58 = .ok (.aload_n 0, 1) := by decide +kernel
theorem md_M_undo_59 : decode prog_14_method_77_code 59 = .ok (.getfield 69, 3) := by decide +kernel
theorem md_M_undo_62 : decode prog_14_method_77_code 62 = .ok (.ireturn, 1) := by decide +kernel
theorem md_M_undo_32 : decode prog_14_method_77_code 32 = .ok (.aload_n 0, 1) := by decide +kernel
theorem md_M_undo_33 : decode prog_14_method_77_code 33 = .ok (.getfield 7, 3) := by decide +kernel
theorem md_M_undo_36 : decode prog_14_method_77_code 36 = .ok (.iload_n 1, 1) := by decide +kernel
theorem md_M_undo_37 : decode prog_14_method_77_code 37 = .ok (.aload_n 0, 1) := by decide +kernel
theorem md_M_undo_38 : decode prog_14_method_77_code 38 = .ok (.getfield 13, 3) := by decide +kernel
theorem md_M_undo_41 : decode prog_14_method_77_code 41 = .ok (.bipush 86, 2) := by decide +kernel
theorem md_M_undo_43 : decode prog_14_method_77_code 43 = .ok (.aload_n 0, 1) := by decide +kernel
theorem md_M_undo_44 : decode prog_14_method_77_code 44 = .ok (.getfield 69, 3) := by decide +kernel
theorem md_M_undo_47 : decode prog_14_method_77_code 47 = .ok (.imul, 1) := by decide +kernel
theorem md_M_undo_48 : decode prog_14_method_77_code 48 = .ok (.iload_n 1, 1) := by decide +kernel
theorem md_M_undo_49 : decode prog_14_method_77_code 49 = .ok (.iadd, 1) := by decide +kernel
theorem md_M_undo_50 : decode prog_14_method_77_code 50 = .ok (.iaload, 1) := by decide +kernel
theorem md_M_undo_51 : decode prog_14_method_77_code 51 = .ok (.iastore, 1) := by decide +kernel
theorem md_M_undo_52 : decode prog_14_method_77_code 52 = .ok (.iinc 1 1, 3) := by decide +kernel
theorem md_M_undo_55 : decode prog_14_method_77_code 55 = .ok (.goto (-29), 3) := by decide +kernel
theorem md_M_undo_7 : decode prog_14_method_77_code 7 = .ok (.aload_n 0, 1) := by decide +kernel
theorem md_M_undo_8 : decode prog_14_method_77_code 8 = .ok (.bipush (-3), 2) := by decide +kernel
theorem md_M_undo_10 : decode prog_14_method_77_code 10 = .ok (.invokevirtual 77, 3) := by decide +kernel
theorem md_M_undo_13 : decode prog_14_method_77_code 13 = .ok (.ireturn, 1) := by decide +kernel
def mb_M_undo_26 (rc : Nat → Int → pw_Sto → Option (Int × pw_Sto)) : Nat → Int → pw_Sto → Option (Int × pw_Sto) := fun x0 x1 σ => pw_ck x1 (86 : Int) (if (86 : Int) ≤ x1 then (pw_gi 10 x0 2 σ).bind (fun v4 => some (v4, σ)) else (pw_gr 10 x0 0 σ).bind (fun v5 => (pw_gr 10 x0 1 σ).bind (fun v6 => (pw_gi 10 x0 2 σ).bind (fun v7 => (pw_ai v6 (((86 : Int) * v7) + x1) σ).bind (fun v8 => (pw_si v5 x1 v8 σ).bind (fun s9 => rc x0 (x1 + 1) s9))))))
def ml_M_undo_26 : Nat → Nat → Int → pw_Sto → Option (Int × pw_Sto) := pw_lp (fun _ _ _ => none) (mb_M_undo_26)
def mf_M_undo (x0 : Nat) (σ : pw_Sto) : Option (Int × pw_Sto) := pw_gd 10 x0 σ ((pw_gi 10 x0 2 σ).bind (fun v1 => pw_ck v1 0 (if v1 = 0 then pw_bd (mf_M_fail x0 (-3 : Int) σ) (fun v11 s10 => some (v11, s10)) else (pw_gi 10 x0 2 σ).bind (fun v2 => (pw_pi 10 x0 2 (v2 - (1 : Int)) σ).bind (fun s3 => ml_M_undo_26 1000 x0 (0 : Int) s3)))))
set_option maxHeartbeats 4000000 in
set_option maxRecDepth 20000 in
theorem sl_M_undo_26 {X : pw_X Int} (hX : pw_Ok X prog_14_method_77_code "PadeWorkbenchModel" mr_M_undo 2) (hR : pw_RI X prog_14_method_77_code) : ∀ (n : Nat) (x0 : Nat) (x1 : Int) (σ : pw_Sto), pw_Sp X 0 0 26 [(0, Value.ref x0), (1, Value.int (iI x1))] [] σ (ml_M_undo_26 n x0 x1 σ) := by
  intro n
  induction n with
  | zero => intros; exact pw_none
  | succ n ih =>
    intro x0 x1 σ
    show pw_Sp X 0 0 26 _ _ σ (mb_M_undo_26 (ml_M_undo_26 n) x0 x1 σ)
    unfold mb_M_undo_26
    refine sp_iload_n (pc := 26) (k := 1) (i := 1) hX rfl 1 rfl md_M_undo_26 ?_
    refine sp_bipush (pc := 27) hX (by decide) md_M_undo_27 ?_
    refine sp_icmp_ge (pc := 29) hX 58 (by decide) md_M_undo_29 (fun _ => ?_) (fun _ => ?_)
    · refine sp_aload_n (pc := 58) (k := 0) (i := 0) hX rfl 0 rfl md_M_undo_58 ?_
      refine sp_getI (pc := 59) (ci := 10) (k := 2) (idx := 69) hX mcl_10 (by decide) mq_801 rfl md_M_undo_59 (fun v4 => ?_)
      exact sp_iret (pc := 62) hX hR rfl (Nat.le_of_ble_eq_true rfl) md_M_undo_62
    · refine sp_aload_n (pc := 32) (k := 0) (i := 0) hX rfl 0 rfl md_M_undo_32 ?_
      refine sp_getR (pc := 33) (ci := 10) (k := 0) (idx := 7) hX mcl_10 (by decide) mq_799 rfl md_M_undo_33 (fun v5 => ?_)
      refine sp_iload_n (pc := 36) (k := 1) (i := 1) hX rfl 1 rfl md_M_undo_36 ?_
      refine sp_aload_n (pc := 37) (k := 0) (i := 0) hX rfl 0 rfl md_M_undo_37 ?_
      refine sp_getR (pc := 38) (ci := 10) (k := 1) (idx := 13) hX mcl_10 (by decide) mq_800 rfl md_M_undo_38 (fun v6 => ?_)
      refine sp_bipush (pc := 41) hX (by decide) md_M_undo_41 ?_
      refine sp_aload_n (pc := 43) (k := 0) (i := 0) hX rfl 0 rfl md_M_undo_43 ?_
      refine sp_getI (pc := 44) (ci := 10) (k := 2) (idx := 69) hX mcl_10 (by decide) mq_801 rfl md_M_undo_44 (fun v7 => ?_)
      refine sp_imul (pc := 47) hX md_M_undo_47 ?_
      refine sp_iload_n (pc := 48) (k := 1) (i := 1) hX rfl 1 rfl md_M_undo_48 ?_
      refine sp_iadd (pc := 49) hX md_M_undo_49 ?_
      refine sp_iaload (pc := 50) hX md_M_undo_50 (fun v8 => ?_)
      refine sp_iastore (pc := 51) hX md_M_undo_51 (fun s9 => ?_)
      refine sp_iinc (pc := 52) (i := 1) (L' := [(1, Value.int (iI (x1 + 1))), (0, Value.ref x0)]) hX 1 rfl (by decide) rfl md_M_undo_52 ?_
      refine sp_goto (pc := 55) hX 26 (by decide) md_M_undo_55 ?_
      refine sp_sub [1, 0] (L' := [(0, Value.ref x0), (1, Value.int (iI (x1 + 1)))]) rfl ?_
      exact ih x0 (x1 + 1) s9
set_option maxHeartbeats 4000000 in
set_option maxRecDepth 20000 in
theorem mc_M_undo {l : Launch} {E : pw_E} {σ : pw_Sto} {x0 : Nat} {out : Int × pw_Sto} (h : mf_M_undo x0 σ = some out) : pw_CI l E my_M_undo prog_14_method_77_code 2 (some .int) mr_M_undo [.ref x0] σ out := by
  unfold mf_M_undo at h
  refine pw_entryI (by decide) (Nat.le_of_ble_eq_true rfl) (pw_gd_val h) (fun X hX hR hI => ?_)
  change pw_Ok X prog_14_method_77_code "PadeWorkbenchModel" mr_M_undo 2 at hX
  show pw_Sp X 0 0 0 [(0, Value.ref x0)] [] σ _
  refine sp_aload_n (pc := 0) (k := 0) (i := 0) hX rfl 0 rfl md_M_undo_0 ?_
  refine sp_getI (pc := 1) (ci := 10) (k := 2) (idx := 69) hX mcl_10 (by decide) mq_801 rfl md_M_undo_1 (fun v1 => ?_)
  refine sp_if_ne (pc := 4) hX 14 (by decide) md_M_undo_4 (fun _ => ?_) (fun _ => ?_)
  · refine sp_aload_n (pc := 7) (k := 0) (i := 0) hX rfl 0 rfl md_M_undo_7 ?_
    refine sp_bipush (pc := 8) hX (by decide) md_M_undo_8 ?_
    refine sp_callVI (pc := 10) (y := my_M_fail) (ccy := prog_14_method_3_code) (nLy := 2) (ret := (some .int)) (rmy := mr_M_fail) (n := 1) (idx := 77) (As := [.int (iI (-3 : Int))]) (st := []) (o := x0) (cells' := 0) (slots' := 0) hX (fun _ h => mc_M_fail h) mk_M_fail mv_M_fail mcl_10 (fun _ h => pw_gd_of h) mq_870 ⟨(Nat.le_of_ble_eq_true rfl), (Nat.le_of_ble_eq_true rfl)⟩ rfl rfl (Nat.le_of_ble_eq_true rfl) ⟨(Nat.le_of_ble_eq_true rfl), (Nat.le_of_ble_eq_true rfl)⟩ rfl rfl md_M_undo_10 (fun v11 s10 => ?_)
    exact sp_iret (pc := 13) hX hR rfl (Nat.le_of_ble_eq_true rfl) md_M_undo_13
  · refine sp_aload_n (pc := 14) (k := 0) (i := 0) hX rfl 0 rfl md_M_undo_14 ?_
    refine sp_dup (pc := 15) hX rfl md_M_undo_15 ?_
    refine sp_getI (pc := 16) (ci := 10) (k := 2) (idx := 69) hX mcl_10 (by decide) mq_801 rfl md_M_undo_16 (fun v2 => ?_)
    refine sp_iconst (pc := 19) hX md_M_undo_19 ?_
    refine sp_isub (pc := 20) hX md_M_undo_20 ?_
    refine sp_putI (pc := 21) (ci := 10) (k := 2) (idx := 69) hX mcl_10 (by decide) mq_801 rfl rfl rfl md_M_undo_21 (fun s3 => ?_)
    refine sp_iconst (pc := 24) hX md_M_undo_24 ?_
    refine sp_istore_n (pc := 25) (k := 1) (i := 1) (L' := [(1, Value.int (iI (0 : Int))), (0, Value.ref x0)]) hX rfl (by decide) rfl md_M_undo_25 ?_
    refine sp_sub [1, 0] (L' := [(0, Value.ref x0), (1, Value.int (iI (0 : Int)))]) rfl ?_
    exact sl_M_undo_26 hX hR 1000 x0 (0 : Int) s3
/-! PadeWorkbenchModel.errorCount(I)I -/
theorem md_M_errorCount_0 : decode prog_14_method_78_code 0 = .ok (.iload_n 1, 1) := by decide +kernel
theorem md_M_errorCount_1 : decode prog_14_method_78_code 1 = .ok (.iconst 0, 1) := by decide +kernel
theorem md_M_errorCount_2 : decode prog_14_method_78_code 2 = .ok (.iconst 2, 1) := by decide +kernel
theorem md_M_errorCount_3 : decode prog_14_method_78_code 3 = .ok (.invokestatic 65, 3) := by decide +kernel
theorem md_M_errorCount_6 : decode prog_14_method_78_code 6 = .ok (.ifCond .eq 12, 3) := by decide +kernel
theorem md_M_errorCount_18 : decode prog_14_method_78_code 18 = .ok (.aload_n 0, 1) := by decide +kernel
theorem md_M_errorCount_19 : decode prog_14_method_78_code 19 = .ok (.bipush (-2), 2) := by decide +kernel
theorem md_M_errorCount_21 : decode prog_14_method_78_code 21 = .ok (.invokevirtual 77, 3) := by decide +kernel
theorem md_M_errorCount_24 : decode prog_14_method_78_code 24 = .ok (.ireturn, 1) := by decide +kernel
theorem md_M_errorCount_9 : decode prog_14_method_78_code 9 = .ok (.aload_n 0, 1) := by decide +kernel
theorem md_M_errorCount_10 : decode prog_14_method_78_code 10 = .ok (.getfield 16, 3) := by decide +kernel
theorem md_M_errorCount_13 : decode prog_14_method_78_code 13 = .ok (.iload_n 1, 1) := by decide +kernel
theorem md_M_errorCount_14 : decode prog_14_method_78_code 14 = .ok (.iaload, 1) := by decide +kernel
theorem md_M_errorCount_15 : decode prog_14_method_78_code 15 = .ok (.goto 9, 3) := by decide +kernel
def mf_M_errorCount (x0 : Nat) (x1 : Int) (σ : pw_Sto) : Option (Int × pw_Sto) := pw_gd 10 x0 σ (pw_bd (mf_M_in x1 (0 : Int) (2 : Int) σ) (fun v2 s1 => pw_ck v2 0 (if v2 = 0 then pw_bd (mf_M_fail x0 (-2 : Int) s1) (fun v4 s3 => some (v4, s3)) else (pw_gr 10 x0 3 s1).bind (fun v5 => (pw_ai v5 x1 s1).bind (fun v6 => some (v6, s1))))))
set_option maxHeartbeats 4000000 in
set_option maxRecDepth 20000 in
theorem mc_M_errorCount {l : Launch} {E : pw_E} {σ : pw_Sto} {x0 : Nat} {x1 : Int} {out : Int × pw_Sto} (h : mf_M_errorCount x0 x1 σ = some out) : pw_CI l E my_M_errorCount prog_14_method_78_code 2 (some .int) mr_M_errorCount [.ref x0, .int (iI x1)] σ out := by
  unfold mf_M_errorCount at h
  refine pw_entryI (by decide) (Nat.le_of_ble_eq_true rfl) (pw_gd_val h) (fun X hX hR hI => ?_)
  change pw_Ok X prog_14_method_78_code "PadeWorkbenchModel" mr_M_errorCount 2 at hX
  show pw_Sp X 0 0 0 [(0, Value.ref x0), (1, Value.int (iI x1))] [] σ _
  refine sp_iload_n (pc := 0) (k := 1) (i := 1) hX rfl 1 rfl md_M_errorCount_0 ?_
  refine sp_iconst (pc := 1) hX md_M_errorCount_1 ?_
  refine sp_iconst (pc := 2) hX md_M_errorCount_2 ?_
  refine sp_callSI (pc := 3) (y := my_M_in) (ccy := prog_14_method_2_code) (nLy := 3) (ret := (some .boolean)) (rmy := mr_M_in) (n := 3) (idx := 65) (As := [.int (iI x1), .int (iI (0 : Int)), .int (iI (2 : Int))]) (st := []) (cells' := 0) (slots' := 0) hX (fun _ h => mc_M_in h) mk_M_in mq_868 mq_867 ⟨(Nat.le_of_ble_eq_true rfl), (Nat.le_of_ble_eq_true rfl)⟩ rfl rfl (Nat.le_of_ble_eq_true rfl) ⟨(Nat.le_of_ble_eq_true rfl), (Nat.le_of_ble_eq_true rfl)⟩ rfl rfl md_M_errorCount_3 (fun v2 s1 => ?_)
  refine sp_if_eq (pc := 6) hX 18 (by decide) md_M_errorCount_6 (fun _ => ?_) (fun _ => ?_)
  · refine sp_aload_n (pc := 18) (k := 0) (i := 0) hX rfl 0 rfl md_M_errorCount_18 ?_
    refine sp_bipush (pc := 19) hX (by decide) md_M_errorCount_19 ?_
    refine sp_callVI (pc := 21) (y := my_M_fail) (ccy := prog_14_method_3_code) (nLy := 2) (ret := (some .int)) (rmy := mr_M_fail) (n := 1) (idx := 77) (As := [.int (iI (-2 : Int))]) (st := []) (o := x0) (cells' := 0) (slots' := 0) hX (fun _ h => mc_M_fail h) mk_M_fail mv_M_fail mcl_10 (fun _ h => pw_gd_of h) mq_870 ⟨(Nat.le_of_ble_eq_true rfl), (Nat.le_of_ble_eq_true rfl)⟩ rfl rfl (Nat.le_of_ble_eq_true rfl) ⟨(Nat.le_of_ble_eq_true rfl), (Nat.le_of_ble_eq_true rfl)⟩ rfl rfl md_M_errorCount_21 (fun v4 s3 => ?_)
    exact sp_iret (pc := 24) hX hR rfl (Nat.le_of_ble_eq_true rfl) md_M_errorCount_24
  · refine sp_aload_n (pc := 9) (k := 0) (i := 0) hX rfl 0 rfl md_M_errorCount_9 ?_
    refine sp_getR (pc := 10) (ci := 10) (k := 3) (idx := 16) hX mcl_10 (by decide) mq_802 rfl md_M_errorCount_10 (fun v5 => ?_)
    refine sp_iload_n (pc := 13) (k := 1) (i := 1) hX rfl 1 rfl md_M_errorCount_13 ?_
    refine sp_iaload (pc := 14) hX md_M_errorCount_14 (fun v6 => ?_)
    refine sp_goto (pc := 15) hX 24 (by decide) md_M_errorCount_15 ?_
    exact sp_iret (pc := 24) hX hR rfl (Nat.le_of_ble_eq_true rfl) md_M_errorCount_24
/-! PadeWorkbenchModel.digest()J -/
theorem md_M_digest_0 : decode prog_14_method_79_code 0 = .ok (.ldc2_w 228, 3) := by decide +kernel
theorem md_M_digest_3 : decode prog_14_method_79_code 3 = .ok (.lstore_n 1, 1) := by decide +kernel
theorem md_M_digest_4 : decode prog_14_method_79_code 4 = .ok (.iconst 0, 1) := by decide +kernel
theorem md_M_digest_5 : decode prog_14_method_79_code 5 = .ok (.istore_n 3, 1) := by decide +kernel
theorem md_M_digest_6 : decode prog_14_method_79_code 6 = .ok (.iload_n 3, 1) := by decide +kernel
theorem md_M_digest_7 : decode prog_14_method_79_code 7 = .ok (.iconst 3, 1) := by decide +kernel
theorem md_M_digest_8 : decode prog_14_method_79_code 8 = .ok (.if_icmp .ge 23, 3) := by decide +kernel
theorem md_M_digest_31 : decode prog_14_method_79_code 31 = .ok (.ldc2_w 230, 3) := by decide +kernel
theorem md_M_digest_34 : decode prog_14_method_79_code 34 = .ok (.lload_n 1, 1) := by decide +kernel
theorem md_M_digest_35 : decode prog_14_method_79_code 35 = .ok (.lmul, 1) := by decide +kernel
theorem md_M_digest_36 : decode prog_14_method_79_code 36 = .ok (.aload_n 0, 1) := by decide +kernel
theorem md_M_digest_37 : decode prog_14_method_79_code 37 = .ok (.getfield 114, 3) := by decide +kernel
theorem md_M_digest_40 : decode prog_14_method_79_code 40 = .ok (.i2l, 1) := by decide +kernel
theorem md_M_digest_41 : decode prog_14_method_79_code 41 = .ok (.ladd, 1) := by decide +kernel
theorem md_M_digest_42 : decode prog_14_method_79_code 42 = .ok (.lstore_n 1, 1) := by decide +kernel
theorem md_M_digest_43 : decode prog_14_method_79_code 43 = .ok (.ldc2_w 230, 3) := by decide +kernel
theorem md_M_digest_46 : decode prog_14_method_79_code 46 = .ok (.lload_n 1, 1) := by decide +kernel
theorem md_M_digest_47 : decode prog_14_method_79_code 47 = .ok (.lmul, 1) := by decide +kernel
theorem md_M_digest_48 : decode prog_14_method_79_code 48 = .ok (.aload_n 0, 1) := by decide +kernel
theorem md_M_digest_49 : decode prog_14_method_79_code 49 = .ok (.getfield 69, 3) := by decide +kernel
theorem md_M_digest_52 : decode prog_14_method_79_code 52 = .ok (.i2l, 1) := by decide +kernel
theorem md_M_digest_53 : decode prog_14_method_79_code 53 = .ok (.ladd, 1) := by decide +kernel
theorem md_M_digest_54 : decode prog_14_method_79_code 54 = .ok (.lstore_n 1, 1) := by decide +kernel
theorem md_M_digest_55 : decode prog_14_method_79_code 55 = .ok (.ldc2_w 230, 3) := by decide +kernel
theorem md_M_digest_58 : decode prog_14_method_79_code 58 = .ok (.lload_n 1, 1) := by decide +kernel
theorem md_M_digest_59 : decode prog_14_method_79_code 59 = .ok (.lmul, 1) := by decide +kernel
theorem md_M_digest_60 : decode prog_14_method_79_code 60 = .ok (.aload_n 0, 1) := by decide +kernel
theorem md_M_digest_61 : decode prog_14_method_79_code 61 = .ok (.invokevirtual 61, 3) := by decide +kernel
theorem md_M_digest_64 : decode prog_14_method_79_code 64 = .ok (.i2l, 1) := by decide +kernel
theorem md_M_digest_65 : decode prog_14_method_79_code 65 = .ok (.ladd, 1) := by decide +kernel
theorem md_M_digest_66 : decode prog_14_method_79_code 66 = .ok (.lstore_n 1, 1) := by decide +kernel
theorem md_M_digest_67 : decode prog_14_method_79_code 67 = .ok (.iconst 0, 1) := by decide +kernel
theorem md_M_digest_68 : decode prog_14_method_79_code 68 = .ok (.istore_n 3, 1) := by decide +kernel
theorem md_M_digest_69 : decode prog_14_method_79_code 69 = .ok (.iload_n 3, 1) := by decide +kernel
theorem md_M_digest_70 : decode prog_14_method_79_code 70 = .ok (.iconst 4, 1) := by decide +kernel
theorem md_M_digest_71 : decode prog_14_method_79_code 71 = .ok (.if_icmp .ge 127, 3) := by decide +kernel
theorem md_M_digest_198 : decode prog_14_method_79_code 198 = .ok (.ldc2_w 230, 3) := by decide +kernel
theorem md_M_digest_201 : decode prog_14_method_79_code 201 = .ok (.lload_n 1, 1) := by decide +kernel
theorem md_M_digest_202 : decode prog_14_method_79_code 202 = .ok (.lmul, 1) := by decide +kernel
theorem md_M_digest_203 : decode prog_14_method_79_code 203 = .ok (.aload_n 0, 1) := by decide +kernel
theorem md_M_digest_204 : decode prog_14_method_79_code 204 = .ok (.invokevirtual 219, 3) := by decide +kernel
theorem md_M_digest_207 : decode prog_14_method_79_code 207 = .ok (.i2l, 1) := by decide +kernel
theorem md_M_digest_208 : decode prog_14_method_79_code 208 = .ok (.ladd, 1) := by decide +kernel
theorem md_M_digest_209 : decode prog_14_method_79_code 209 = .ok (.lstore_n 1, 1) := by decide +kernel
theorem md_M_digest_210 : decode prog_14_method_79_code 210 = .ok (.iconst 0, 1) := by decide +kernel
theorem md_M_digest_211 : decode prog_14_method_79_code 211 = .ok (.istore_n 3, 1) := by decide +kernel
theorem md_M_digest_212 : decode prog_14_method_79_code 212 = .ok (.iload_n 3, 1) := by decide +kernel
theorem md_M_digest_213 : decode prog_14_method_79_code 213 = .ok (.aload_n 0, 1) := by decide +kernel
theorem md_M_digest_214 : decode prog_14_method_79_code 214 = .ok (.invokevirtual 219, 3) := by decide +kernel
theorem md_M_digest_217 : decode prog_14_method_79_code 217 = .ok (.if_icmp .ge 43, 3) := by decide +kernel
theorem md_M_digest_260 : decode prog_14_method_79_code 260 = .ok (.iconst 0, 1) := by decide +kernel
theorem md_M_digest_261 : decode prog_14_method_79_code 261 = .ok (.istore_n 3, 1) := by decide +kernel
theorem md_M_digest_262 : decode prog_14_method_79_code 262 = .ok (.iload_n 3, 1) := by decide +kernel
theorem md_M_digest_263 : decode prog_14_method_79_code 263 = .ok (.aload_n 0, 1) := by decide +kernel
theorem md_M_digest_264 : decode prog_14_method_79_code 264 = .ok (.invokevirtual 219, 3) := by decide +kernel
theorem md_M_digest_267 : decode prog_14_method_79_code 267 = .ok (.if_icmp .ge 22, 3) := by decide +kernel
theorem md_M_digest_289 : decode prog_14_method_79_code 289 = .ok (.lload_n 1, 1) := by decide +kernel
theorem md_M_digest_290 : decode prog_14_method_79_code 290 = .ok (.lreturn, 1) := by decide +kernel
theorem md_M_digest_270 : decode prog_14_method_79_code 270 = .ok (.ldc2_w 230, 3) := by decide +kernel
theorem md_M_digest_273 : decode prog_14_method_79_code 273 = .ok (.lload_n 1, 1) := by decide +kernel
theorem md_M_digest_274 : decode prog_14_method_79_code 274 = .ok (.lmul, 1) := by decide +kernel
theorem md_M_digest_275 : decode prog_14_method_79_code 275 = .ok (.aload_n 0, 1) := by decide +kernel
theorem md_M_digest_276 : decode prog_14_method_79_code 276 = .ok (.iload_n 3, 1) := by decide +kernel
theorem md_M_digest_277 : decode prog_14_method_79_code 277 = .ok (.invokevirtual 225, 3) := by decide +kernel
theorem md_M_digest_280 : decode prog_14_method_79_code 280 = .ok (.i2l, 1) := by decide +kernel
theorem md_M_digest_281 : decode prog_14_method_79_code 281 = .ok (.ladd, 1) := by decide +kernel
theorem md_M_digest_282 : decode prog_14_method_79_code 282 = .ok (.lstore_n 1, 1) := by decide +kernel
theorem md_M_digest_283 : decode prog_14_method_79_code 283 = .ok (.iinc 3 1, 3) := by decide +kernel
theorem md_M_digest_286 : decode prog_14_method_79_code 286 = .ok (.goto (-24), 3) := by decide +kernel
theorem md_M_digest_220 : decode prog_14_method_79_code 220 = .ok (.ldc2_w 230, 3) := by decide +kernel
theorem md_M_digest_223 : decode prog_14_method_79_code 223 = .ok (.lload_n 1, 1) := by decide +kernel
theorem md_M_digest_224 : decode prog_14_method_79_code 224 = .ok (.lmul, 1) := by decide +kernel
theorem md_M_digest_225 : decode prog_14_method_79_code 225 = .ok (.aload_n 0, 1) := by decide +kernel
theorem md_M_digest_226 : decode prog_14_method_79_code 226 = .ok (.getfield 7, 3) := by decide +kernel
theorem md_M_digest_229 : decode prog_14_method_79_code 229 = .ok (.bipush 66, 2) := by decide +kernel
theorem md_M_digest_231 : decode prog_14_method_79_code 231 = .ok (.iload_n 3, 1) := by decide +kernel
theorem md_M_digest_232 : decode prog_14_method_79_code 232 = .ok (.iadd, 1) := by decide +kernel
theorem md_M_digest_233 : decode prog_14_method_79_code 233 = .ok (.iaload, 1) := by decide +kernel
theorem md_M_digest_234 : decode prog_14_method_79_code 234 = .ok (.i2l, 1) := by decide +kernel
theorem md_M_digest_235 : decode prog_14_method_79_code 235 = .ok (.ladd, 1) := by decide +kernel
theorem md_M_digest_236 : decode prog_14_method_79_code 236 = .ok (.lstore_n 1, 1) := by decide +kernel
theorem md_M_digest_237 : decode prog_14_method_79_code 237 = .ok (.ldc2_w 230, 3) := by decide +kernel
theorem md_M_digest_240 : decode prog_14_method_79_code 240 = .ok (.lload_n 1, 1) := by decide +kernel
theorem md_M_digest_241 : decode prog_14_method_79_code 241 = .ok (.lmul, 1) := by decide +kernel
theorem md_M_digest_242 : decode prog_14_method_79_code 242 = .ok (.aload_n 0, 1) := by decide +kernel
theorem md_M_digest_243 : decode prog_14_method_79_code 243 = .ok (.getfield 7, 3) := by decide +kernel
theorem md_M_digest_246 : decode prog_14_method_79_code 246 = .ok (.bipush 76, 2) := by decide +kernel
theorem md_M_digest_248 : decode prog_14_method_79_code 248 = .ok (.iload_n 3, 1) := by decide +kernel
theorem md_M_digest_249 : decode prog_14_method_79_code 249 = .ok (.iadd, 1) := by decide +kernel
theorem md_M_digest_250 : decode prog_14_method_79_code 250 = .ok (.iaload, 1) := by decide +kernel
theorem md_M_digest_251 : decode prog_14_method_79_code 251 = .ok (.i2l, 1) := by decide +kernel
theorem md_M_digest_252 : decode prog_14_method_79_code 252 = .ok (.ladd, 1) := by decide +kernel
theorem md_M_digest_253 : decode prog_14_method_79_code 253 = .ok (.lstore_n 1, 1) := by decide +kernel
theorem md_M_digest_254 : decode prog_14_method_79_code 254 = .ok (.iinc 3 1, 3) := by decide +kernel
theorem md_M_digest_257 : decode prog_14_method_79_code 257 = .ok (.goto (-45), 3) := by decide +kernel
theorem md_M_digest_74 : decode prog_14_method_79_code 74 = .ok (.iconst 0, 1) := by decide +kernel
theorem md_M_digest_75 : decode prog_14_method_79_code 75 = .ok (.istore 4, 2) := by decide +kernel
theorem md_M_digest_77 : decode prog_14_method_79_code 77 = .ok (.iload 4, 2) := by decide +kernel
theorem md_M_digest_79 : decode prog_14_method_79_code 79 = .ok (.bipush 16, 2) := by decide +kernel
theorem md_M_digest_81 : decode prog_14_method_79_code 81 = .ok (.if_icmp .ge 24, 3) := by decide +kernel
theorem md_M_digest_105 : decode prog_14_method_79_code 105 = .ok (.iconst 0, 1) := by decide +kernel
theorem md_M_digest_106 : decode prog_14_method_79_code 106 = .ok (.istore 4, 2) := by decide +kernel
theorem md_M_digest_108 : decode prog_14_method_79_code 108 = .ok (.iload 4, 2) := by decide +kernel
theorem md_M_digest_110 : decode prog_14_method_79_code 110 = .ok (.bipush 8, 2) := by decide +kernel
theorem md_M_digest_112 : decode prog_14_method_79_code 112 = .ok (.if_icmp .ge 50, 3) := by decide +kernel
theorem md_M_digest_162 : decode prog_14_method_79_code 162 = .ok (.ldc2_w 230, 3) := by decide +kernel
theorem md_M_digest_165 : decode prog_14_method_79_code 165 = .ok (.lload_n 1, 1) := by decide +kernel
theorem md_M_digest_166 : decode prog_14_method_79_code 166 = .ok (.lmul, 1) := by decide +kernel
theorem md_M_digest_167 : decode prog_14_method_79_code 167 = .ok (.aload_n 0, 1) := by decide +kernel
theorem md_M_digest_168 : decode prog_14_method_79_code 168 = .ok (.iload_n 3, 1) := by decide +kernel
theorem md_M_digest_169 : decode prog_14_method_79_code 169 = .ok (.bipush 16, 2) := by decide +kernel
theorem md_M_digest_171 : decode prog_14_method_79_code 171 = .ok (.invokevirtual 216, 3) := by decide +kernel
theorem md_M_digest_174 : decode prog_14_method_79_code 174 = .ok (.i2l, 1) := by decide +kernel
theorem md_M_digest_175 : decode prog_14_method_79_code 175 = .ok (.ladd, 1) := by decide +kernel
theorem md_M_digest_176 : decode prog_14_method_79_code 176 = .ok (.lstore_n 1, 1) := by decide +kernel
theorem md_M_digest_177 : decode prog_14_method_79_code 177 = .ok (.ldc2_w 230, 3) := by decide +kernel
theorem md_M_digest_180 : decode prog_14_method_79_code 180 = .ok (.lload_n 1, 1) := by decide +kernel
theorem md_M_digest_181 : decode prog_14_method_79_code 181 = .ok (.lmul, 1) := by decide +kernel
theorem md_M_digest_182 : decode prog_14_method_79_code 182 = .ok (.aload_n 0, 1) := by decide +kernel
theorem md_M_digest_183 : decode prog_14_method_79_code 183 = .ok (.iload_n 3, 1) := by decide +kernel
theorem md_M_digest_184 : decode prog_14_method_79_code 184 = .ok (.bipush 7, 2) := by decide +kernel
theorem md_M_digest_186 : decode prog_14_method_79_code 186 = .ok (.invokevirtual 196, 3) := by decide +kernel
theorem md_M_digest_189 : decode prog_14_method_79_code 189 = .ok (.i2l, 1) := by decide +kernel
theorem md_M_digest_190 : decode prog_14_method_79_code 190 = .ok (.ladd, 1) := by decide +kernel
theorem md_M_digest_191 : decode prog_14_method_79_code 191 = .ok (.lstore_n 1, 1) := by decide +kernel
theorem md_M_digest_192 : decode prog_14_method_79_code 192 = .ok (.iinc 3 1, 3) := by decide +kernel
theorem md_M_digest_195 : decode prog_14_method_79_code 195 = .ok (.goto (-126), 3) := by decide +kernel
theorem md_M_digest_115 : decode prog_14_method_79_code 115 = .ok (.aload_n 0, 1) := by decide +kernel
theorem md_M_digest_116 : decode prog_14_method_79_code 116 = .ok (.iload_n 3, 1) := by decide +kernel
theorem md_M_digest_117 : decode prog_14_method_79_code 117 = .ok (.iload 4, 2) := by decide +kernel
theorem md_M_digest_119 : decode prog_14_method_79_code 119 = .ok (.bipush 7, 2) := by decide +kernel
theorem md_M_digest_121 : decode prog_14_method_79_code 121 = .ok (.iload 4, 2) := by decide +kernel
theorem md_M_digest_123 : decode prog_14_method_79_code 123 = .ok (.isub, 1) := by decide +kernel
theorem md_M_digest_124 : decode prog_14_method_79_code 124 = .ok (.invokevirtual 183, 3) := by decide +kernel
theorem md_M_digest_127 : decode prog_14_method_79_code 127 = .ok (.ldc2_w 230, 3) := by decide +kernel
theorem md_M_digest_130 : decode prog_14_method_79_code 130 = .ok (.lload_n 1, 1) := by decide +kernel
theorem md_M_digest_131 : decode prog_14_method_79_code 131 = .ok (.lmul, 1) := by decide +kernel
theorem md_M_digest_132 : decode prog_14_method_79_code 132 = .ok (.aload_n 0, 1) := by decide +kernel
theorem md_M_digest_133 : decode prog_14_method_79_code 133 = .ok (.iload_n 3, 1) := by decide +kernel
theorem md_M_digest_134 : decode prog_14_method_79_code 134 = .ok (.invokevirtual 177, 3) := by decide +kernel
theorem md_M_digest_137 : decode prog_14_method_79_code 137 = .ok (.i2l, 1) := by decide +kernel
theorem md_M_digest_138 : decode prog_14_method_79_code 138 = .ok (.ladd, 1) := by decide +kernel
theorem md_M_digest_139 : decode prog_14_method_79_code 139 = .ok (.lstore_n 1, 1) := by decide +kernel
theorem md_M_digest_140 : decode prog_14_method_79_code 140 = .ok (.ldc2_w 230, 3) := by decide +kernel
theorem md_M_digest_143 : decode prog_14_method_79_code 143 = .ok (.lload_n 1, 1) := by decide +kernel
theorem md_M_digest_144 : decode prog_14_method_79_code 144 = .ok (.lmul, 1) := by decide +kernel
theorem md_M_digest_145 : decode prog_14_method_79_code 145 = .ok (.aload_n 0, 1) := by decide +kernel
theorem md_M_digest_146 : decode prog_14_method_79_code 146 = .ok (.aload_n 0, 1) := by decide +kernel
theorem md_M_digest_147 : decode prog_14_method_79_code 147 = .ok (.getfield 40, 3) := by decide +kernel
theorem md_M_digest_150 : decode prog_14_method_79_code 150 = .ok (.invokevirtual 186, 3) := by decide +kernel
theorem md_M_digest_153 : decode prog_14_method_79_code 153 = .ok (.i2l, 1) := by decide +kernel
theorem md_M_digest_154 : decode prog_14_method_79_code 154 = .ok (.ladd, 1) := by decide +kernel
theorem md_M_digest_155 : decode prog_14_method_79_code 155 = .ok (.lstore_n 1, 1) := by decide +kernel
theorem md_M_digest_156 : decode prog_14_method_79_code 156 = .ok (.iinc 4 1, 3) := by decide +kernel
theorem md_M_digest_159 : decode prog_14_method_79_code 159 = .ok (.goto (-51), 3) := by decide +kernel
theorem md_M_digest_84 : decode prog_14_method_79_code 84 = .ok (.ldc2_w 230, 3) := by decide +kernel
theorem md_M_digest_87 : decode prog_14_method_79_code 87 = .ok (.lload_n 1, 1) := by decide +kernel
theorem md_M_digest_88 : decode prog_14_method_79_code 88 = .ok (.lmul, 1) := by decide +kernel
theorem md_M_digest_89 : decode prog_14_method_79_code 89 = .ok (.aload_n 0, 1) := by decide +kernel
theorem md_M_digest_90 : decode prog_14_method_79_code 90 = .ok (.iload_n 3, 1) := by decide +kernel
theorem md_M_digest_91 : decode prog_14_method_79_code 91 = .ok (.iload 4, 2) := by decide +kernel
theorem md_M_digest_93 : decode prog_14_method_79_code 93 = .ok (.invokevirtual 87, 3) := by decide +kernel
theorem md_M_digest_96 : decode prog_14_method_79_code 96 = .ok (.i2l, 1) := by decide +kernel
theorem md_M_digest_97 : decode prog_14_method_79_code 97 = .ok (.ladd, 1) := by decide +kernel
theorem md_M_digest_98 : decode prog_14_method_79_code 98 = .ok (.lstore_n 1, 1) := by decide +kernel
theorem md_M_digest_99 : decode prog_14_method_79_code 99 = .ok (.iinc 4 1, 3) := by decide +kernel
theorem md_M_digest_102 : decode prog_14_method_79_code 102 = .ok (.goto (-25), 3) := by decide +kernel
theorem md_M_digest_11 : decode prog_14_method_79_code 11 = .ok (.ldc2_w 230, 3) := by decide +kernel
theorem md_M_digest_14 : decode prog_14_method_79_code 14 = .ok (.lload_n 1, 1) := by decide +kernel
theorem md_M_digest_15 : decode prog_14_method_79_code 15 = .ok (.lmul, 1) := by decide +kernel
theorem md_M_digest_16 : decode prog_14_method_79_code 16 = .ok (.aload_n 0, 1) := by decide +kernel
theorem md_M_digest_17 : decode prog_14_method_79_code 17 = .ok (.getfield 16, 3) := by decide +kernel
theorem md_M_digest_20 : decode prog_14_method_79_code 20 = .ok (.iload_n 3, 1) := by decide +kernel
theorem md_M_digest_21 : decode prog_14_method_79_code 21 = .ok (.iaload, 1) := by decide +kernel
theorem md_M_digest_22 : decode prog_14_method_79_code 22 = .ok (.i2l, 1) := by decide +kernel
theorem md_M_digest_23 : decode prog_14_method_79_code 23 = .ok (.ladd, 1) := by decide +kernel
theorem md_M_digest_24 : decode prog_14_method_79_code 24 = .ok (.lstore_n 1, 1) := by decide +kernel
theorem md_M_digest_25 : decode prog_14_method_79_code 25 = .ok (.iinc 3 1, 3) := by decide +kernel
theorem md_M_digest_28 : decode prog_14_method_79_code 28 = .ok (.goto (-22), 3) := by decide +kernel
def mb_M_digest_262 (rc : Nat → Int64 → Int → pw_Sto → Option (Int64 × pw_Sto)) : Nat → Int64 → Int → pw_Sto → Option (Int64 × pw_Sto) := fun x0 x1 x3 σ => pw_bd (mf_M_points x0 σ) (fun v10 s9 => pw_ck x3 v10 (if v10 ≤ x3 then some (x1, s9) else pw_bd (mf_M_missed x0 x3 s9) (fun v12 s11 => rc x0 (((31 : Int64) * x1) + (Int32.toInt64 (iI v12))) (x3 + 1) s11)))
def ml_M_digest_262 : Nat → Nat → Int64 → Int → pw_Sto → Option (Int64 × pw_Sto) := pw_lp (fun _ _ _ _ => none) (mb_M_digest_262)
def mb_M_digest_212 (rc : Nat → Int64 → Int → pw_Sto → Option (Int64 × pw_Sto)) : Nat → Int64 → Int → pw_Sto → Option (Int64 × pw_Sto) := fun x0 x1 x3 σ => pw_bd (mf_M_points x0 σ) (fun v8 s7 => pw_ck x3 v8 (if v8 ≤ x3 then ml_M_digest_262 1000 x0 x1 (0 : Int) s7 else (pw_gr 10 x0 0 s7).bind (fun v13 => (pw_ai v13 ((66 : Int) + x3) s7).bind (fun v14 => (pw_gr 10 x0 0 s7).bind (fun v15 => (pw_ai v15 ((76 : Int) + x3) s7).bind (fun v16 => rc x0 (((31 : Int64) * (((31 : Int64) * x1) + (Int32.toInt64 (iI v14)))) + (Int32.toInt64 (iI v16))) (x3 + 1) s7))))))
def ml_M_digest_212 : Nat → Nat → Int64 → Int → pw_Sto → Option (Int64 × pw_Sto) := pw_lp (fun _ _ _ _ => none) (mb_M_digest_212)
def mb_M_digest_108 (r69 : Nat → Int64 → Int → pw_Sto → Option (Int64 × pw_Sto)) (rc : Nat → Int64 → Int → Int → pw_Sto → Option (Int64 × pw_Sto)) : Nat → Int64 → Int → Int → pw_Sto → Option (Int64 × pw_Sto) := fun x0 x1 x3 x4 σ => pw_ck x4 (8 : Int) (if (8 : Int) ≤ x4 then pw_bd (mf_M_complexityOf x0 x3 (16 : Int) σ) (fun v18 s17 => pw_bd (mf_M_normals x0 x3 (7 : Int) s17) (fun v20 s19 => r69 x0 (((31 : Int64) * (((31 : Int64) * x1) + (Int32.toInt64 (iI v18)))) + (Int32.toInt64 (iI v20))) (x3 + 1) s19)) else pw_bd (mf_M_approximate x0 x3 x4 ((7 : Int) - x4) σ) (fun _ s21 => pw_bd (mf_M_orderOf x0 x3 s21) (fun v23 s22 => (pw_gr 10 x0 13 s22).bind (fun v24 => pw_bd (mf_M_degreeOrNone x0 v24 s22) (fun v26 s25 => rc x0 (((31 : Int64) * (((31 : Int64) * x1) + (Int32.toInt64 (iI v23)))) + (Int32.toInt64 (iI v26))) x3 (x4 + 1) s25)))))
def ml_M_digest_108 (r69 : Nat → Int64 → Int → pw_Sto → Option (Int64 × pw_Sto)) : Nat → Nat → Int64 → Int → Int → pw_Sto → Option (Int64 × pw_Sto) := pw_lp (fun _ _ _ _ _ => none) (mb_M_digest_108 r69)
def mb_M_digest_77 (r69 : Nat → Int64 → Int → pw_Sto → Option (Int64 × pw_Sto)) (rc : Nat → Int64 → Int → Int → pw_Sto → Option (Int64 × pw_Sto)) : Nat → Int64 → Int → Int → pw_Sto → Option (Int64 × pw_Sto) := fun x0 x1 x3 x4 σ => pw_ck x4 (16 : Int) (if (16 : Int) ≤ x4 then ml_M_digest_108 r69 1000 x0 x1 x3 (0 : Int) σ else pw_bd (mf_M_term x0 x3 x4 σ) (fun v28 s27 => rc x0 (((31 : Int64) * x1) + (Int32.toInt64 (iI v28))) x3 (x4 + 1) s27))
def ml_M_digest_77 (r69 : Nat → Int64 → Int → pw_Sto → Option (Int64 × pw_Sto)) : Nat → Nat → Int64 → Int → Int → pw_Sto → Option (Int64 × pw_Sto) := pw_lp (fun _ _ _ _ _ => none) (mb_M_digest_77 r69)
def mb_M_digest_69 (rc : Nat → Int64 → Int → pw_Sto → Option (Int64 × pw_Sto)) : Nat → Int64 → Int → pw_Sto → Option (Int64 × pw_Sto) := fun x0 x1 x3 σ => pw_ck x3 (4 : Int) (if (4 : Int) ≤ x3 then pw_bd (mf_M_points x0 σ) (fun v6 s5 => ml_M_digest_212 1000 x0 (((31 : Int64) * x1) + (Int32.toInt64 (iI v6))) (0 : Int) s5) else ml_M_digest_77 rc 1000 x0 x1 x3 (0 : Int) σ)
def ml_M_digest_69 : Nat → Nat → Int64 → Int → pw_Sto → Option (Int64 × pw_Sto) := pw_lp (fun _ _ _ _ => none) (mb_M_digest_69)
def mb_M_digest_6 (rc : Nat → Int64 → Int → pw_Sto → Option (Int64 × pw_Sto)) : Nat → Int64 → Int → pw_Sto → Option (Int64 × pw_Sto) := fun x0 x1 x3 σ => pw_ck x3 (3 : Int) (if (3 : Int) ≤ x3 then (pw_gi 10 x0 5 σ).bind (fun v1 => (pw_gi 10 x0 2 σ).bind (fun v2 => pw_bd (mf_M_prime x0 σ) (fun v4 s3 => ml_M_digest_69 1000 x0 (((31 : Int64) * (((31 : Int64) * (((31 : Int64) * x1) + (Int32.toInt64 (iI v1)))) + (Int32.toInt64 (iI v2)))) + (Int32.toInt64 (iI v4))) (0 : Int) s3))) else (pw_gr 10 x0 3 σ).bind (fun v29 => (pw_ai v29 x3 σ).bind (fun v30 => rc x0 (((31 : Int64) * x1) + (Int32.toInt64 (iI v30))) (x3 + 1) σ)))
def ml_M_digest_6 : Nat → Nat → Int64 → Int → pw_Sto → Option (Int64 × pw_Sto) := pw_lp (fun _ _ _ _ => none) (mb_M_digest_6)
def mf_M_digest (x0 : Nat) (σ : pw_Sto) : Option (Int64 × pw_Sto) := pw_gd 10 x0 σ (ml_M_digest_6 1000 x0 (12475 : Int64) (0 : Int) σ)
set_option maxHeartbeats 4000000 in
set_option maxRecDepth 20000 in
theorem sl_M_digest_262 {X : pw_X Int64} (hX : pw_Ok X prog_14_method_79_code "PadeWorkbenchModel" mr_M_digest 5) (hR : pw_RL X prog_14_method_79_code) : ∀ (n : Nat) (x0 : Nat) (x1 : Int64) (x3 : Int) (σ : pw_Sto), pw_Sp X 0 0 262 [(0, Value.ref x0), (1, Value.long x1), (3, Value.int (iI x3))] [] σ (ml_M_digest_262 n x0 x1 x3 σ) := by
  intro n
  induction n with
  | zero => intros; exact pw_none
  | succ n ih =>
    intro x0 x1 x3 σ
    show pw_Sp X 0 0 262 _ _ σ (mb_M_digest_262 (ml_M_digest_262 n) x0 x1 x3 σ)
    unfold mb_M_digest_262
    refine sp_iload_n (pc := 262) (k := 3) (i := 3) hX rfl 2 rfl md_M_digest_262 ?_
    refine sp_aload_n (pc := 263) (k := 0) (i := 0) hX rfl 0 rfl md_M_digest_263 ?_
    refine sp_callVI (pc := 264) (y := my_M_points) (ccy := prog_14_method_70_code) (nLy := 1) (ret := (some .int)) (rmy := mr_M_points) (n := 0) (idx := 219) (As := []) (st := [.int (iI x3)]) (o := x0) (cells' := 0) (slots' := 0) hX (fun _ h => mc_M_points h) mk_M_points mv_M_points mcl_10 (fun _ h => pw_gd_of h) mq_1129 ⟨(Nat.le_of_ble_eq_true rfl), (Nat.le_of_ble_eq_true rfl)⟩ rfl rfl (Nat.le_of_ble_eq_true rfl) ⟨(Nat.le_of_ble_eq_true rfl), (Nat.le_of_ble_eq_true rfl)⟩ rfl rfl md_M_digest_264 (fun v10 s9 => ?_)
    refine sp_icmp_ge (pc := 267) hX 289 (by decide) md_M_digest_267 (fun _ => ?_) (fun _ => ?_)
    · refine sp_lload_n (pc := 289) (k := 1) (i := 1) hX rfl 1 rfl md_M_digest_289 ?_
      exact sp_lret (pc := 290) hX hR rfl (Nat.le_of_ble_eq_true rfl) md_M_digest_290
    · refine sp_ldc2 (pc := 270) hX (31 : Int64) mq_1166 md_M_digest_270 ?_
      refine sp_lload_n (pc := 273) (k := 1) (i := 1) hX rfl 1 rfl md_M_digest_273 ?_
      refine sp_lmul (pc := 274) hX md_M_digest_274 ?_
      refine sp_aload_n (pc := 275) (k := 0) (i := 0) hX rfl 0 rfl md_M_digest_275 ?_
      refine sp_iload_n (pc := 276) (k := 3) (i := 3) hX rfl 2 rfl md_M_digest_276 ?_
      refine sp_callVI (pc := 277) (y := my_M_missed) (ccy := prog_14_method_74_code) (nLy := 5) (ret := (some .int)) (rmy := mr_M_missed) (n := 1) (idx := 225) (As := [.int (iI x3)]) (st := [.long ((31 : Int64) * x1)]) (o := x0) (cells' := 0) (slots' := 0) hX (fun _ h => mc_M_missed h) mk_M_missed mv_M_missed mcl_10 (fun _ h => pw_gd_of h) mq_1149 ⟨(Nat.le_of_ble_eq_true rfl), (Nat.le_of_ble_eq_true rfl)⟩ rfl rfl (Nat.le_of_ble_eq_true rfl) ⟨(Nat.le_of_ble_eq_true rfl), (Nat.le_of_ble_eq_true rfl)⟩ rfl rfl md_M_digest_277 (fun v12 s11 => ?_)
      refine sp_i2l (pc := 280) hX md_M_digest_280 ?_
      refine sp_ladd (pc := 281) hX md_M_digest_281 ?_
      refine sp_lstore_n (pc := 282) (k := 1) (i := 1) (L' := [(1, Value.long (((31 : Int64) * x1) + (Int32.toInt64 (iI v12)))), (0, Value.ref x0), (3, Value.int (iI x3))]) hX rfl (by decide) rfl md_M_digest_282 ?_
      refine sp_iinc (pc := 283) (i := 3) (L' := [(3, Value.int (iI (x3 + 1))), (1, Value.long (((31 : Int64) * x1) + (Int32.toInt64 (iI v12)))), (0, Value.ref x0)]) hX 2 rfl (by decide) rfl md_M_digest_283 ?_
      refine sp_goto (pc := 286) hX 262 (by decide) md_M_digest_286 ?_
      refine sp_sub [2, 1, 0] (L' := [(0, Value.ref x0), (1, Value.long (((31 : Int64) * x1) + (Int32.toInt64 (iI v12)))), (3, Value.int (iI (x3 + 1)))]) rfl ?_
      exact ih x0 (((31 : Int64) * x1) + (Int32.toInt64 (iI v12))) (x3 + 1) s11
set_option maxHeartbeats 4000000 in
set_option maxRecDepth 20000 in
theorem sl_M_digest_212 {X : pw_X Int64} (hX : pw_Ok X prog_14_method_79_code "PadeWorkbenchModel" mr_M_digest 5) (hR : pw_RL X prog_14_method_79_code) : ∀ (n : Nat) (x0 : Nat) (x1 : Int64) (x3 : Int) (σ : pw_Sto), pw_Sp X 0 0 212 [(0, Value.ref x0), (1, Value.long x1), (3, Value.int (iI x3))] [] σ (ml_M_digest_212 n x0 x1 x3 σ) := by
  intro n
  induction n with
  | zero => intros; exact pw_none
  | succ n ih =>
    intro x0 x1 x3 σ
    show pw_Sp X 0 0 212 _ _ σ (mb_M_digest_212 (ml_M_digest_212 n) x0 x1 x3 σ)
    unfold mb_M_digest_212
    refine sp_iload_n (pc := 212) (k := 3) (i := 3) hX rfl 2 rfl md_M_digest_212 ?_
    refine sp_aload_n (pc := 213) (k := 0) (i := 0) hX rfl 0 rfl md_M_digest_213 ?_
    refine sp_callVI (pc := 214) (y := my_M_points) (ccy := prog_14_method_70_code) (nLy := 1) (ret := (some .int)) (rmy := mr_M_points) (n := 0) (idx := 219) (As := []) (st := [.int (iI x3)]) (o := x0) (cells' := 0) (slots' := 0) hX (fun _ h => mc_M_points h) mk_M_points mv_M_points mcl_10 (fun _ h => pw_gd_of h) mq_1129 ⟨(Nat.le_of_ble_eq_true rfl), (Nat.le_of_ble_eq_true rfl)⟩ rfl rfl (Nat.le_of_ble_eq_true rfl) ⟨(Nat.le_of_ble_eq_true rfl), (Nat.le_of_ble_eq_true rfl)⟩ rfl rfl md_M_digest_214 (fun v8 s7 => ?_)
    refine sp_icmp_ge (pc := 217) hX 260 (by decide) md_M_digest_217 (fun _ => ?_) (fun _ => ?_)
    · refine sp_iconst (pc := 260) hX md_M_digest_260 ?_
      refine sp_istore_n (pc := 261) (k := 3) (i := 3) (L' := [(3, Value.int (iI (0 : Int))), (0, Value.ref x0), (1, Value.long x1)]) hX rfl (by decide) rfl md_M_digest_261 ?_
      refine sp_sub [1, 2, 0] (L' := [(0, Value.ref x0), (1, Value.long x1), (3, Value.int (iI (0 : Int)))]) rfl ?_
      exact sl_M_digest_262 hX hR 1000 x0 x1 (0 : Int) s7
    · refine sp_ldc2 (pc := 220) hX (31 : Int64) mq_1166 md_M_digest_220 ?_
      refine sp_lload_n (pc := 223) (k := 1) (i := 1) hX rfl 1 rfl md_M_digest_223 ?_
      refine sp_lmul (pc := 224) hX md_M_digest_224 ?_
      refine sp_aload_n (pc := 225) (k := 0) (i := 0) hX rfl 0 rfl md_M_digest_225 ?_
      refine sp_getR (pc := 226) (ci := 10) (k := 0) (idx := 7) hX mcl_10 (by decide) mq_799 rfl md_M_digest_226 (fun v13 => ?_)
      refine sp_bipush (pc := 229) hX (by decide) md_M_digest_229 ?_
      refine sp_iload_n (pc := 231) (k := 3) (i := 3) hX rfl 2 rfl md_M_digest_231 ?_
      refine sp_iadd (pc := 232) hX md_M_digest_232 ?_
      refine sp_iaload (pc := 233) hX md_M_digest_233 (fun v14 => ?_)
      refine sp_i2l (pc := 234) hX md_M_digest_234 ?_
      refine sp_ladd (pc := 235) hX md_M_digest_235 ?_
      refine sp_lstore_n (pc := 236) (k := 1) (i := 1) (L' := [(1, Value.long (((31 : Int64) * x1) + (Int32.toInt64 (iI v14)))), (0, Value.ref x0), (3, Value.int (iI x3))]) hX rfl (by decide) rfl md_M_digest_236 ?_
      refine sp_ldc2 (pc := 237) hX (31 : Int64) mq_1166 md_M_digest_237 ?_
      refine sp_lload_n (pc := 240) (k := 1) (i := 1) hX rfl 0 rfl md_M_digest_240 ?_
      refine sp_lmul (pc := 241) hX md_M_digest_241 ?_
      refine sp_aload_n (pc := 242) (k := 0) (i := 0) hX rfl 1 rfl md_M_digest_242 ?_
      refine sp_getR (pc := 243) (ci := 10) (k := 0) (idx := 7) hX mcl_10 (by decide) mq_799 rfl md_M_digest_243 (fun v15 => ?_)
      refine sp_bipush (pc := 246) hX (by decide) md_M_digest_246 ?_
      refine sp_iload_n (pc := 248) (k := 3) (i := 3) hX rfl 2 rfl md_M_digest_248 ?_
      refine sp_iadd (pc := 249) hX md_M_digest_249 ?_
      refine sp_iaload (pc := 250) hX md_M_digest_250 (fun v16 => ?_)
      refine sp_i2l (pc := 251) hX md_M_digest_251 ?_
      refine sp_ladd (pc := 252) hX md_M_digest_252 ?_
      refine sp_lstore_n (pc := 253) (k := 1) (i := 1) (L' := [(1, Value.long (((31 : Int64) * (((31 : Int64) * x1) + (Int32.toInt64 (iI v14)))) + (Int32.toInt64 (iI v16)))), (0, Value.ref x0), (3, Value.int (iI x3))]) hX rfl (by decide) rfl md_M_digest_253 ?_
      refine sp_iinc (pc := 254) (i := 3) (L' := [(3, Value.int (iI (x3 + 1))), (1, Value.long (((31 : Int64) * (((31 : Int64) * x1) + (Int32.toInt64 (iI v14)))) + (Int32.toInt64 (iI v16)))), (0, Value.ref x0)]) hX 2 rfl (by decide) rfl md_M_digest_254 ?_
      refine sp_goto (pc := 257) hX 212 (by decide) md_M_digest_257 ?_
      refine sp_sub [2, 1, 0] (L' := [(0, Value.ref x0), (1, Value.long (((31 : Int64) * (((31 : Int64) * x1) + (Int32.toInt64 (iI v14)))) + (Int32.toInt64 (iI v16)))), (3, Value.int (iI (x3 + 1)))]) rfl ?_
      exact ih x0 (((31 : Int64) * (((31 : Int64) * x1) + (Int32.toInt64 (iI v14)))) + (Int32.toInt64 (iI v16))) (x3 + 1) s7
set_option maxHeartbeats 4000000 in
set_option maxRecDepth 20000 in
theorem sl_M_digest_108 {X : pw_X Int64} (hX : pw_Ok X prog_14_method_79_code "PadeWorkbenchModel" mr_M_digest 5) (hR : pw_RL X prog_14_method_79_code) {r69 : Nat → Int64 → Int → pw_Sto → Option (Int64 × pw_Sto)} (h69 : ∀ (z0 : Nat) (z1 : Int64) (z2 : Int) (σ : pw_Sto), pw_Sp X 0 0 69 [(0, Value.ref z0), (1, Value.long z1), (3, Value.int (iI z2))] [] σ (r69 z0 z1 z2 σ)) : ∀ (n : Nat) (x0 : Nat) (x1 : Int64) (x3 : Int) (x4 : Int) (σ : pw_Sto), pw_Sp X 0 0 108 [(0, Value.ref x0), (1, Value.long x1), (3, Value.int (iI x3)), (4, Value.int (iI x4))] [] σ (ml_M_digest_108 r69 n x0 x1 x3 x4 σ) := by
  intro n
  induction n with
  | zero => intros; exact pw_none
  | succ n ih =>
    intro x0 x1 x3 x4 σ
    show pw_Sp X 0 0 108 _ _ σ (mb_M_digest_108 r69 (ml_M_digest_108 r69 n) x0 x1 x3 x4 σ)
    unfold mb_M_digest_108
    refine sp_iload (pc := 108) (i := 4) hX 3 rfl md_M_digest_108 ?_
    refine sp_bipush (pc := 110) hX (by decide) md_M_digest_110 ?_
    refine sp_icmp_ge (pc := 112) hX 162 (by decide) md_M_digest_112 (fun _ => ?_) (fun _ => ?_)
    · refine sp_ldc2 (pc := 162) hX (31 : Int64) mq_1166 md_M_digest_162 ?_
      refine sp_lload_n (pc := 165) (k := 1) (i := 1) hX rfl 1 rfl md_M_digest_165 ?_
      refine sp_lmul (pc := 166) hX md_M_digest_166 ?_
      refine sp_aload_n (pc := 167) (k := 0) (i := 0) hX rfl 0 rfl md_M_digest_167 ?_
      refine sp_iload_n (pc := 168) (k := 3) (i := 3) hX rfl 2 rfl md_M_digest_168 ?_
      refine sp_bipush (pc := 169) hX (by decide) md_M_digest_169 ?_
      refine sp_callVI (pc := 171) (y := my_M_complexityOf) (ccy := prog_14_method_67_code) (nLy := 4) (ret := (some .int)) (rmy := mr_M_complexityOf) (n := 2) (idx := 216) (As := [.int (iI x3), .int (iI (16 : Int))]) (st := [.long ((31 : Int64) * x1)]) (o := x0) (cells' := 0) (slots' := 0) hX (fun _ h => mc_M_complexityOf h) mk_M_complexityOf mv_M_complexityOf mcl_10 (fun _ h => pw_gd_of h) mq_1113 ⟨(Nat.le_of_ble_eq_true rfl), (Nat.le_of_ble_eq_true rfl)⟩ rfl rfl (Nat.le_of_ble_eq_true rfl) ⟨(Nat.le_of_ble_eq_true rfl), (Nat.le_of_ble_eq_true rfl)⟩ rfl rfl md_M_digest_171 (fun v18 s17 => ?_)
      refine sp_i2l (pc := 174) hX md_M_digest_174 ?_
      refine sp_ladd (pc := 175) hX md_M_digest_175 ?_
      refine sp_lstore_n (pc := 176) (k := 1) (i := 1) (L' := [(1, Value.long (((31 : Int64) * x1) + (Int32.toInt64 (iI v18)))), (0, Value.ref x0), (3, Value.int (iI x3)), (4, Value.int (iI x4))]) hX rfl (by decide) rfl md_M_digest_176 ?_
      refine sp_ldc2 (pc := 177) hX (31 : Int64) mq_1166 md_M_digest_177 ?_
      refine sp_lload_n (pc := 180) (k := 1) (i := 1) hX rfl 0 rfl md_M_digest_180 ?_
      refine sp_lmul (pc := 181) hX md_M_digest_181 ?_
      refine sp_aload_n (pc := 182) (k := 0) (i := 0) hX rfl 1 rfl md_M_digest_182 ?_
      refine sp_iload_n (pc := 183) (k := 3) (i := 3) hX rfl 2 rfl md_M_digest_183 ?_
      refine sp_bipush (pc := 184) hX (by decide) md_M_digest_184 ?_
      refine sp_callVI (pc := 186) (y := my_M_normals) (ccy := prog_14_method_56_code) (nLy := 5) (ret := (some .int)) (rmy := mr_M_normals) (n := 2) (idx := 196) (As := [.int (iI x3), .int (iI (7 : Int))]) (st := [.long ((31 : Int64) * (((31 : Int64) * x1) + (Int32.toInt64 (iI v18))))]) (o := x0) (cells' := 0) (slots' := 0) hX (fun _ h => mc_M_normals h) mk_M_normals mv_M_normals mcl_10 (fun _ h => pw_gd_of h) mq_1074 ⟨(Nat.le_of_ble_eq_true rfl), (Nat.le_of_ble_eq_true rfl)⟩ rfl rfl (Nat.le_of_ble_eq_true rfl) ⟨(Nat.le_of_ble_eq_true rfl), (Nat.le_of_ble_eq_true rfl)⟩ rfl rfl md_M_digest_186 (fun v20 s19 => ?_)
      refine sp_i2l (pc := 189) hX md_M_digest_189 ?_
      refine sp_ladd (pc := 190) hX md_M_digest_190 ?_
      refine sp_lstore_n (pc := 191) (k := 1) (i := 1) (L' := [(1, Value.long (((31 : Int64) * (((31 : Int64) * x1) + (Int32.toInt64 (iI v18)))) + (Int32.toInt64 (iI v20)))), (0, Value.ref x0), (3, Value.int (iI x3)), (4, Value.int (iI x4))]) hX rfl (by decide) rfl md_M_digest_191 ?_
      refine sp_iinc (pc := 192) (i := 3) (L' := [(3, Value.int (iI (x3 + 1))), (1, Value.long (((31 : Int64) * (((31 : Int64) * x1) + (Int32.toInt64 (iI v18)))) + (Int32.toInt64 (iI v20)))), (0, Value.ref x0), (4, Value.int (iI x4))]) hX 2 rfl (by decide) rfl md_M_digest_192 ?_
      refine sp_goto (pc := 195) hX 69 (by decide) md_M_digest_195 ?_
      refine sp_sub [2, 1, 0] (L' := [(0, Value.ref x0), (1, Value.long (((31 : Int64) * (((31 : Int64) * x1) + (Int32.toInt64 (iI v18)))) + (Int32.toInt64 (iI v20)))), (3, Value.int (iI (x3 + 1)))]) rfl ?_
      exact h69 x0 (((31 : Int64) * (((31 : Int64) * x1) + (Int32.toInt64 (iI v18)))) + (Int32.toInt64 (iI v20))) (x3 + 1) s19
    · refine sp_aload_n (pc := 115) (k := 0) (i := 0) hX rfl 0 rfl md_M_digest_115 ?_
      refine sp_iload_n (pc := 116) (k := 3) (i := 3) hX rfl 2 rfl md_M_digest_116 ?_
      refine sp_iload (pc := 117) (i := 4) hX 3 rfl md_M_digest_117 ?_
      refine sp_bipush (pc := 119) hX (by decide) md_M_digest_119 ?_
      refine sp_iload (pc := 121) (i := 4) hX 3 rfl md_M_digest_121 ?_
      refine sp_isub (pc := 123) hX md_M_digest_123 ?_
      refine sp_callVV (pc := 124) (y := my_M_approximate) (ccy := prog_14_method_45_code) (nLy := 7) (ret := none) (rmy := mr_M_approximate) (n := 3) (idx := 183) (As := [.int (iI x3), .int (iI x4), .int (iI ((7 : Int) - x4))]) (st := []) (o := x0) (cells' := 0) (slots' := 0) hX (fun _ h => mc_M_approximate h) mk_M_approximate mv_M_approximate mcl_10 (fun _ h => pw_gd_of h) mq_992 ⟨(Nat.le_of_ble_eq_true rfl), (Nat.le_of_ble_eq_true rfl)⟩ rfl rfl (Nat.le_of_ble_eq_true rfl) ⟨(Nat.le_of_ble_eq_true rfl), (Nat.le_of_ble_eq_true rfl)⟩ rfl rfl md_M_digest_124 (fun s21 => ?_)
      refine sp_ldc2 (pc := 127) hX (31 : Int64) mq_1166 md_M_digest_127 ?_
      refine sp_lload_n (pc := 130) (k := 1) (i := 1) hX rfl 1 rfl md_M_digest_130 ?_
      refine sp_lmul (pc := 131) hX md_M_digest_131 ?_
      refine sp_aload_n (pc := 132) (k := 0) (i := 0) hX rfl 0 rfl md_M_digest_132 ?_
      refine sp_iload_n (pc := 133) (k := 3) (i := 3) hX rfl 2 rfl md_M_digest_133 ?_
      refine sp_callVI (pc := 134) (y := my_M_orderOf) (ccy := prog_14_method_46_code) (nLy := 3) (ret := (some .int)) (rmy := mr_M_orderOf) (n := 1) (idx := 177) (As := [.int (iI x3)]) (st := [.long ((31 : Int64) * x1)]) (o := x0) (cells' := 0) (slots' := 0) hX (fun _ h => mc_M_orderOf h) mk_M_orderOf mv_M_orderOf mcl_10 (fun _ h => pw_gd_of h) mq_1050 ⟨(Nat.le_of_ble_eq_true rfl), (Nat.le_of_ble_eq_true rfl)⟩ rfl rfl (Nat.le_of_ble_eq_true rfl) ⟨(Nat.le_of_ble_eq_true rfl), (Nat.le_of_ble_eq_true rfl)⟩ rfl rfl md_M_digest_134 (fun v23 s22 => ?_)
      refine sp_i2l (pc := 137) hX md_M_digest_137 ?_
      refine sp_ladd (pc := 138) hX md_M_digest_138 ?_
      refine sp_lstore_n (pc := 139) (k := 1) (i := 1) (L' := [(1, Value.long (((31 : Int64) * x1) + (Int32.toInt64 (iI v23)))), (0, Value.ref x0), (3, Value.int (iI x3)), (4, Value.int (iI x4))]) hX rfl (by decide) rfl md_M_digest_139 ?_
      refine sp_ldc2 (pc := 140) hX (31 : Int64) mq_1166 md_M_digest_140 ?_
      refine sp_lload_n (pc := 143) (k := 1) (i := 1) hX rfl 0 rfl md_M_digest_143 ?_
      refine sp_lmul (pc := 144) hX md_M_digest_144 ?_
      refine sp_aload_n (pc := 145) (k := 0) (i := 0) hX rfl 1 rfl md_M_digest_145 ?_
      refine sp_aload_n (pc := 146) (k := 0) (i := 0) hX rfl 1 rfl md_M_digest_146 ?_
      refine sp_getR (pc := 147) (ci := 10) (k := 13) (idx := 40) hX mcl_10 (by decide) mq_812 rfl md_M_digest_147 (fun v24 => ?_)
      refine sp_callVI (pc := 150) (y := my_M_degreeOrNone) (ccy := prog_14_method_48_code) (nLy := 3) (ret := (some .int)) (rmy := mr_M_degreeOrNone) (n := 1) (idx := 186) (As := [.ref v24]) (st := [.long ((31 : Int64) * (((31 : Int64) * x1) + (Int32.toInt64 (iI v23))))]) (o := x0) (cells' := 0) (slots' := 0) hX (fun _ h => mc_M_degreeOrNone h) mk_M_degreeOrNone mv_M_degreeOrNone mcl_10 (fun _ h => pw_gd_of h) mq_1030 ⟨(Nat.le_of_ble_eq_true rfl), (Nat.le_of_ble_eq_true rfl)⟩ rfl rfl (Nat.le_of_ble_eq_true rfl) ⟨(Nat.le_of_ble_eq_true rfl), (Nat.le_of_ble_eq_true rfl)⟩ rfl rfl md_M_digest_150 (fun v26 s25 => ?_)
      refine sp_i2l (pc := 153) hX md_M_digest_153 ?_
      refine sp_ladd (pc := 154) hX md_M_digest_154 ?_
      refine sp_lstore_n (pc := 155) (k := 1) (i := 1) (L' := [(1, Value.long (((31 : Int64) * (((31 : Int64) * x1) + (Int32.toInt64 (iI v23)))) + (Int32.toInt64 (iI v26)))), (0, Value.ref x0), (3, Value.int (iI x3)), (4, Value.int (iI x4))]) hX rfl (by decide) rfl md_M_digest_155 ?_
      refine sp_iinc (pc := 156) (i := 4) (L' := [(4, Value.int (iI (x4 + 1))), (1, Value.long (((31 : Int64) * (((31 : Int64) * x1) + (Int32.toInt64 (iI v23)))) + (Int32.toInt64 (iI v26)))), (0, Value.ref x0), (3, Value.int (iI x3))]) hX 3 rfl (by decide) rfl md_M_digest_156 ?_
      refine sp_goto (pc := 159) hX 108 (by decide) md_M_digest_159 ?_
      refine sp_sub [2, 1, 3, 0] (L' := [(0, Value.ref x0), (1, Value.long (((31 : Int64) * (((31 : Int64) * x1) + (Int32.toInt64 (iI v23)))) + (Int32.toInt64 (iI v26)))), (3, Value.int (iI x3)), (4, Value.int (iI (x4 + 1)))]) rfl ?_
      exact ih x0 (((31 : Int64) * (((31 : Int64) * x1) + (Int32.toInt64 (iI v23)))) + (Int32.toInt64 (iI v26))) x3 (x4 + 1) s25
set_option maxHeartbeats 4000000 in
set_option maxRecDepth 20000 in
theorem sl_M_digest_77 {X : pw_X Int64} (hX : pw_Ok X prog_14_method_79_code "PadeWorkbenchModel" mr_M_digest 5) (hR : pw_RL X prog_14_method_79_code) {r69 : Nat → Int64 → Int → pw_Sto → Option (Int64 × pw_Sto)} (h69 : ∀ (z0 : Nat) (z1 : Int64) (z2 : Int) (σ : pw_Sto), pw_Sp X 0 0 69 [(0, Value.ref z0), (1, Value.long z1), (3, Value.int (iI z2))] [] σ (r69 z0 z1 z2 σ)) : ∀ (n : Nat) (x0 : Nat) (x1 : Int64) (x3 : Int) (x4 : Int) (σ : pw_Sto), pw_Sp X 0 0 77 [(0, Value.ref x0), (1, Value.long x1), (3, Value.int (iI x3)), (4, Value.int (iI x4))] [] σ (ml_M_digest_77 r69 n x0 x1 x3 x4 σ) := by
  intro n
  induction n with
  | zero => intros; exact pw_none
  | succ n ih =>
    intro x0 x1 x3 x4 σ
    show pw_Sp X 0 0 77 _ _ σ (mb_M_digest_77 r69 (ml_M_digest_77 r69 n) x0 x1 x3 x4 σ)
    unfold mb_M_digest_77
    refine sp_iload (pc := 77) (i := 4) hX 3 rfl md_M_digest_77 ?_
    refine sp_bipush (pc := 79) hX (by decide) md_M_digest_79 ?_
    refine sp_icmp_ge (pc := 81) hX 105 (by decide) md_M_digest_81 (fun _ => ?_) (fun _ => ?_)
    · refine sp_iconst (pc := 105) hX md_M_digest_105 ?_
      refine sp_istore (pc := 106) (i := 4) (L' := [(4, Value.int (iI (0 : Int))), (0, Value.ref x0), (1, Value.long x1), (3, Value.int (iI x3))]) hX (by decide) rfl md_M_digest_106 ?_
      refine sp_sub [1, 2, 3, 0] (L' := [(0, Value.ref x0), (1, Value.long x1), (3, Value.int (iI x3)), (4, Value.int (iI (0 : Int)))]) rfl ?_
      exact sl_M_digest_108 hX hR h69 1000 x0 x1 x3 (0 : Int) σ
    · refine sp_ldc2 (pc := 84) hX (31 : Int64) mq_1166 md_M_digest_84 ?_
      refine sp_lload_n (pc := 87) (k := 1) (i := 1) hX rfl 1 rfl md_M_digest_87 ?_
      refine sp_lmul (pc := 88) hX md_M_digest_88 ?_
      refine sp_aload_n (pc := 89) (k := 0) (i := 0) hX rfl 0 rfl md_M_digest_89 ?_
      refine sp_iload_n (pc := 90) (k := 3) (i := 3) hX rfl 2 rfl md_M_digest_90 ?_
      refine sp_iload (pc := 91) (i := 4) hX 3 rfl md_M_digest_91 ?_
      refine sp_callVI (pc := 93) (y := my_M_term) (ccy := prog_14_method_9_code) (nLy := 3) (ret := (some .int)) (rmy := mr_M_term) (n := 2) (idx := 87) (As := [.int (iI x3), .int (iI x4)]) (st := [.long ((31 : Int64) * x1)]) (o := x0) (cells' := 0) (slots' := 0) hX (fun _ h => mc_M_term h) mk_M_term mv_M_term mcl_10 (fun _ h => pw_gd_of h) mq_889 ⟨(Nat.le_of_ble_eq_true rfl), (Nat.le_of_ble_eq_true rfl)⟩ rfl rfl (Nat.le_of_ble_eq_true rfl) ⟨(Nat.le_of_ble_eq_true rfl), (Nat.le_of_ble_eq_true rfl)⟩ rfl rfl md_M_digest_93 (fun v28 s27 => ?_)
      refine sp_i2l (pc := 96) hX md_M_digest_96 ?_
      refine sp_ladd (pc := 97) hX md_M_digest_97 ?_
      refine sp_lstore_n (pc := 98) (k := 1) (i := 1) (L' := [(1, Value.long (((31 : Int64) * x1) + (Int32.toInt64 (iI v28)))), (0, Value.ref x0), (3, Value.int (iI x3)), (4, Value.int (iI x4))]) hX rfl (by decide) rfl md_M_digest_98 ?_
      refine sp_iinc (pc := 99) (i := 4) (L' := [(4, Value.int (iI (x4 + 1))), (1, Value.long (((31 : Int64) * x1) + (Int32.toInt64 (iI v28)))), (0, Value.ref x0), (3, Value.int (iI x3))]) hX 3 rfl (by decide) rfl md_M_digest_99 ?_
      refine sp_goto (pc := 102) hX 77 (by decide) md_M_digest_102 ?_
      refine sp_sub [2, 1, 3, 0] (L' := [(0, Value.ref x0), (1, Value.long (((31 : Int64) * x1) + (Int32.toInt64 (iI v28)))), (3, Value.int (iI x3)), (4, Value.int (iI (x4 + 1)))]) rfl ?_
      exact ih x0 (((31 : Int64) * x1) + (Int32.toInt64 (iI v28))) x3 (x4 + 1) s27
set_option maxHeartbeats 4000000 in
set_option maxRecDepth 20000 in
theorem sl_M_digest_69 {X : pw_X Int64} (hX : pw_Ok X prog_14_method_79_code "PadeWorkbenchModel" mr_M_digest 5) (hR : pw_RL X prog_14_method_79_code) : ∀ (n : Nat) (x0 : Nat) (x1 : Int64) (x3 : Int) (σ : pw_Sto), pw_Sp X 0 0 69 [(0, Value.ref x0), (1, Value.long x1), (3, Value.int (iI x3))] [] σ (ml_M_digest_69 n x0 x1 x3 σ) := by
  intro n
  induction n with
  | zero => intros; exact pw_none
  | succ n ih =>
    intro x0 x1 x3 σ
    show pw_Sp X 0 0 69 _ _ σ (mb_M_digest_69 (ml_M_digest_69 n) x0 x1 x3 σ)
    unfold mb_M_digest_69
    refine sp_iload_n (pc := 69) (k := 3) (i := 3) hX rfl 2 rfl md_M_digest_69 ?_
    refine sp_iconst (pc := 70) hX md_M_digest_70 ?_
    refine sp_icmp_ge (pc := 71) hX 198 (by decide) md_M_digest_71 (fun _ => ?_) (fun _ => ?_)
    · refine sp_ldc2 (pc := 198) hX (31 : Int64) mq_1166 md_M_digest_198 ?_
      refine sp_lload_n (pc := 201) (k := 1) (i := 1) hX rfl 1 rfl md_M_digest_201 ?_
      refine sp_lmul (pc := 202) hX md_M_digest_202 ?_
      refine sp_aload_n (pc := 203) (k := 0) (i := 0) hX rfl 0 rfl md_M_digest_203 ?_
      refine sp_callVI (pc := 204) (y := my_M_points) (ccy := prog_14_method_70_code) (nLy := 1) (ret := (some .int)) (rmy := mr_M_points) (n := 0) (idx := 219) (As := []) (st := [.long ((31 : Int64) * x1)]) (o := x0) (cells' := 0) (slots' := 0) hX (fun _ h => mc_M_points h) mk_M_points mv_M_points mcl_10 (fun _ h => pw_gd_of h) mq_1129 ⟨(Nat.le_of_ble_eq_true rfl), (Nat.le_of_ble_eq_true rfl)⟩ rfl rfl (Nat.le_of_ble_eq_true rfl) ⟨(Nat.le_of_ble_eq_true rfl), (Nat.le_of_ble_eq_true rfl)⟩ rfl rfl md_M_digest_204 (fun v6 s5 => ?_)
      refine sp_i2l (pc := 207) hX md_M_digest_207 ?_
      refine sp_ladd (pc := 208) hX md_M_digest_208 ?_
      refine sp_lstore_n (pc := 209) (k := 1) (i := 1) (L' := [(1, Value.long (((31 : Int64) * x1) + (Int32.toInt64 (iI v6)))), (0, Value.ref x0), (3, Value.int (iI x3))]) hX rfl (by decide) rfl md_M_digest_209 ?_
      refine sp_iconst (pc := 210) hX md_M_digest_210 ?_
      refine sp_istore_n (pc := 211) (k := 3) (i := 3) (L' := [(3, Value.int (iI (0 : Int))), (1, Value.long (((31 : Int64) * x1) + (Int32.toInt64 (iI v6)))), (0, Value.ref x0)]) hX rfl (by decide) rfl md_M_digest_211 ?_
      refine sp_sub [2, 1, 0] (L' := [(0, Value.ref x0), (1, Value.long (((31 : Int64) * x1) + (Int32.toInt64 (iI v6)))), (3, Value.int (iI (0 : Int)))]) rfl ?_
      exact sl_M_digest_212 hX hR 1000 x0 (((31 : Int64) * x1) + (Int32.toInt64 (iI v6))) (0 : Int) s5
    · refine sp_iconst (pc := 74) hX md_M_digest_74 ?_
      refine sp_istore (pc := 75) (i := 4) (L' := [(4, Value.int (iI (0 : Int))), (0, Value.ref x0), (1, Value.long x1), (3, Value.int (iI x3))]) hX (by decide) rfl md_M_digest_75 ?_
      refine sp_sub [1, 2, 3, 0] (L' := [(0, Value.ref x0), (1, Value.long x1), (3, Value.int (iI x3)), (4, Value.int (iI (0 : Int)))]) rfl ?_
      exact sl_M_digest_77 hX hR ih 1000 x0 x1 x3 (0 : Int) σ
set_option maxHeartbeats 4000000 in
set_option maxRecDepth 20000 in
theorem sl_M_digest_6 {X : pw_X Int64} (hX : pw_Ok X prog_14_method_79_code "PadeWorkbenchModel" mr_M_digest 5) (hR : pw_RL X prog_14_method_79_code) : ∀ (n : Nat) (x0 : Nat) (x1 : Int64) (x3 : Int) (σ : pw_Sto), pw_Sp X 0 0 6 [(0, Value.ref x0), (1, Value.long x1), (3, Value.int (iI x3))] [] σ (ml_M_digest_6 n x0 x1 x3 σ) := by
  intro n
  induction n with
  | zero => intros; exact pw_none
  | succ n ih =>
    intro x0 x1 x3 σ
    show pw_Sp X 0 0 6 _ _ σ (mb_M_digest_6 (ml_M_digest_6 n) x0 x1 x3 σ)
    unfold mb_M_digest_6
    refine sp_iload_n (pc := 6) (k := 3) (i := 3) hX rfl 2 rfl md_M_digest_6 ?_
    refine sp_iconst (pc := 7) hX md_M_digest_7 ?_
    refine sp_icmp_ge (pc := 8) hX 31 (by decide) md_M_digest_8 (fun _ => ?_) (fun _ => ?_)
    · refine sp_ldc2 (pc := 31) hX (31 : Int64) mq_1166 md_M_digest_31 ?_
      refine sp_lload_n (pc := 34) (k := 1) (i := 1) hX rfl 1 rfl md_M_digest_34 ?_
      refine sp_lmul (pc := 35) hX md_M_digest_35 ?_
      refine sp_aload_n (pc := 36) (k := 0) (i := 0) hX rfl 0 rfl md_M_digest_36 ?_
      refine sp_getI (pc := 37) (ci := 10) (k := 5) (idx := 114) hX mcl_10 (by decide) mq_804 rfl md_M_digest_37 (fun v1 => ?_)
      refine sp_i2l (pc := 40) hX md_M_digest_40 ?_
      refine sp_ladd (pc := 41) hX md_M_digest_41 ?_
      refine sp_lstore_n (pc := 42) (k := 1) (i := 1) (L' := [(1, Value.long (((31 : Int64) * x1) + (Int32.toInt64 (iI v1)))), (0, Value.ref x0), (3, Value.int (iI x3))]) hX rfl (by decide) rfl md_M_digest_42 ?_
      refine sp_ldc2 (pc := 43) hX (31 : Int64) mq_1166 md_M_digest_43 ?_
      refine sp_lload_n (pc := 46) (k := 1) (i := 1) hX rfl 0 rfl md_M_digest_46 ?_
      refine sp_lmul (pc := 47) hX md_M_digest_47 ?_
      refine sp_aload_n (pc := 48) (k := 0) (i := 0) hX rfl 1 rfl md_M_digest_48 ?_
      refine sp_getI (pc := 49) (ci := 10) (k := 2) (idx := 69) hX mcl_10 (by decide) mq_801 rfl md_M_digest_49 (fun v2 => ?_)
      refine sp_i2l (pc := 52) hX md_M_digest_52 ?_
      refine sp_ladd (pc := 53) hX md_M_digest_53 ?_
      refine sp_lstore_n (pc := 54) (k := 1) (i := 1) (L' := [(1, Value.long (((31 : Int64) * (((31 : Int64) * x1) + (Int32.toInt64 (iI v1)))) + (Int32.toInt64 (iI v2)))), (0, Value.ref x0), (3, Value.int (iI x3))]) hX rfl (by decide) rfl md_M_digest_54 ?_
      refine sp_ldc2 (pc := 55) hX (31 : Int64) mq_1166 md_M_digest_55 ?_
      refine sp_lload_n (pc := 58) (k := 1) (i := 1) hX rfl 0 rfl md_M_digest_58 ?_
      refine sp_lmul (pc := 59) hX md_M_digest_59 ?_
      refine sp_aload_n (pc := 60) (k := 0) (i := 0) hX rfl 1 rfl md_M_digest_60 ?_
      refine sp_callVI (pc := 61) (y := my_M_prime) (ccy := prog_14_method_4_code) (nLy := 1) (ret := (some .int)) (rmy := mr_M_prime) (n := 0) (idx := 61) (As := []) (st := [.long ((31 : Int64) * (((31 : Int64) * (((31 : Int64) * x1) + (Int32.toInt64 (iI v1)))) + (Int32.toInt64 (iI v2))))]) (o := x0) (cells' := 0) (slots' := 0) hX (fun _ h => mc_M_prime h) mk_M_prime mv_M_prime mcl_10 (fun _ h => pw_gd_of h) mq_878 ⟨(Nat.le_of_ble_eq_true rfl), (Nat.le_of_ble_eq_true rfl)⟩ rfl rfl (Nat.le_of_ble_eq_true rfl) ⟨(Nat.le_of_ble_eq_true rfl), (Nat.le_of_ble_eq_true rfl)⟩ rfl rfl md_M_digest_61 (fun v4 s3 => ?_)
      refine sp_i2l (pc := 64) hX md_M_digest_64 ?_
      refine sp_ladd (pc := 65) hX md_M_digest_65 ?_
      refine sp_lstore_n (pc := 66) (k := 1) (i := 1) (L' := [(1, Value.long (((31 : Int64) * (((31 : Int64) * (((31 : Int64) * x1) + (Int32.toInt64 (iI v1)))) + (Int32.toInt64 (iI v2)))) + (Int32.toInt64 (iI v4)))), (0, Value.ref x0), (3, Value.int (iI x3))]) hX rfl (by decide) rfl md_M_digest_66 ?_
      refine sp_iconst (pc := 67) hX md_M_digest_67 ?_
      refine sp_istore_n (pc := 68) (k := 3) (i := 3) (L' := [(3, Value.int (iI (0 : Int))), (1, Value.long (((31 : Int64) * (((31 : Int64) * (((31 : Int64) * x1) + (Int32.toInt64 (iI v1)))) + (Int32.toInt64 (iI v2)))) + (Int32.toInt64 (iI v4)))), (0, Value.ref x0)]) hX rfl (by decide) rfl md_M_digest_68 ?_
      refine sp_sub [2, 1, 0] (L' := [(0, Value.ref x0), (1, Value.long (((31 : Int64) * (((31 : Int64) * (((31 : Int64) * x1) + (Int32.toInt64 (iI v1)))) + (Int32.toInt64 (iI v2)))) + (Int32.toInt64 (iI v4)))), (3, Value.int (iI (0 : Int)))]) rfl ?_
      exact sl_M_digest_69 hX hR 1000 x0 (((31 : Int64) * (((31 : Int64) * (((31 : Int64) * x1) + (Int32.toInt64 (iI v1)))) + (Int32.toInt64 (iI v2)))) + (Int32.toInt64 (iI v4))) (0 : Int) s3
    · refine sp_ldc2 (pc := 11) hX (31 : Int64) mq_1166 md_M_digest_11 ?_
      refine sp_lload_n (pc := 14) (k := 1) (i := 1) hX rfl 1 rfl md_M_digest_14 ?_
      refine sp_lmul (pc := 15) hX md_M_digest_15 ?_
      refine sp_aload_n (pc := 16) (k := 0) (i := 0) hX rfl 0 rfl md_M_digest_16 ?_
      refine sp_getR (pc := 17) (ci := 10) (k := 3) (idx := 16) hX mcl_10 (by decide) mq_802 rfl md_M_digest_17 (fun v29 => ?_)
      refine sp_iload_n (pc := 20) (k := 3) (i := 3) hX rfl 2 rfl md_M_digest_20 ?_
      refine sp_iaload (pc := 21) hX md_M_digest_21 (fun v30 => ?_)
      refine sp_i2l (pc := 22) hX md_M_digest_22 ?_
      refine sp_ladd (pc := 23) hX md_M_digest_23 ?_
      refine sp_lstore_n (pc := 24) (k := 1) (i := 1) (L' := [(1, Value.long (((31 : Int64) * x1) + (Int32.toInt64 (iI v30)))), (0, Value.ref x0), (3, Value.int (iI x3))]) hX rfl (by decide) rfl md_M_digest_24 ?_
      refine sp_iinc (pc := 25) (i := 3) (L' := [(3, Value.int (iI (x3 + 1))), (1, Value.long (((31 : Int64) * x1) + (Int32.toInt64 (iI v30)))), (0, Value.ref x0)]) hX 2 rfl (by decide) rfl md_M_digest_25 ?_
      refine sp_goto (pc := 28) hX 6 (by decide) md_M_digest_28 ?_
      refine sp_sub [2, 1, 0] (L' := [(0, Value.ref x0), (1, Value.long (((31 : Int64) * x1) + (Int32.toInt64 (iI v30)))), (3, Value.int (iI (x3 + 1)))]) rfl ?_
      exact ih x0 (((31 : Int64) * x1) + (Int32.toInt64 (iI v30))) (x3 + 1) σ
set_option maxHeartbeats 4000000 in
set_option maxRecDepth 20000 in
theorem mc_M_digest {l : Launch} {E : pw_E} {σ : pw_Sto} {x0 : Nat} {out : Int64 × pw_Sto} (h : mf_M_digest x0 σ = some out) : pw_CL l E my_M_digest prog_14_method_79_code 5 (some .long) mr_M_digest [.ref x0] σ out := by
  unfold mf_M_digest at h
  refine pw_entryL (by decide) (Nat.le_of_ble_eq_true rfl) (pw_gd_val h) (fun X hX hR hI => ?_)
  change pw_Ok X prog_14_method_79_code "PadeWorkbenchModel" mr_M_digest 5 at hX
  show pw_Sp X 0 0 0 [(0, Value.ref x0)] [] σ _
  refine sp_ldc2 (pc := 0) hX (12475 : Int64) mq_1165 md_M_digest_0 ?_
  refine sp_lstore_n (pc := 3) (k := 1) (i := 1) (L' := [(1, Value.long (12475 : Int64)), (0, Value.ref x0)]) hX rfl (by decide) rfl md_M_digest_3 ?_
  refine sp_iconst (pc := 4) hX md_M_digest_4 ?_
  refine sp_istore_n (pc := 5) (k := 3) (i := 3) (L' := [(3, Value.int (iI (0 : Int))), (1, Value.long (12475 : Int64)), (0, Value.ref x0)]) hX rfl (by decide) rfl md_M_digest_5 ?_
  refine sp_sub [2, 1, 0] (L' := [(0, Value.ref x0), (1, Value.long (12475 : Int64)), (3, Value.int (iI (0 : Int)))]) rfl ?_
  exact sl_M_digest_6 hX hR 1000 x0 (12475 : Int64) (0 : Int) σ
