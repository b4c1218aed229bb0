-- GearDeskModel.<init>()V
theorem gk_825 : Cond.methodLink R_Model 108 gy_Model_isPrime ∈ gt_T := gt_m6 (List.mem_of_getElem? (i := 47) rfl) rfl
theorem gk_826 : Cond.static gy_Model_isPrime ∈ gt_T := gt_m6 (List.mem_of_getElem? (i := 48) rfl) rfl
theorem gk_827 : Cond.methodLink R_Model 1 Lib.objectInit ∈ gt_T := gt_m6 (List.mem_of_getElem? (i := 44) rfl) rfl
theorem gk_828 : Cond.constant R_Model 7 37820 ∈ gt_T := gt_m6 (List.mem_of_getElem? (i := 45) rfl) rfl
theorem gk_829 : Cond.arrayClass .boolean ∈ gt_T := gt_m2 (List.mem_of_getElem? (i := 91) rfl) rfl
theorem gk_830 : Cond.constant R_Model 107 2147483647 ∈ gt_T := gt_m6 (List.mem_of_getElem? (i := 46) rfl) rfl
def gy_Model_init : MethodName := ⟨R_Model, "<init>", "()V"⟩
abbrev gb_Model_init : ByteArray := prog_11_method_1_code
theorem gk_831 : Cond.code gy_Model_init gb_Model_init 3 none ∈ gt_T := gt_m6 (List.mem_of_getElem? (i := 43) rfl) rfl
theorem gm_Model_init : gw_Mth gy_Model_init gb_Model_init 3 none 0 := ⟨gk_831, gk_377, ⟨by decide +kernel, by decide +kernel⟩, by decide +kernel⟩
theorem gd_Model_init_0 : decode gb_Model_init 0 = .ok (.aload_n 0, 1) := by decide +kernel
theorem gd_Model_init_1 : decode gb_Model_init 1 = .ok (.invokespecial 1, 3) := by decide +kernel
theorem gd_Model_init_4 : decode gb_Model_init 4 = .ok (.aload_n 0, 1) := by decide +kernel
theorem gd_Model_init_5 : decode gb_Model_init 5 = .ok (.ldc 7, 2) := by decide +kernel
theorem gd_Model_init_7 : decode gb_Model_init 7 = .ok (.newarray .int, 2) := by decide +kernel
theorem gd_Model_init_9 : decode gb_Model_init 9 = .ok (.putfield 8, 3) := by decide +kernel
theorem gd_Model_init_12 : decode gb_Model_init 12 = .ok (.aload_n 0, 1) := by decide +kernel
theorem gd_Model_init_13 : decode gb_Model_init 13 = .ok (.ldc 7, 2) := by decide +kernel
theorem gd_Model_init_15 : decode gb_Model_init 15 = .ok (.newarray .int, 2) := by decide +kernel
theorem gd_Model_init_17 : decode gb_Model_init 17 = .ok (.putfield 14, 3) := by decide +kernel
theorem gd_Model_init_20 : decode gb_Model_init 20 = .ok (.aload_n 0, 1) := by decide +kernel
theorem gd_Model_init_21 : decode gb_Model_init 21 = .ok (.ldc 7, 2) := by decide +kernel
theorem gd_Model_init_23 : decode gb_Model_init 23 = .ok (.newarray .int, 2) := by decide +kernel
theorem gd_Model_init_25 : decode gb_Model_init 25 = .ok (.putfield 17, 3) := by decide +kernel
theorem gd_Model_init_28 : decode gb_Model_init 28 = .ok (.aload_n 0, 1) := by decide +kernel
theorem gd_Model_init_29 : decode gb_Model_init 29 = .ok (.iconst (-1), 1) := by decide +kernel
theorem gd_Model_init_30 : decode gb_Model_init 30 = .ok (.putfield 20, 3) := by decide +kernel
theorem gd_Model_init_33 : decode gb_Model_init 33 = .ok (.aload_n 0, 1) := by decide +kernel
theorem gd_Model_init_34 : decode gb_Model_init 34 = .ok (.bipush 60, 2) := by decide +kernel
theorem gd_Model_init_36 : decode gb_Model_init 36 = .ok (.newarray .int, 2) := by decide +kernel
theorem gd_Model_init_38 : decode gb_Model_init 38 = .ok (.putfield 24, 3) := by decide +kernel
theorem gd_Model_init_41 : decode gb_Model_init 41 = .ok (.aload_n 0, 1) := by decide +kernel
theorem gd_Model_init_42 : decode gb_Model_init 42 = .ok (.bipush 120, 2) := by decide +kernel
theorem gd_Model_init_44 : decode gb_Model_init 44 = .ok (.newarray .int, 2) := by decide +kernel
theorem gd_Model_init_46 : decode gb_Model_init 46 = .ok (.putfield 27, 3) := by decide +kernel
theorem gd_Model_init_49 : decode gb_Model_init 49 = .ok (.aload_n 0, 1) := by decide +kernel
theorem gd_Model_init_50 : decode gb_Model_init 50 = .ok (.bipush 120, 2) := by decide +kernel
theorem gd_Model_init_52 : decode gb_Model_init 52 = .ok (.newarray .int, 2) := by decide +kernel
theorem gd_Model_init_54 : decode gb_Model_init 54 = .ok (.putfield 30, 3) := by decide +kernel
theorem gd_Model_init_57 : decode gb_Model_init 57 = .ok (.aload_n 0, 1) := by decide +kernel
theorem gd_Model_init_58 : decode gb_Model_init 58 = .ok (.bipush 120, 2) := by decide +kernel
theorem gd_Model_init_60 : decode gb_Model_init 60 = .ok (.newarray .int, 2) := by decide +kernel
theorem gd_Model_init_62 : decode gb_Model_init 62 = .ok (.putfield 33, 3) := by decide +kernel
theorem gd_Model_init_65 : decode gb_Model_init 65 = .ok (.aload_n 0, 1) := by decide +kernel
theorem gd_Model_init_66 : decode gb_Model_init 66 = .ok (.bipush 120, 2) := by decide +kernel
theorem gd_Model_init_68 : decode gb_Model_init 68 = .ok (.newarray .int, 2) := by decide +kernel
theorem gd_Model_init_70 : decode gb_Model_init 70 = .ok (.putfield 36, 3) := by decide +kernel
theorem gd_Model_init_73 : decode gb_Model_init 73 = .ok (.aload_n 0, 1) := by decide +kernel
theorem gd_Model_init_74 : decode gb_Model_init 74 = .ok (.bipush 12, 2) := by decide +kernel
theorem gd_Model_init_76 : decode gb_Model_init 76 = .ok (.newarray .int, 2) := by decide +kernel
theorem gd_Model_init_78 : decode gb_Model_init 78 = .ok (.dup, 1) := by decide +kernel
theorem gd_Model_init_79 : decode gb_Model_init 79 = .ok (.iconst 0, 1) := by decide +kernel
theorem gd_Model_init_80 : decode gb_Model_init 80 = .ok (.iconst (-1), 1) := by decide +kernel
theorem gd_Model_init_81 : decode gb_Model_init 81 = .ok (.iastore, 1) := by decide +kernel
theorem gd_Model_init_82 : decode gb_Model_init 82 = .ok (.dup, 1) := by decide +kernel
theorem gd_Model_init_83 : decode gb_Model_init 83 = .ok (.iconst 1, 1) := by decide +kernel
theorem gd_Model_init_84 : decode gb_Model_init 84 = .ok (.iconst (-1), 1) := by decide +kernel
theorem gd_Model_init_85 : decode gb_Model_init 85 = .ok (.iastore, 1) := by decide +kernel
theorem gd_Model_init_86 : decode gb_Model_init 86 = .ok (.dup, 1) := by decide +kernel
theorem gd_Model_init_87 : decode gb_Model_init 87 = .ok (.iconst 2, 1) := by decide +kernel
theorem gd_Model_init_88 : decode gb_Model_init 88 = .ok (.iconst (-1), 1) := by decide +kernel
theorem gd_Model_init_89 : decode gb_Model_init 89 = .ok (.iastore, 1) := by decide +kernel
theorem gd_Model_init_90 : decode gb_Model_init 90 = .ok (.dup, 1) := by decide +kernel
theorem gd_Model_init_91 : decode gb_Model_init 91 = .ok (.iconst 3, 1) := by decide +kernel
theorem gd_Model_init_92 : decode gb_Model_init 92 = .ok (.iconst (-1), 1) := by decide +kernel
theorem gd_Model_init_93 : decode gb_Model_init 93 = .ok (.iastore, 1) := by decide +kernel
theorem gd_Model_init_94 : decode gb_Model_init 94 = .ok (.dup, 1) := by decide +kernel
theorem gd_Model_init_95 : decode gb_Model_init 95 = .ok (.iconst 4, 1) := by decide +kernel
theorem gd_Model_init_96 : decode gb_Model_init 96 = .ok (.iconst (-1), 1) := by decide +kernel
theorem gd_Model_init_97 : decode gb_Model_init 97 = .ok (.iastore, 1) := by decide +kernel
theorem gd_Model_init_98 : decode gb_Model_init 98 = .ok (.dup, 1) := by decide +kernel
theorem gd_Model_init_99 : decode gb_Model_init 99 = .ok (.iconst 5, 1) := by decide +kernel
theorem gd_Model_init_100 : decode gb_Model_init 100 = .ok (.iconst (-1), 1) := by decide +kernel
theorem gd_Model_init_101 : decode gb_Model_init 101 = .ok (.iastore, 1) := by decide +kernel
theorem gd_Model_init_102 : decode gb_Model_init 102 = .ok (.dup, 1) := by decide +kernel
theorem gd_Model_init_103 : decode gb_Model_init 103 = .ok (.bipush 6, 2) := by decide +kernel
theorem gd_Model_init_105 : decode gb_Model_init 105 = .ok (.iconst (-1), 1) := by decide +kernel
theorem gd_Model_init_106 : decode gb_Model_init 106 = .ok (.iastore, 1) := by decide +kernel
theorem gd_Model_init_107 : decode gb_Model_init 107 = .ok (.dup, 1) := by decide +kernel
theorem gd_Model_init_108 : decode gb_Model_init 108 = .ok (.bipush 7, 2) := by decide +kernel
theorem gd_Model_init_110 : decode gb_Model_init 110 = .ok (.iconst (-1), 1) := by decide +kernel
theorem gd_Model_init_111 : decode gb_Model_init 111 = .ok (.iastore, 1) := by decide +kernel
theorem gd_Model_init_112 : decode gb_Model_init 112 = .ok (.dup, 1) := by decide +kernel
theorem gd_Model_init_113 : decode gb_Model_init 113 = .ok (.bipush 8, 2) := by decide +kernel
theorem gd_Model_init_115 : decode gb_Model_init 115 = .ok (.iconst (-1), 1) := by decide +kernel
theorem gd_Model_init_116 : decode gb_Model_init 116 = .ok (.iastore, 1) := by decide +kernel
theorem gd_Model_init_117 : decode gb_Model_init 117 = .ok (.dup, 1) := by decide +kernel
theorem gd_Model_init_118 : decode gb_Model_init 118 = .ok (.bipush 9, 2) := by decide +kernel
theorem gd_Model_init_120 : decode gb_Model_init 120 = .ok (.iconst (-1), 1) := by decide +kernel
theorem gd_Model_init_121 : decode gb_Model_init 121 = .ok (.iastore, 1) := by decide +kernel
theorem gd_Model_init_122 : decode gb_Model_init 122 = .ok (.dup, 1) := by decide +kernel
theorem gd_Model_init_123 : decode gb_Model_init 123 = .ok (.bipush 10, 2) := by decide +kernel
theorem gd_Model_init_125 : decode gb_Model_init 125 = .ok (.iconst (-1), 1) := by decide +kernel
theorem gd_Model_init_126 : decode gb_Model_init 126 = .ok (.iastore, 1) := by decide +kernel
theorem gd_Model_init_127 : decode gb_Model_init 127 = .ok (.dup, 1) := by decide +kernel
theorem gd_Model_init_128 : decode gb_Model_init 128 = .ok (.bipush 11, 2) := by decide +kernel
theorem gd_Model_init_130 : decode gb_Model_init 130 = .ok (.iconst (-1), 1) := by decide +kernel
theorem gd_Model_init_131 : decode gb_Model_init 131 = .ok (.iastore, 1) := by decide +kernel
theorem gd_Model_init_132 : decode gb_Model_init 132 = .ok (.putfield 39, 3) := by decide +kernel
theorem gd_Model_init_135 : decode gb_Model_init 135 = .ok (.aload_n 0, 1) := by decide +kernel
theorem gd_Model_init_136 : decode gb_Model_init 136 = .ok (.bipush 12, 2) := by decide +kernel
theorem gd_Model_init_138 : decode gb_Model_init 138 = .ok (.newarray .int, 2) := by decide +kernel
theorem gd_Model_init_140 : decode gb_Model_init 140 = .ok (.putfield 42, 3) := by decide +kernel
theorem gd_Model_init_143 : decode gb_Model_init 143 = .ok (.aload_n 0, 1) := by decide +kernel
theorem gd_Model_init_144 : decode gb_Model_init 144 = .ok (.bipush 60, 2) := by decide +kernel
theorem gd_Model_init_146 : decode gb_Model_init 146 = .ok (.newarray .boolean, 2) := by decide +kernel
theorem gd_Model_init_148 : decode gb_Model_init 148 = .ok (.putfield 45, 3) := by decide +kernel
theorem gd_Model_init_151 : decode gb_Model_init 151 = .ok (.aload_n 0, 1) := by decide +kernel
theorem gd_Model_init_152 : decode gb_Model_init 152 = .ok (.bipush 60, 2) := by decide +kernel
theorem gd_Model_init_154 : decode gb_Model_init 154 = .ok (.newarray .int, 2) := by decide +kernel
theorem gd_Model_init_156 : decode gb_Model_init 156 = .ok (.putfield 49, 3) := by decide +kernel
theorem gd_Model_init_159 : decode gb_Model_init 159 = .ok (.aload_n 0, 1) := by decide +kernel
theorem gd_Model_init_160 : decode gb_Model_init 160 = .ok (.sipush 960, 3) := by decide +kernel
theorem gd_Model_init_163 : decode gb_Model_init 163 = .ok (.newarray .int, 2) := by decide +kernel
theorem gd_Model_init_165 : decode gb_Model_init 165 = .ok (.putfield 52, 3) := by decide +kernel
theorem gd_Model_init_168 : decode gb_Model_init 168 = .ok (.aload_n 0, 1) := by decide +kernel
theorem gd_Model_init_169 : decode gb_Model_init 169 = .ok (.sipush 960, 3) := by decide +kernel
theorem gd_Model_init_172 : decode gb_Model_init 172 = .ok (.newarray .int, 2) := by decide +kernel
theorem gd_Model_init_174 : decode gb_Model_init 174 = .ok (.putfield 55, 3) := by decide +kernel
theorem gd_Model_init_177 : decode gb_Model_init 177 = .ok (.aload_n 0, 1) := by decide +kernel
theorem gd_Model_init_178 : decode gb_Model_init 178 = .ok (.bipush 60, 2) := by decide +kernel
theorem gd_Model_init_180 : decode gb_Model_init 180 = .ok (.newarray .boolean, 2) := by decide +kernel
theorem gd_Model_init_182 : decode gb_Model_init 182 = .ok (.putfield 58, 3) := by decide +kernel
theorem gd_Model_init_185 : decode gb_Model_init 185 = .ok (.aload_n 0, 1) := by decide +kernel
theorem gd_Model_init_186 : decode gb_Model_init 186 = .ok (.bipush 60, 2) := by decide +kernel
theorem gd_Model_init_188 : decode gb_Model_init 188 = .ok (.newarray .int, 2) := by decide +kernel
theorem gd_Model_init_190 : decode gb_Model_init 190 = .ok (.putfield 61, 3) := by decide +kernel
theorem gd_Model_init_193 : decode gb_Model_init 193 = .ok (.aload_n 0, 1) := by decide +kernel
theorem gd_Model_init_194 : decode gb_Model_init 194 = .ok (.sipush 960, 3) := by decide +kernel
theorem gd_Model_init_197 : decode gb_Model_init 197 = .ok (.newarray .int, 2) := by decide +kernel
theorem gd_Model_init_199 : decode gb_Model_init 199 = .ok (.putfield 64, 3) := by decide +kernel
theorem gd_Model_init_202 : decode gb_Model_init 202 = .ok (.aload_n 0, 1) := by decide +kernel
theorem gd_Model_init_203 : decode gb_Model_init 203 = .ok (.sipush 960, 3) := by decide +kernel
theorem gd_Model_init_206 : decode gb_Model_init 206 = .ok (.newarray .int, 2) := by decide +kernel
theorem gd_Model_init_208 : decode gb_Model_init 208 = .ok (.putfield 67, 3) := by decide +kernel
theorem gd_Model_init_211 : decode gb_Model_init 211 = .ok (.aload_n 0, 1) := by decide +kernel
theorem gd_Model_init_212 : decode gb_Model_init 212 = .ok (.bipush 16, 2) := by decide +kernel
theorem gd_Model_init_214 : decode gb_Model_init 214 = .ok (.newarray .int, 2) := by decide +kernel
theorem gd_Model_init_216 : decode gb_Model_init 216 = .ok (.putfield 70, 3) := by decide +kernel
theorem gd_Model_init_219 : decode gb_Model_init 219 = .ok (.aload_n 0, 1) := by decide +kernel
theorem gd_Model_init_220 : decode gb_Model_init 220 = .ok (.bipush 16, 2) := by decide +kernel
theorem gd_Model_init_222 : decode gb_Model_init 222 = .ok (.newarray .int, 2) := by decide +kernel
theorem gd_Model_init_224 : decode gb_Model_init 224 = .ok (.putfield 73, 3) := by decide +kernel
theorem gd_Model_init_227 : decode gb_Model_init 227 = .ok (.aload_n 0, 1) := by decide +kernel
theorem gd_Model_init_228 : decode gb_Model_init 228 = .ok (.bipush 70, 2) := by decide +kernel
theorem gd_Model_init_230 : decode gb_Model_init 230 = .ok (.newarray .int, 2) := by decide +kernel
theorem gd_Model_init_232 : decode gb_Model_init 232 = .ok (.putfield 76, 3) := by decide +kernel
theorem gd_Model_init_235 : decode gb_Model_init 235 = .ok (.aload_n 0, 1) := by decide +kernel
theorem gd_Model_init_236 : decode gb_Model_init 236 = .ok (.sipush 7381, 3) := by decide +kernel
theorem gd_Model_init_239 : decode gb_Model_init 239 = .ok (.newarray .long, 2) := by decide +kernel
theorem gd_Model_init_241 : decode gb_Model_init 241 = .ok (.putfield 79, 3) := by decide +kernel
theorem gd_Model_init_244 : decode gb_Model_init 244 = .ok (.aload_n 0, 1) := by decide +kernel
theorem gd_Model_init_245 : decode gb_Model_init 245 = .ok (.bipush 121, 2) := by decide +kernel
theorem gd_Model_init_247 : decode gb_Model_init 247 = .ok (.newarray .int, 2) := by decide +kernel
theorem gd_Model_init_249 : decode gb_Model_init 249 = .ok (.putfield 83, 3) := by decide +kernel
theorem gd_Model_init_252 : decode gb_Model_init 252 = .ok (.aload_n 0, 1) := by decide +kernel
theorem gd_Model_init_253 : decode gb_Model_init 253 = .ok (.bipush 61, 2) := by decide +kernel
theorem gd_Model_init_255 : decode gb_Model_init 255 = .ok (.newarray .long, 2) := by decide +kernel
theorem gd_Model_init_257 : decode gb_Model_init 257 = .ok (.putfield 86, 3) := by decide +kernel
theorem gd_Model_init_260 : decode gb_Model_init 260 = .ok (.aload_n 0, 1) := by decide +kernel
theorem gd_Model_init_261 : decode gb_Model_init 261 = .ok (.bipush 121, 2) := by decide +kernel
theorem gd_Model_init_263 : decode gb_Model_init 263 = .ok (.newarray .int, 2) := by decide +kernel
theorem gd_Model_init_265 : decode gb_Model_init 265 = .ok (.putfield 89, 3) := by decide +kernel
theorem gd_Model_init_268 : decode gb_Model_init 268 = .ok (.aload_n 0, 1) := by decide +kernel
theorem gd_Model_init_269 : decode gb_Model_init 269 = .ok (.bipush 121, 2) := by decide +kernel
theorem gd_Model_init_271 : decode gb_Model_init 271 = .ok (.newarray .int, 2) := by decide +kernel
theorem gd_Model_init_273 : decode gb_Model_init 273 = .ok (.putfield 92, 3) := by decide +kernel
theorem gd_Model_init_276 : decode gb_Model_init 276 = .ok (.aload_n 0, 1) := by decide +kernel
theorem gd_Model_init_277 : decode gb_Model_init 277 = .ok (.bipush 70, 2) := by decide +kernel
theorem gd_Model_init_279 : decode gb_Model_init 279 = .ok (.newarray .boolean, 2) := by decide +kernel
theorem gd_Model_init_281 : decode gb_Model_init 281 = .ok (.putfield 95, 3) := by decide +kernel
theorem gd_Model_init_284 : decode gb_Model_init 284 = .ok (.aload_n 0, 1) := by decide +kernel
theorem gd_Model_init_285 : decode gb_Model_init 285 = .ok (.bipush 60, 2) := by decide +kernel
theorem gd_Model_init_287 : decode gb_Model_init 287 = .ok (.newarray .boolean, 2) := by decide +kernel
theorem gd_Model_init_289 : decode gb_Model_init 289 = .ok (.putfield 98, 3) := by decide +kernel
theorem gd_Model_init_292 : decode gb_Model_init 292 = .ok (.aload_n 0, 1) := by decide +kernel
theorem gd_Model_init_293 : decode gb_Model_init 293 = .ok (.sipush 4200, 3) := by decide +kernel
theorem gd_Model_init_296 : decode gb_Model_init 296 = .ok (.newarray .long, 2) := by decide +kernel
theorem gd_Model_init_298 : decode gb_Model_init 298 = .ok (.putfield 101, 3) := by decide +kernel
theorem gd_Model_init_301 : decode gb_Model_init 301 = .ok (.aload_n 0, 1) := by decide +kernel
theorem gd_Model_init_302 : decode gb_Model_init 302 = .ok (.sipush 5120, 3) := by decide +kernel
theorem gd_Model_init_305 : decode gb_Model_init 305 = .ok (.newarray .long, 2) := by decide +kernel
theorem gd_Model_init_307 : decode gb_Model_init 307 = .ok (.putfield 104, 3) := by decide +kernel
theorem gd_Model_init_310 : decode gb_Model_init 310 = .ok (.aload_n 0, 1) := by decide +kernel
theorem gd_Model_init_311 : decode gb_Model_init 311 = .ok (.getfield 73, 3) := by decide +kernel
theorem gd_Model_init_314 : decode gb_Model_init 314 = .ok (.iconst 0, 1) := by decide +kernel
theorem gd_Model_init_315 : decode gb_Model_init 315 = .ok (.iconst 1, 1) := by decide +kernel
theorem gd_Model_init_316 : decode gb_Model_init 316 = .ok (.iastore, 1) := by decide +kernel
theorem gd_Model_init_317 : decode gb_Model_init 317 = .ok (.ldc 107, 2) := by decide +kernel
theorem gd_Model_init_319 : decode gb_Model_init 319 = .ok (.istore_n 1, 1) := by decide +kernel
theorem gd_Model_init_320 : decode gb_Model_init 320 = .ok (.iconst 0, 1) := by decide +kernel
theorem gd_Model_init_321 : decode gb_Model_init 321 = .ok (.istore_n 2, 1) := by decide +kernel
theorem gd_Model_init_322 : decode gb_Model_init 322 = .ok (.iload_n 2, 1) := by decide +kernel
theorem gd_Model_init_323 : decode gb_Model_init 323 = .ok (.bipush 70, 2) := by decide +kernel
theorem gd_Model_init_325 : decode gb_Model_init 325 = .ok (.if_icmp .ge 32, 3) := by decide +kernel
theorem gd_Model_init_328 : decode gb_Model_init 328 = .ok (.iload_n 1, 1) := by decide +kernel
theorem gd_Model_init_329 : decode gb_Model_init 329 = .ok (.invokestatic 108, 3) := by decide +kernel
theorem gd_Model_init_332 : decode gb_Model_init 332 = .ok (.ifCond .ne 9, 3) := by decide +kernel
theorem gd_Model_init_335 : decode gb_Model_init 335 = .ok (.iinc 1 (-2), 3) := by decide +kernel
theorem gd_Model_init_338 : decode gb_Model_init 338 = .ok (.goto (-10), 3) := by decide +kernel
theorem gd_Model_init_341 : decode gb_Model_init 341 = .ok (.aload_n 0, 1) := by decide +kernel
theorem gd_Model_init_342 : decode gb_Model_init 342 = .ok (.getfield 76, 3) := by decide +kernel
theorem gd_Model_init_345 : decode gb_Model_init 345 = .ok (.iload_n 2, 1) := by decide +kernel
theorem gd_Model_init_346 : decode gb_Model_init 346 = .ok (.iload_n 1, 1) := by decide +kernel
theorem gd_Model_init_347 : decode gb_Model_init 347 = .ok (.iastore, 1) := by decide +kernel
theorem gd_Model_init_348 : decode gb_Model_init 348 = .ok (.iinc 1 (-2), 3) := by decide +kernel
theorem gd_Model_init_351 : decode gb_Model_init 351 = .ok (.iinc 2 1, 3) := by decide +kernel
theorem gd_Model_init_354 : decode gb_Model_init 354 = .ok (.goto (-32), 3) := by decide +kernel
theorem gd_Model_init_357 : decode gb_Model_init 357 = .ok (.return_, 1) := by decide +kernel
def gf_Model_init_S328 (F : Nat) (z : gw_Sh) (rc_322 : gw_St → Nat → Int32 → Int32 → Option (gw_Sh × gw_St)) (rc_328 : gw_St → Nat → Int32 → Int32 → Option (gw_Sh × gw_St)) (u : gw_St) (t0 : Nat) (x1 : Int32) (x2 : Int32) : Option (gw_Sh × gw_St) :=
  gf_cl (gf_Model_isPrime F z u x1) fun a3 u1 => if a3 = 0 then (gf_nm (x1 + (-2)) fun a14 => rc_328 u1 t0 a14 x2) else (gf_nn (u1.2.2 t0 38) fun q5 => if (x2 < 0 ∨ z.2.2 q5 ≤ (x2).toNatClampNeg) then none else gf_nm (gw_wi u1 q5 (x2).toNatClampNeg x1) fun u8 => gf_nm (x1 + (-2)) fun a10 => gf_nm (x2 + 1) fun a12 => rc_322 u8 t0 a10 a12)
def gf_Model_init_L328 (F : Nat) (z : gw_Sh) (rc_322 : gw_St → Nat → Int32 → Int32 → Option (gw_Sh × gw_St)) : Nat → gw_St → Nat → Int32 → Int32 → Option (gw_Sh × gw_St)
  | 0 => fun _ _ _ _ => none
  | n + 1 => fun u t0 x1 x2 => gf_Model_init_S328 F z rc_322 (gf_Model_init_L328 F z rc_322 n) u t0 x1 x2
def gf_Model_init_S322 (F : Nat) (z : gw_Sh)  (rc_322 : gw_St → Nat → Int32 → Int32 → Option (gw_Sh × gw_St)) (u : gw_St) (t0 : Nat) (x1 : Int32) (x2 : Int32) : Option (gw_Sh × gw_St) :=
  if (70 : Int32) ≤ x2 then (some (z, u)) else (gf_Model_init_L328 F z rc_322 F u t0 x1 x2)
def gf_Model_init_L322 (F : Nat) (z : gw_Sh)  : Nat → gw_St → Nat → Int32 → Int32 → Option (gw_Sh × gw_St)
  | 0 => fun _ _ _ _ => none
  | n + 1 => fun u t0 x1 x2 => gf_Model_init_S322 F z  (gf_Model_init_L322 F z  n) u t0 x1 x2
def gf_Model_init_b0 (F : Nat) (z : gw_Sh)  (u : gw_St) (t0 : Nat) : Option (gw_Sh × gw_St) :=
  if ((37820 : Int32) < 0 ∨ 60000000 < ((37820 : Int32)).toNatClampNeg) then none else gf_nm (gw_nz z 10 ((37820 : Int32)).toNatClampNeg) fun z17 => gf_nm (gw_zr u z.1) fun u18 => gf_nm (gw_wr u18 t0 10 (z.1 + 1)) fun u23 => if ((37820 : Int32) < 0 ∨ 60000000 < ((37820 : Int32)).toNatClampNeg) then none else gf_nm (gw_nz z17 10 ((37820 : Int32)).toNatClampNeg) fun z25 => gf_nm (gw_zr u23 z17.1) fun u26 => gf_nm (gw_wr u26 t0 11 (z17.1 + 1)) fun u31 => if ((37820 : Int32) < 0 ∨ 60000000 < ((37820 : Int32)).toNatClampNeg) then none else gf_nm (gw_nz z25 10 ((37820 : Int32)).toNatClampNeg) fun z33 => gf_nm (gw_zr u31 z25.1) fun u34 => gf_nm (gw_wr u34 t0 12 (z25.1 + 1)) fun u39 => gf_nm (gw_wi u39 t0 20 (-1 : Int32)) fun u41 => if ((60 : Int32) < 0 ∨ 60000000 < ((60 : Int32)).toNatClampNeg) then none else gf_nm (gw_nz z33 10 ((60 : Int32)).toNatClampNeg) fun z43 => gf_nm (gw_zr u41 z33.1) fun u44 => gf_nm (gw_wr u44 t0 21 (z33.1 + 1)) fun u49 => if ((120 : Int32) < 0 ∨ 60000000 < ((120 : Int32)).toNatClampNeg) then none else gf_nm (gw_nz z43 10 ((120 : Int32)).toNatClampNeg) fun z51 => gf_nm (gw_zr u49 z43.1) fun u52 => gf_nm (gw_wr u52 t0 22 (z43.1 + 1)) fun u57 => if ((120 : Int32) < 0 ∨ 60000000 < ((120 : Int32)).toNatClampNeg) then none else gf_nm (gw_nz z51 10 ((120 : Int32)).toNatClampNeg) fun z59 => gf_nm (gw_zr u57 z51.1) fun u60 => gf_nm (gw_wr u60 t0 23 (z51.1 + 1)) fun u65 => if ((120 : Int32) < 0 ∨ 60000000 < ((120 : Int32)).toNatClampNeg) then none else gf_nm (gw_nz z59 10 ((120 : Int32)).toNatClampNeg) fun z67 => gf_nm (gw_zr u65 z59.1) fun u68 => gf_nm (gw_wr u68 t0 24 (z59.1 + 1)) fun u73 => if ((120 : Int32) < 0 ∨ 60000000 < ((120 : Int32)).toNatClampNeg) then none else gf_nm (gw_nz z67 10 ((120 : Int32)).toNatClampNeg) fun z75 => gf_nm (gw_zr u73 z67.1) fun u76 => gf_nm (gw_wr u76 t0 25 (z67.1 + 1)) fun u81 => if ((12 : Int32) < 0 ∨ 60000000 < ((12 : Int32)).toNatClampNeg) then none else gf_nm (gw_nz z75 10 ((12 : Int32)).toNatClampNeg) fun z83 => gf_nm (gw_zr u81 z75.1) fun u84 => if ((0 : Int32) < 0 ∨ z83.2.2 z75.1 ≤ ((0 : Int32)).toNatClampNeg) then none else gf_nm (gw_wi u84 z75.1 ((0 : Int32)).toNatClampNeg (-1 : Int32)) fun u90 => if ((1 : Int32) < 0 ∨ z83.2.2 z75.1 ≤ ((1 : Int32)).toNatClampNeg) then none else gf_nm (gw_wi u90 z75.1 ((1 : Int32)).toNatClampNeg (-1 : Int32)) fun u93 => if ((2 : Int32) < 0 ∨ z83.2.2 z75.1 ≤ ((2 : Int32)).toNatClampNeg) then none else gf_nm (gw_wi u93 z75.1 ((2 : Int32)).toNatClampNeg (-1 : Int32)) fun u96 => if ((3 : Int32) < 0 ∨ z83.2.2 z75.1 ≤ ((3 : Int32)).toNatClampNeg) then none else gf_nm (gw_wi u96 z75.1 ((3 : Int32)).toNatClampNeg (-1 : Int32)) fun u99 => if ((4 : Int32) < 0 ∨ z83.2.2 z75.1 ≤ ((4 : Int32)).toNatClampNeg) then none else gf_nm (gw_wi u99 z75.1 ((4 : Int32)).toNatClampNeg (-1 : Int32)) fun u102 => if ((5 : Int32) < 0 ∨ z83.2.2 z75.1 ≤ ((5 : Int32)).toNatClampNeg) then none else gf_nm (gw_wi u102 z75.1 ((5 : Int32)).toNatClampNeg (-1 : Int32)) fun u105 => if ((6 : Int32) < 0 ∨ z83.2.2 z75.1 ≤ ((6 : Int32)).toNatClampNeg) then none else gf_nm (gw_wi u105 z75.1 ((6 : Int32)).toNatClampNeg (-1 : Int32)) fun u108 => if ((7 : Int32) < 0 ∨ z83.2.2 z75.1 ≤ ((7 : Int32)).toNatClampNeg) then none else gf_nm (gw_wi u108 z75.1 ((7 : Int32)).toNatClampNeg (-1 : Int32)) fun u111 => if ((8 : Int32) < 0 ∨ z83.2.2 z75.1 ≤ ((8 : Int32)).toNatClampNeg) then none else gf_nm (gw_wi u111 z75.1 ((8 : Int32)).toNatClampNeg (-1 : Int32)) fun u114 => if ((9 : Int32) < 0 ∨ z83.2.2 z75.1 ≤ ((9 : Int32)).toNatClampNeg) then none else gf_nm (gw_wi u114 z75.1 ((9 : Int32)).toNatClampNeg (-1 : Int32)) fun u117 => if ((10 : Int32) < 0 ∨ z83.2.2 z75.1 ≤ ((10 : Int32)).toNatClampNeg) then none else gf_nm (gw_wi u117 z75.1 ((10 : Int32)).toNatClampNeg (-1 : Int32)) fun u120 => if ((11 : Int32) < 0 ∨ z83.2.2 z75.1 ≤ ((11 : Int32)).toNatClampNeg) then none else gf_nm (gw_wi u120 z75.1 ((11 : Int32)).toNatClampNeg (-1 : Int32)) fun u123 => gf_nm (gw_wr u123 t0 26 (z75.1 + 1)) fun u125 => if ((12 : Int32) < 0 ∨ 60000000 < ((12 : Int32)).toNatClampNeg) then none else gf_nm (gw_nz z83 10 ((12 : Int32)).toNatClampNeg) fun z127 => gf_nm (gw_zr u125 z83.1) fun u128 => gf_nm (gw_wr u128 t0 27 (z83.1 + 1)) fun u133 => if ((60 : Int32) < 0 ∨ 60000000 < ((60 : Int32)).toNatClampNeg) then none else gf_nm (gw_nz z127 12 ((60 : Int32)).toNatClampNeg) fun z135 => gf_nm (gw_zr u133 z127.1) fun u136 => gf_nm (gw_wr u136 t0 28 (z127.1 + 1)) fun u141 => if ((60 : Int32) < 0 ∨ 60000000 < ((60 : Int32)).toNatClampNeg) then none else gf_nm (gw_nz z135 10 ((60 : Int32)).toNatClampNeg) fun z143 => gf_nm (gw_zr u141 z135.1) fun u144 => gf_nm (gw_wr u144 t0 29 (z135.1 + 1)) fun u149 => if ((960 : Int32) < 0 ∨ 60000000 < ((960 : Int32)).toNatClampNeg) then none else gf_nm (gw_nz z143 10 ((960 : Int32)).toNatClampNeg) fun z151 => gf_nm (gw_zr u149 z143.1) fun u152 => gf_nm (gw_wr u152 t0 30 (z143.1 + 1)) fun u157 => if ((960 : Int32) < 0 ∨ 60000000 < ((960 : Int32)).toNatClampNeg) then none else gf_nm (gw_nz z151 10 ((960 : Int32)).toNatClampNeg) fun z159 => gf_nm (gw_zr u157 z151.1) fun u160 => gf_nm (gw_wr u160 t0 31 (z151.1 + 1)) fun u165 => if ((60 : Int32) < 0 ∨ 60000000 < ((60 : Int32)).toNatClampNeg) then none else gf_nm (gw_nz z159 12 ((60 : Int32)).toNatClampNeg) fun z167 => gf_nm (gw_zr u165 z159.1) fun u168 => gf_nm (gw_wr u168 t0 32 (z159.1 + 1)) fun u173 => if ((60 : Int32) < 0 ∨ 60000000 < ((60 : Int32)).toNatClampNeg) then none else gf_nm (gw_nz z167 10 ((60 : Int32)).toNatClampNeg) fun z175 => gf_nm (gw_zr u173 z167.1) fun u176 => gf_nm (gw_wr u176 t0 33 (z167.1 + 1)) fun u181 => if ((960 : Int32) < 0 ∨ 60000000 < ((960 : Int32)).toNatClampNeg) then none else gf_nm (gw_nz z175 10 ((960 : Int32)).toNatClampNeg) fun z183 => gf_nm (gw_zr u181 z175.1) fun u184 => gf_nm (gw_wr u184 t0 34 (z175.1 + 1)) fun u189 => if ((960 : Int32) < 0 ∨ 60000000 < ((960 : Int32)).toNatClampNeg) then none else gf_nm (gw_nz z183 10 ((960 : Int32)).toNatClampNeg) fun z191 => gf_nm (gw_zr u189 z183.1) fun u192 => gf_nm (gw_wr u192 t0 35 (z183.1 + 1)) fun u197 => if ((16 : Int32) < 0 ∨ 60000000 < ((16 : Int32)).toNatClampNeg) then none else gf_nm (gw_nz z191 10 ((16 : Int32)).toNatClampNeg) fun z199 => gf_nm (gw_zr u197 z191.1) fun u200 => gf_nm (gw_wr u200 t0 36 (z191.1 + 1)) fun u205 => if ((16 : Int32) < 0 ∨ 60000000 < ((16 : Int32)).toNatClampNeg) then none else gf_nm (gw_nz z199 10 ((16 : Int32)).toNatClampNeg) fun z207 => gf_nm (gw_zr u205 z199.1) fun u208 => gf_nm (gw_wr u208 t0 37 (z199.1 + 1)) fun u213 => if ((70 : Int32) < 0 ∨ 60000000 < ((70 : Int32)).toNatClampNeg) then none else gf_nm (gw_nz z207 10 ((70 : Int32)).toNatClampNeg) fun z215 => gf_nm (gw_zr u213 z207.1) fun u216 => gf_nm (gw_wr u216 t0 38 (z207.1 + 1)) fun u221 => if ((7381 : Int32) < 0 ∨ 60000000 < ((7381 : Int32)).toNatClampNeg) then none else gf_nm (gw_nz z215 11 ((7381 : Int32)).toNatClampNeg) fun z223 => gf_nm (gw_zr u221 z215.1) fun u224 => gf_nm (gw_wr u224 t0 39 (z215.1 + 1)) fun u229 => if ((121 : Int32) < 0 ∨ 60000000 < ((121 : Int32)).toNatClampNeg) then none else gf_nm (gw_nz z223 10 ((121 : Int32)).toNatClampNeg) fun z231 => gf_nm (gw_zr u229 z223.1) fun u232 => gf_nm (gw_wr u232 t0 40 (z223.1 + 1)) fun u237 => if ((61 : Int32) < 0 ∨ 60000000 < ((61 : Int32)).toNatClampNeg) then none else gf_nm (gw_nz z231 11 ((61 : Int32)).toNatClampNeg) fun z239 => gf_nm (gw_zr u237 z231.1) fun u240 => gf_nm (gw_wr u240 t0 42 (z231.1 + 1)) fun u245 => if ((121 : Int32) < 0 ∨ 60000000 < ((121 : Int32)).toNatClampNeg) then none else gf_nm (gw_nz z239 10 ((121 : Int32)).toNatClampNeg) fun z247 => gf_nm (gw_zr u245 z239.1) fun u248 => gf_nm (gw_wr u248 t0 43 (z239.1 + 1)) fun u253 => if ((121 : Int32) < 0 ∨ 60000000 < ((121 : Int32)).toNatClampNeg) then none else gf_nm (gw_nz z247 10 ((121 : Int32)).toNatClampNeg) fun z255 => gf_nm (gw_zr u253 z247.1) fun u256 => gf_nm (gw_wr u256 t0 44 (z247.1 + 1)) fun u261 => if ((70 : Int32) < 0 ∨ 60000000 < ((70 : Int32)).toNatClampNeg) then none else gf_nm (gw_nz z255 12 ((70 : Int32)).toNatClampNeg) fun z263 => gf_nm (gw_zr u261 z255.1) fun u264 => gf_nm (gw_wr u264 t0 45 (z255.1 + 1)) fun u269 => if ((60 : Int32) < 0 ∨ 60000000 < ((60 : Int32)).toNatClampNeg) then none else gf_nm (gw_nz z263 12 ((60 : Int32)).toNatClampNeg) fun z271 => gf_nm (gw_zr u269 z263.1) fun u272 => gf_nm (gw_wr u272 t0 46 (z263.1 + 1)) fun u277 => if ((4200 : Int32) < 0 ∨ 60000000 < ((4200 : Int32)).toNatClampNeg) then none else gf_nm (gw_nz z271 11 ((4200 : Int32)).toNatClampNeg) fun z279 => gf_nm (gw_zr u277 z271.1) fun u280 => gf_nm (gw_wr u280 t0 47 (z271.1 + 1)) fun u285 => if ((5120 : Int32) < 0 ∨ 60000000 < ((5120 : Int32)).toNatClampNeg) then none else gf_nm (gw_nz z279 11 ((5120 : Int32)).toNatClampNeg) fun z287 => gf_nm (gw_zr u285 z279.1) fun u288 => gf_nm (gw_wr u288 t0 48 (z279.1 + 1)) fun u293 => gf_nn (u293.2.2 t0 37) fun q295 => if ((0 : Int32) < 0 ∨ z287.2.2 q295 ≤ ((0 : Int32)).toNatClampNeg) then none else gf_nm (gw_wi u293 q295 ((0 : Int32)).toNatClampNeg (1 : Int32)) fun u298 => gf_Model_init_L322 F z287  F u298 t0 2147483647 0
def gf_Model_init (F : Nat) (z : gw_Sh) (u : gw_St) (t0 : Nat) : Option (gw_Sh × gw_St) := gf_Model_init_b0 F z  u t0
set_option maxHeartbeats 4000000 in
set_option maxRecDepth 20000 in
theorem gx_Model_init_S328 {p : Program} {l : Launch} {e : Env} {s : State} {m : MethodId} {args : Array Value} {below : List Frame} {meth : Method} {c : Code} {D : va_G} {cA : Nat → ClassId} {hs : Nat → Nat} {z z0 : gw_Sh} (F : Nat) {r0 : (gw_Sh × gw_St)} (C : gw_Cx p s m args c gb_Model_init 3 R_Model D cA) (hr : meth.sig.returnType = none) (hk : meth.locks = false) (hin : meth.name = "<init>") (hAO : va_AO R_Fraction s) {R : Room} (hR : 2 ≤ R.frames ∧ 86 ≤ R.locals ∧ 30 ≤ R.cells ∧ 135461 ≤ R.slots) (hh : ∀ j, hs (z0.1 + j) = s.heap.size + j) (hz : ∀ p d, gw_ok z0 p d → gw_ok z p d) (hzc : z.1 = z0.1 + 30) {rc_322 : gw_St → Nat → Int32 → Int32 → Option (gw_Sh × gw_St)} (k_322 : ∀ (u : gw_St) (t0 : Nat) (x1 : Int32) (x2 : Int32) (H : Heap) (locs : List Loc) (ls : Array Slot), gw_ok z t0 9 → gw_Wd D cA hs z (gw_A hs z0 s.heap.size) s.heap u H locs → lv_has ls 3 [(0, .ref (hs t0)), (1, .int x1), (2, .int x2)] → rc_322 u t0 x1 x2 = some r0 → gw_Gc p l e R s m args below meth c D cA hs z0 r0 30 135461 H locs 30 135461 ls 322 []) {rc_328 : gw_St → Nat → Int32 → Int32 → Option (gw_Sh × gw_St)} (k_328 : ∀ (u : gw_St) (t0 : Nat) (x1 : Int32) (x2 : Int32) (H : Heap) (locs : List Loc) (ls : Array Slot), gw_ok z t0 9 → gw_Wd D cA hs z (gw_A hs z0 s.heap.size) s.heap u H locs → lv_has ls 3 [(0, .ref (hs t0)), (1, .int x1), (2, .int x2)] → rc_328 u t0 x1 x2 = some r0 → gw_Gc p l e R s m args below meth c D cA hs z0 r0 30 135461 H locs 30 135461 ls 328 []) (u : gw_St) (t0 : Nat) (x1 : Int32) (x2 : Int32) (o_t0 : gw_ok z t0 9) {H : Heap} {locs : List Loc} {ls : Array Slot} (hW : gw_Wd D cA hs z (gw_A hs z0 s.heap.size) s.heap u H locs) (hl : lv_has ls 3 [(0, .ref (hs t0)), (1, .int x1), (2, .int x2)]) (h : gf_Model_init_S328 F z rc_322 rc_328 u t0 x1 x2 = some r0) : gw_Gc p l e R s m args below meth c D cA hs z0 r0 30 135461 H locs 30 135461 ls 328 [] := by
  obtain ⟨hx, hb, hml, hown, hts, hK⟩ := id C
  unfold gf_Model_init_S328 at h
  refine lv_iload_n hx hb gd_Model_init_328 rfl (lv_at hl 1 rfl) ?_
  obtain ⟨a3, u1, d2, h⟩ := gf_cl_ok h
  refine gw_callSi (As := [.int x1]) (rest := []) C hW (fun _ h => Or.inr h) hl.1 gm_Model_isPrime (gc_Model_isPrime l F  d2 _) gk_825 gk_826 rfl rfl ⟨(Nat.le_trans (m := 2) (Nat.le_of_ble_eq_true rfl) hR.1), (Nat.le_trans (m := 86) (Nat.le_of_ble_eq_true rfl) hR.2.1)⟩ ⟨(Nat.le_trans (m := 30) (by decide +kernel) hR.2.2.1), (Nat.le_trans (m := 135461) (by decide +kernel) hR.2.2.2)⟩ rfl rfl (Nat.le_of_ble_eq_true rfl) gd_Model_init_329 (fun H locs hW => ?_)
  refine lv_if_ne (tgt := 341) hx hb gd_Model_init_332 (by decide) (fun c4 => ?_) (fun c4 => ?_)
  · have h := gf_f c4 h
    refine lv_aload_n hx hb gd_Model_init_341 rfl (lv_at hl 0 rfl) ?_
    obtain ⟨q5, e6, h⟩ := gf_nn_ok h
    refine gw_getr (k := 38) (ty := 10) (ref := R_Model) C hW o_t0 (by decide) rfl gi_Model rfl (by decide) rfl rfl gk_524 gd_Model_init_342 e6 ?_
    have o_q5 := hW.ref (d := 10) o_t0 e6 rfl
    refine lv_iload_n hx hb gd_Model_init_345 rfl (lv_at hl 2 rfl) ?_
    refine lv_iload_n hx hb gd_Model_init_346 rfl (lv_at hl 1 rfl) ?_
    obtain ⟨g7, h⟩ := gf_if_ok h
    refine gw_iast C hW o_q5 g7 gd_Model_init_347 (fun u8 H locs e9 hW => ?_)
    have h := gf_nm_ok e9 h
    obtain ⟨a10, e11⟩ : ∃ y : Int32, y = x1 + (-2) := ⟨_, rfl⟩
    have h := gf_nm_ok e11 h
    refine lv_iinc (v := a10) (lv' := [(1, .int a10), (0, .ref (hs t0)), (2, .int x2)]) hx hb gd_Model_init_348 hl (k := 1) rfl (by rw [e11]; rfl) (by decide) rfl (fun ls hl => ?_)
    obtain ⟨a12, e13⟩ : ∃ y : Int32, y = x2 + 1 := ⟨_, rfl⟩
    have h := gf_nm_ok e13 h
    refine lv_iinc (v := a12) (lv' := [(2, .int a12), (1, .int a10), (0, .ref (hs t0))]) hx hb gd_Model_init_351 hl (k := 2) rfl (by rw [e13]; rfl) (by decide) rfl (fun ls hl => ?_)
    refine lv_goto (tgt := 322) hx hb gd_Model_init_354 (by decide) ?_
    exact k_322 u8 t0 a10 a12 _ _ _ o_t0 hW (lv_sub hl [2, 1, 0] rfl) h
  · have h := gf_t c4 h
    obtain ⟨a14, e15⟩ : ∃ y : Int32, y = x1 + (-2) := ⟨_, rfl⟩
    have h := gf_nm_ok e15 h
    refine lv_iinc (v := a14) (lv' := [(1, .int a14), (0, .ref (hs t0)), (2, .int x2)]) hx hb gd_Model_init_335 hl (k := 1) rfl (by rw [e15]; rfl) (by decide) rfl (fun ls hl => ?_)
    refine lv_goto (tgt := 328) hx hb gd_Model_init_338 (by decide) ?_
    exact k_328 u1 t0 a14 x2 _ _ _ o_t0 hW (lv_sub hl [1, 0, 2] rfl) h
set_option maxHeartbeats 4000000 in
set_option maxRecDepth 20000 in
theorem gx_Model_init_L328 {p : Program} {l : Launch} {e : Env} {s : State} {m : MethodId} {args : Array Value} {below : List Frame} {meth : Method} {c : Code} {D : va_G} {cA : Nat → ClassId} {hs : Nat → Nat} {z z0 : gw_Sh} (F : Nat) {r0 : (gw_Sh × gw_St)} (C : gw_Cx p s m args c gb_Model_init 3 R_Model D cA) (hr : meth.sig.returnType = none) (hk : meth.locks = false) (hin : meth.name = "<init>") (hAO : va_AO R_Fraction s) {R : Room} (hR : 2 ≤ R.frames ∧ 86 ≤ R.locals ∧ 30 ≤ R.cells ∧ 135461 ≤ R.slots) (hh : ∀ j, hs (z0.1 + j) = s.heap.size + j) (hz : ∀ p d, gw_ok z0 p d → gw_ok z p d) (hzc : z.1 = z0.1 + 30) {rc_322 : gw_St → Nat → Int32 → Int32 → Option (gw_Sh × gw_St)} (k_322 : ∀ (u : gw_St) (t0 : Nat) (x1 : Int32) (x2 : Int32) (H : Heap) (locs : List Loc) (ls : Array Slot), gw_ok z t0 9 → gw_Wd D cA hs z (gw_A hs z0 s.heap.size) s.heap u H locs → lv_has ls 3 [(0, .ref (hs t0)), (1, .int x1), (2, .int x2)] → rc_322 u t0 x1 x2 = some r0 → gw_Gc p l e R s m args below meth c D cA hs z0 r0 30 135461 H locs 30 135461 ls 322 []) : ∀ (n : Nat), ∀ (u : gw_St) (t0 : Nat) (x1 : Int32) (x2 : Int32) (H : Heap) (locs : List Loc) (ls : Array Slot), gw_ok z t0 9 → gw_Wd D cA hs z (gw_A hs z0 s.heap.size) s.heap u H locs → lv_has ls 3 [(0, .ref (hs t0)), (1, .int x1), (2, .int x2)] → gf_Model_init_L328 F z rc_322 n u t0 x1 x2 = some r0 → gw_Gc p l e R s m args below meth c D cA hs z0 r0 30 135461 H locs 30 135461 ls 328 [] := by
  intro n
  induction n with
  | zero =>
    intro u t0 x1 x2 H locs ls o_t0 hW hl h
    cases h
  | succ n ih =>
    intro u t0 x1 x2 H locs ls o_t0 hW hl h
    exact gx_Model_init_S328 F C hr hk hin hAO hR hh hz hzc k_322 ih u t0 x1 x2 o_t0 hW hl h

set_option maxHeartbeats 4000000 in
set_option maxRecDepth 20000 in
theorem gx_Model_init_S322 {p : Program} {l : Launch} {e : Env} {s : State} {m : MethodId} {args : Array Value} {below : List Frame} {meth : Method} {c : Code} {D : va_G} {cA : Nat → ClassId} {hs : Nat → Nat} {z z0 : gw_Sh} (F : Nat) {r0 : (gw_Sh × gw_St)} (C : gw_Cx p s m args c gb_Model_init 3 R_Model D cA) (hr : meth.sig.returnType = none) (hk : meth.locks = false) (hin : meth.name = "<init>") (hAO : va_AO R_Fraction s) {R : Room} (hR : 2 ≤ R.frames ∧ 86 ≤ R.locals ∧ 30 ≤ R.cells ∧ 135461 ≤ R.slots) (hh : ∀ j, hs (z0.1 + j) = s.heap.size + j) (hz : ∀ p d, gw_ok z0 p d → gw_ok z p d) (hzc : z.1 = z0.1 + 30) {rc_322 : gw_St → Nat → Int32 → Int32 → Option (gw_Sh × gw_St)} (k_322 : ∀ (u : gw_St) (t0 : Nat) (x1 : Int32) (x2 : Int32) (H : Heap) (locs : List Loc) (ls : Array Slot), gw_ok z t0 9 → gw_Wd D cA hs z (gw_A hs z0 s.heap.size) s.heap u H locs → lv_has ls 3 [(0, .ref (hs t0)), (1, .int x1), (2, .int x2)] → rc_322 u t0 x1 x2 = some r0 → gw_Gc p l e R s m args below meth c D cA hs z0 r0 30 135461 H locs 30 135461 ls 322 []) (u : gw_St) (t0 : Nat) (x1 : Int32) (x2 : Int32) (o_t0 : gw_ok z t0 9) {H : Heap} {locs : List Loc} {ls : Array Slot} (hW : gw_Wd D cA hs z (gw_A hs z0 s.heap.size) s.heap u H locs) (hl : lv_has ls 3 [(0, .ref (hs t0)), (1, .int x1), (2, .int x2)]) (h : gf_Model_init_S322 F z  rc_322 u t0 x1 x2 = some r0) : gw_Gc p l e R s m args below meth c D cA hs z0 r0 30 135461 H locs 30 135461 ls 322 [] := by
  obtain ⟨hx, hb, hml, hown, hts, hK⟩ := id C
  unfold gf_Model_init_S322 at h
  refine lv_iload_n hx hb gd_Model_init_322 rfl (lv_at hl 2 rfl) ?_
  refine lv_bipush (v := 70) hx hb gd_Model_init_323 (by decide) ?_
  refine lv_icmp_ge (tgt := 357) hx hb gd_Model_init_325 (by decide) (fun c16 => ?_) (fun c16 => ?_)
  · have h := gf_t c16 h
    obtain rfl := Option.some.inj h
    exact gw_vretC C hW hzc hz hr hk gd_Model_init_357
  · have h := gf_f c16 h
    exact gx_Model_init_L328 F C hr hk hin hAO hR hh hz hzc k_322 F u t0 x1 x2 _ _ _ o_t0 hW (lv_sub hl [0, 1, 2] rfl) h
set_option maxHeartbeats 4000000 in
set_option maxRecDepth 20000 in
theorem gx_Model_init_L322 {p : Program} {l : Launch} {e : Env} {s : State} {m : MethodId} {args : Array Value} {below : List Frame} {meth : Method} {c : Code} {D : va_G} {cA : Nat → ClassId} {hs : Nat → Nat} {z z0 : gw_Sh} (F : Nat) {r0 : (gw_Sh × gw_St)} (C : gw_Cx p s m args c gb_Model_init 3 R_Model D cA) (hr : meth.sig.returnType = none) (hk : meth.locks = false) (hin : meth.name = "<init>") (hAO : va_AO R_Fraction s) {R : Room} (hR : 2 ≤ R.frames ∧ 86 ≤ R.locals ∧ 30 ≤ R.cells ∧ 135461 ≤ R.slots) (hh : ∀ j, hs (z0.1 + j) = s.heap.size + j) (hz : ∀ p d, gw_ok z0 p d → gw_ok z p d) (hzc : z.1 = z0.1 + 30) : ∀ (n : Nat), ∀ (u : gw_St) (t0 : Nat) (x1 : Int32) (x2 : Int32) (H : Heap) (locs : List Loc) (ls : Array Slot), gw_ok z t0 9 → gw_Wd D cA hs z (gw_A hs z0 s.heap.size) s.heap u H locs → lv_has ls 3 [(0, .ref (hs t0)), (1, .int x1), (2, .int x2)] → gf_Model_init_L322 F z  n u t0 x1 x2 = some r0 → gw_Gc p l e R s m args below meth c D cA hs z0 r0 30 135461 H locs 30 135461 ls 322 [] := by
  intro n
  induction n with
  | zero =>
    intro u t0 x1 x2 H locs ls o_t0 hW hl h
    cases h
  | succ n ih =>
    intro u t0 x1 x2 H locs ls o_t0 hW hl h
    exact gx_Model_init_S322 F C hr hk hin hAO hR hh hz hzc  ih u t0 x1 x2 o_t0 hW hl h

set_option maxHeartbeats 4000000 in
set_option maxRecDepth 20000 in
theorem gx_Model_init_b0 {p : Program} {l : Launch} {e : Env} {s : State} {m : MethodId} {args : Array Value} {below : List Frame} {meth : Method} {c : Code} {D : va_G} {cA : Nat → ClassId} {hs : Nat → Nat} {z z0 : gw_Sh} (F : Nat) {r0 : (gw_Sh × gw_St)} (C : gw_Cx p s m args c gb_Model_init 3 R_Model D cA) (hr : meth.sig.returnType = none) (hk : meth.locks = false) (hin : meth.name = "<init>") (hAO : va_AO R_Fraction s) {R : Room} (hR : 2 ≤ R.frames ∧ 86 ≤ R.locals ∧ 30 ≤ R.cells ∧ 135461 ≤ R.slots) (hh : ∀ j, hs (z0.1 + j) = s.heap.size + j) (hz : ∀ p d, gw_ok z0 p d → gw_ok z p d) (hzc : z.1 = z0.1 + 0) (u : gw_St) (t0 : Nat) (o_t0 : gw_ok z t0 9) {H : Heap} {locs : List Loc} {ls : Array Slot} (hW : gw_Wd D cA hs z (gw_A hs z0 s.heap.size) s.heap u H locs) (hl : lv_has ls 3 [(0, .ref (hs t0))]) (h : gf_Model_init_b0 F z   u t0 = some r0) : gw_Gc p l e R s m args below meth c D cA hs z0 r0 30 135461 H locs 0 0 ls 0 [] := by
  obtain ⟨hx, hb, hml, hown, hts, hK⟩ := id C
  unfold gf_Model_init_b0 at h
  refine lv_aload_n hx hb gd_Model_init_0 rfl (lv_at hl 0 rfl) ?_
  refine W.objInit hx hb hown (hts _ gk_827) (hts _ gk_790) (hts _ gk_791) rfl (by rw [hml]; exact hl.1) rfl gd_Model_init_1 (Nat.le_trans (m := 2) (Nat.le_of_ble_eq_true rfl) hR.1) (Nat.le_trans (m := 86) (Nat.le_of_ble_eq_true rfl) hR.2.1) ?_
  refine W.eq (g2 := F0 m 4 ls []) rfl ?_
  refine lv_aload_n hx hb gd_Model_init_4 rfl (lv_at hl 0 rfl) ?_
  refine lv_ldc (v := 37820) hx hb hown (hts _ gk_828) gd_Model_init_5 ?_
  obtain ⟨g22, h⟩ := gf_if_ok h
  refine gw_frW hW hh hzc (fun hF => ?_)
  refine gw_newi C hW (fun _ h => Or.inr h) hF gk_792 g22 (Nat.le_trans (m := 30) (by decide +kernel) hR.2.2.1) (Nat.le_trans (m := 135461) (by decide +kernel) hR.2.2.2) gd_Model_init_7 (fun z17 u18 H e19 e20 hW hF o21 hz9 => ?_)
  have h := gf_nm_ok e19 h
  have h := gf_nm_ok e20 h
  have o_t0 := hz9 _ _ o_t0
  have hz := fun p d h => hz9 p d (hz p d h)
  refine W.widen (k := 1) (n := 37820) (by decide +kernel) (by decide +kernel) ?_
  have hzc : z17.1 = z0.1 + 1 := gw_hzc (b := z.1) (c := 1) (by rw [e19]; rfl) hzc (by decide)
  refine gw_putF (k := 10) (ty := 10) (ref := R_Model) (fty := .array .int) C hW o_t0 o21 (by decide) rfl gi_Model rfl (by decide) rfl rfl gk_408 tf_Model tf_Model_ok nm_Model rfl hin rfl rfl (fun _ => rfl) (fun _ => rfl) gd_Model_init_9 (fun u23 H locs e24 hW => ?_)
  have h := gf_nm_ok e24 h
  refine lv_aload_n hx hb gd_Model_init_12 rfl (lv_at hl 0 rfl) ?_
  refine lv_ldc (v := 37820) hx hb hown (hts _ gk_828) gd_Model_init_13 ?_
  obtain ⟨g30, h⟩ := gf_if_ok h
  refine gw_frW hW hh hzc (fun hF => ?_)
  refine gw_newi C hW (fun _ h => Or.inr h) hF gk_792 g30 (Nat.le_trans (m := 30) (by decide +kernel) hR.2.2.1) (Nat.le_trans (m := 135461) (by decide +kernel) hR.2.2.2) gd_Model_init_15 (fun z25 u26 H e27 e28 hW hF o29 hz9 => ?_)
  have h := gf_nm_ok e27 h
  have h := gf_nm_ok e28 h
  have o_t0 := hz9 _ _ o_t0
  have o21 := hz9 _ _ o21
  have hz := fun p d h => hz9 p d (hz p d h)
  refine W.widen (k := 2) (n := 75640) (by decide +kernel) (by decide +kernel) ?_
  have hzc : z25.1 = z0.1 + 2 := gw_hzc (b := z17.1) (c := 1) (by rw [e27]; rfl) hzc (by decide)
  refine gw_putF (k := 11) (ty := 10) (ref := R_Model) (fty := .array .int) C hW o_t0 o29 (by decide) rfl gi_Model rfl (by decide) rfl rfl gk_410 tf_Model tf_Model_ok nm_Model rfl hin rfl rfl (fun _ => rfl) (fun _ => rfl) gd_Model_init_17 (fun u31 H locs e32 hW => ?_)
  have h := gf_nm_ok e32 h
  refine lv_aload_n hx hb gd_Model_init_20 rfl (lv_at hl 0 rfl) ?_
  refine lv_ldc (v := 37820) hx hb hown (hts _ gk_828) gd_Model_init_21 ?_
  obtain ⟨g38, h⟩ := gf_if_ok h
  refine gw_frW hW hh hzc (fun hF => ?_)
  refine gw_newi C hW (fun _ h => Or.inr h) hF gk_792 g38 (Nat.le_trans (m := 30) (by decide +kernel) hR.2.2.1) (Nat.le_trans (m := 135461) (by decide +kernel) hR.2.2.2) gd_Model_init_23 (fun z33 u34 H e35 e36 hW hF o37 hz9 => ?_)
  have h := gf_nm_ok e35 h
  have h := gf_nm_ok e36 h
  have o_t0 := hz9 _ _ o_t0
  have o21 := hz9 _ _ o21
  have o29 := hz9 _ _ o29
  have hz := fun p d h => hz9 p d (hz p d h)
  refine W.widen (k := 3) (n := 113460) (by decide +kernel) (by decide +kernel) ?_
  have hzc : z33.1 = z0.1 + 3 := gw_hzc (b := z25.1) (c := 1) (by rw [e35]; rfl) hzc (by decide)
  refine gw_putF (k := 12) (ty := 10) (ref := R_Model) (fty := .array .int) C hW o_t0 o37 (by decide) rfl gi_Model rfl (by decide) rfl rfl gk_409 tf_Model tf_Model_ok nm_Model rfl hin rfl rfl (fun _ => rfl) (fun _ => rfl) gd_Model_init_25 (fun u39 H locs e40 hW => ?_)
  have h := gf_nm_ok e40 h
  refine lv_aload_n hx hb gd_Model_init_28 rfl (lv_at hl 0 rfl) ?_
  refine lv_iconst (v := (-1)) hx hb gd_Model_init_29 (by decide) ?_
  refine gw_puti (k := 20) (ref := R_Model) (fty := .int) C hW o_t0 (by decide) rfl gi_Model rfl (by decide) rfl rfl gk_484 tf_Model tf_Model_ok nm_Model rfl rfl rfl rfl gd_Model_init_30 (fun u41 H locs e42 hW => ?_)
  have h := gf_nm_ok e42 h
  refine lv_aload_n hx hb gd_Model_init_33 rfl (lv_at hl 0 rfl) ?_
  refine lv_bipush (v := 60) hx hb gd_Model_init_34 (by decide) ?_
  obtain ⟨g48, h⟩ := gf_if_ok h
  refine gw_frW hW hh hzc (fun hF => ?_)
  refine gw_newi C hW (fun _ h => Or.inr h) hF gk_792 g48 (Nat.le_trans (m := 30) (by decide +kernel) hR.2.2.1) (Nat.le_trans (m := 135461) (by decide +kernel) hR.2.2.2) gd_Model_init_36 (fun z43 u44 H e45 e46 hW hF o47 hz9 => ?_)
  have h := gf_nm_ok e45 h
  have h := gf_nm_ok e46 h
  have o_t0 := hz9 _ _ o_t0
  have o21 := hz9 _ _ o21
  have o29 := hz9 _ _ o29
  have o37 := hz9 _ _ o37
  have hz := fun p d h => hz9 p d (hz p d h)
  refine W.widen (k := 4) (n := 113520) (by decide +kernel) (by decide +kernel) ?_
  have hzc : z43.1 = z0.1 + 4 := gw_hzc (b := z33.1) (c := 1) (by rw [e45]; rfl) hzc (by decide)
  refine gw_putF (k := 21) (ty := 10) (ref := R_Model) (fty := .array .int) C hW o_t0 o47 (by decide) rfl gi_Model rfl (by decide) rfl rfl gk_462 tf_Model tf_Model_ok nm_Model rfl hin rfl rfl (fun _ => rfl) (fun _ => rfl) gd_Model_init_38 (fun u49 H locs e50 hW => ?_)
  have h := gf_nm_ok e50 h
  refine lv_aload_n hx hb gd_Model_init_41 rfl (lv_at hl 0 rfl) ?_
  refine lv_bipush (v := 120) hx hb gd_Model_init_42 (by decide) ?_
  obtain ⟨g56, h⟩ := gf_if_ok h
  refine gw_frW hW hh hzc (fun hF => ?_)
  refine gw_newi C hW (fun _ h => Or.inr h) hF gk_792 g56 (Nat.le_trans (m := 30) (by decide +kernel) hR.2.2.1) (Nat.le_trans (m := 135461) (by decide +kernel) hR.2.2.2) gd_Model_init_44 (fun z51 u52 H e53 e54 hW hF o55 hz9 => ?_)
  have h := gf_nm_ok e53 h
  have h := gf_nm_ok e54 h
  have o_t0 := hz9 _ _ o_t0
  have o21 := hz9 _ _ o21
  have o29 := hz9 _ _ o29
  have o37 := hz9 _ _ o37
  have o47 := hz9 _ _ o47
  have hz := fun p d h => hz9 p d (hz p d h)
  refine W.widen (k := 5) (n := 113640) (by decide +kernel) (by decide +kernel) ?_
  have hzc : z51.1 = z0.1 + 5 := gw_hzc (b := z43.1) (c := 1) (by rw [e53]; rfl) hzc (by decide)
  refine gw_putF (k := 22) (ty := 10) (ref := R_Model) (fty := .array .int) C hW o_t0 o55 (by decide) rfl gi_Model rfl (by decide) rfl rfl gk_467 tf_Model tf_Model_ok nm_Model rfl hin rfl rfl (fun _ => rfl) (fun _ => rfl) gd_Model_init_46 (fun u57 H locs e58 hW => ?_)
  have h := gf_nm_ok e58 h
  refine lv_aload_n hx hb gd_Model_init_49 rfl (lv_at hl 0 rfl) ?_
  refine lv_bipush (v := 120) hx hb gd_Model_init_50 (by decide) ?_
  obtain ⟨g64, h⟩ := gf_if_ok h
  refine gw_frW hW hh hzc (fun hF => ?_)
  refine gw_newi C hW (fun _ h => Or.inr h) hF gk_792 g64 (Nat.le_trans (m := 30) (by decide +kernel) hR.2.2.1) (Nat.le_trans (m := 135461) (by decide +kernel) hR.2.2.2) gd_Model_init_52 (fun z59 u60 H e61 e62 hW hF o63 hz9 => ?_)
  have h := gf_nm_ok e61 h
  have h := gf_nm_ok e62 h
  have o_t0 := hz9 _ _ o_t0
  have o21 := hz9 _ _ o21
  have o29 := hz9 _ _ o29
  have o37 := hz9 _ _ o37
  have o47 := hz9 _ _ o47
  have o55 := hz9 _ _ o55
  have hz := fun p d h => hz9 p d (hz p d h)
  refine W.widen (k := 6) (n := 113760) (by decide +kernel) (by decide +kernel) ?_
  have hzc : z59.1 = z0.1 + 6 := gw_hzc (b := z51.1) (c := 1) (by rw [e61]; rfl) hzc (by decide)
  refine gw_putF (k := 23) (ty := 10) (ref := R_Model) (fty := .array .int) C hW o_t0 o63 (by decide) rfl gi_Model rfl (by decide) rfl rfl gk_468 tf_Model tf_Model_ok nm_Model rfl hin rfl rfl (fun _ => rfl) (fun _ => rfl) gd_Model_init_54 (fun u65 H locs e66 hW => ?_)
  have h := gf_nm_ok e66 h
  refine lv_aload_n hx hb gd_Model_init_57 rfl (lv_at hl 0 rfl) ?_
  refine lv_bipush (v := 120) hx hb gd_Model_init_58 (by decide) ?_
  obtain ⟨g72, h⟩ := gf_if_ok h
  refine gw_frW hW hh hzc (fun hF => ?_)
  refine gw_newi C hW (fun _ h => Or.inr h) hF gk_792 g72 (Nat.le_trans (m := 30) (by decide +kernel) hR.2.2.1) (Nat.le_trans (m := 135461) (by decide +kernel) hR.2.2.2) gd_Model_init_60 (fun z67 u68 H e69 e70 hW hF o71 hz9 => ?_)
  have h := gf_nm_ok e69 h
  have h := gf_nm_ok e70 h
  have o_t0 := hz9 _ _ o_t0
  have o21 := hz9 _ _ o21
  have o29 := hz9 _ _ o29
  have o37 := hz9 _ _ o37
  have o47 := hz9 _ _ o47
  have o55 := hz9 _ _ o55
  have o63 := hz9 _ _ o63
  have hz := fun p d h => hz9 p d (hz p d h)
  refine W.widen (k := 7) (n := 113880) (by decide +kernel) (by decide +kernel) ?_
  have hzc : z67.1 = z0.1 + 7 := gw_hzc (b := z59.1) (c := 1) (by rw [e69]; rfl) hzc (by decide)
  refine gw_putF (k := 24) (ty := 10) (ref := R_Model) (fty := .array .int) C hW o_t0 o71 (by decide) rfl gi_Model rfl (by decide) rfl rfl gk_469 tf_Model tf_Model_ok nm_Model rfl hin rfl rfl (fun _ => rfl) (fun _ => rfl) gd_Model_init_62 (fun u73 H locs e74 hW => ?_)
  have h := gf_nm_ok e74 h
  refine lv_aload_n hx hb gd_Model_init_65 rfl (lv_at hl 0 rfl) ?_
  refine lv_bipush (v := 120) hx hb gd_Model_init_66 (by decide) ?_
  obtain ⟨g80, h⟩ := gf_if_ok h
  refine gw_frW hW hh hzc (fun hF => ?_)
  refine gw_newi C hW (fun _ h => Or.inr h) hF gk_792 g80 (Nat.le_trans (m := 30) (by decide +kernel) hR.2.2.1) (Nat.le_trans (m := 135461) (by decide +kernel) hR.2.2.2) gd_Model_init_68 (fun z75 u76 H e77 e78 hW hF o79 hz9 => ?_)
  have h := gf_nm_ok e77 h
  have h := gf_nm_ok e78 h
  have o_t0 := hz9 _ _ o_t0
  have o21 := hz9 _ _ o21
  have o29 := hz9 _ _ o29
  have o37 := hz9 _ _ o37
  have o47 := hz9 _ _ o47
  have o55 := hz9 _ _ o55
  have o63 := hz9 _ _ o63
  have o71 := hz9 _ _ o71
  have hz := fun p d h => hz9 p d (hz p d h)
  refine W.widen (k := 8) (n := 114000) (by decide +kernel) (by decide +kernel) ?_
  have hzc : z75.1 = z0.1 + 8 := gw_hzc (b := z67.1) (c := 1) (by rw [e77]; rfl) hzc (by decide)
  refine gw_putF (k := 25) (ty := 10) (ref := R_Model) (fty := .array .int) C hW o_t0 o79 (by decide) rfl gi_Model rfl (by decide) rfl rfl gk_470 tf_Model tf_Model_ok nm_Model rfl hin rfl rfl (fun _ => rfl) (fun _ => rfl) gd_Model_init_70 (fun u81 H locs e82 hW => ?_)
  have h := gf_nm_ok e82 h
  refine lv_aload_n hx hb gd_Model_init_73 rfl (lv_at hl 0 rfl) ?_
  refine lv_bipush (v := 12) hx hb gd_Model_init_74 (by decide) ?_
  obtain ⟨g88, h⟩ := gf_if_ok h
  refine gw_frW hW hh hzc (fun hF => ?_)
  refine gw_newi C hW (fun _ h => Or.inr h) hF gk_792 g88 (Nat.le_trans (m := 30) (by decide +kernel) hR.2.2.1) (Nat.le_trans (m := 135461) (by decide +kernel) hR.2.2.2) gd_Model_init_76 (fun z83 u84 H e85 e86 hW hF o87 hz9 => ?_)
  have h := gf_nm_ok e85 h
  have h := gf_nm_ok e86 h
  have o_t0 := hz9 _ _ o_t0
  have o21 := hz9 _ _ o21
  have o29 := hz9 _ _ o29
  have o37 := hz9 _ _ o37
  have o47 := hz9 _ _ o47
  have o55 := hz9 _ _ o55
  have o63 := hz9 _ _ o63
  have o71 := hz9 _ _ o71
  have o79 := hz9 _ _ o79
  have hz := fun p d h => hz9 p d (hz p d h)
  refine W.widen (k := 9) (n := 114012) (by decide +kernel) (by decide +kernel) ?_
  have hzc : z83.1 = z0.1 + 9 := gw_hzc (b := z75.1) (c := 1) (by rw [e85]; rfl) hzc (by decide)
  refine lv_dup hx hb gd_Model_init_78 rfl ?_
  refine lv_iconst (v := 0) hx hb gd_Model_init_79 (by decide) ?_
  refine lv_iconst (v := (-1)) hx hb gd_Model_init_80 (by decide) ?_
  obtain ⟨g89, h⟩ := gf_if_ok h
  refine gw_iast C hW o87 g89 gd_Model_init_81 (fun u90 H locs e91 hW => ?_)
  have h := gf_nm_ok e91 h
  refine lv_dup hx hb gd_Model_init_82 rfl ?_
  refine lv_iconst (v := 1) hx hb gd_Model_init_83 (by decide) ?_
  refine lv_iconst (v := (-1)) hx hb gd_Model_init_84 (by decide) ?_
  obtain ⟨g92, h⟩ := gf_if_ok h
  refine gw_iast C hW o87 g92 gd_Model_init_85 (fun u93 H locs e94 hW => ?_)
  have h := gf_nm_ok e94 h
  refine lv_dup hx hb gd_Model_init_86 rfl ?_
  refine lv_iconst (v := 2) hx hb gd_Model_init_87 (by decide) ?_
  refine lv_iconst (v := (-1)) hx hb gd_Model_init_88 (by decide) ?_
  obtain ⟨g95, h⟩ := gf_if_ok h
  refine gw_iast C hW o87 g95 gd_Model_init_89 (fun u96 H locs e97 hW => ?_)
  have h := gf_nm_ok e97 h
  refine lv_dup hx hb gd_Model_init_90 rfl ?_
  refine lv_iconst (v := 3) hx hb gd_Model_init_91 (by decide) ?_
  refine lv_iconst (v := (-1)) hx hb gd_Model_init_92 (by decide) ?_
  obtain ⟨g98, h⟩ := gf_if_ok h
  refine gw_iast C hW o87 g98 gd_Model_init_93 (fun u99 H locs e100 hW => ?_)
  have h := gf_nm_ok e100 h
  refine lv_dup hx hb gd_Model_init_94 rfl ?_
  refine lv_iconst (v := 4) hx hb gd_Model_init_95 (by decide) ?_
  refine lv_iconst (v := (-1)) hx hb gd_Model_init_96 (by decide) ?_
  obtain ⟨g101, h⟩ := gf_if_ok h
  refine gw_iast C hW o87 g101 gd_Model_init_97 (fun u102 H locs e103 hW => ?_)
  have h := gf_nm_ok e103 h
  refine lv_dup hx hb gd_Model_init_98 rfl ?_
  refine lv_iconst (v := 5) hx hb gd_Model_init_99 (by decide) ?_
  refine lv_iconst (v := (-1)) hx hb gd_Model_init_100 (by decide) ?_
  obtain ⟨g104, h⟩ := gf_if_ok h
  refine gw_iast C hW o87 g104 gd_Model_init_101 (fun u105 H locs e106 hW => ?_)
  have h := gf_nm_ok e106 h
  refine lv_dup hx hb gd_Model_init_102 rfl ?_
  refine lv_bipush (v := 6) hx hb gd_Model_init_103 (by decide) ?_
  refine lv_iconst (v := (-1)) hx hb gd_Model_init_105 (by decide) ?_
  obtain ⟨g107, h⟩ := gf_if_ok h
  refine gw_iast C hW o87 g107 gd_Model_init_106 (fun u108 H locs e109 hW => ?_)
  have h := gf_nm_ok e109 h
  refine lv_dup hx hb gd_Model_init_107 rfl ?_
  refine lv_bipush (v := 7) hx hb gd_Model_init_108 (by decide) ?_
  refine lv_iconst (v := (-1)) hx hb gd_Model_init_110 (by decide) ?_
  obtain ⟨g110, h⟩ := gf_if_ok h
  refine gw_iast C hW o87 g110 gd_Model_init_111 (fun u111 H locs e112 hW => ?_)
  have h := gf_nm_ok e112 h
  refine lv_dup hx hb gd_Model_init_112 rfl ?_
  refine lv_bipush (v := 8) hx hb gd_Model_init_113 (by decide) ?_
  refine lv_iconst (v := (-1)) hx hb gd_Model_init_115 (by decide) ?_
  obtain ⟨g113, h⟩ := gf_if_ok h
  refine gw_iast C hW o87 g113 gd_Model_init_116 (fun u114 H locs e115 hW => ?_)
  have h := gf_nm_ok e115 h
  refine lv_dup hx hb gd_Model_init_117 rfl ?_
  refine lv_bipush (v := 9) hx hb gd_Model_init_118 (by decide) ?_
  refine lv_iconst (v := (-1)) hx hb gd_Model_init_120 (by decide) ?_
  obtain ⟨g116, h⟩ := gf_if_ok h
  refine gw_iast C hW o87 g116 gd_Model_init_121 (fun u117 H locs e118 hW => ?_)
  have h := gf_nm_ok e118 h
  refine lv_dup hx hb gd_Model_init_122 rfl ?_
  refine lv_bipush (v := 10) hx hb gd_Model_init_123 (by decide) ?_
  refine lv_iconst (v := (-1)) hx hb gd_Model_init_125 (by decide) ?_
  obtain ⟨g119, h⟩ := gf_if_ok h
  refine gw_iast C hW o87 g119 gd_Model_init_126 (fun u120 H locs e121 hW => ?_)
  have h := gf_nm_ok e121 h
  refine lv_dup hx hb gd_Model_init_127 rfl ?_
  refine lv_bipush (v := 11) hx hb gd_Model_init_128 (by decide) ?_
  refine lv_iconst (v := (-1)) hx hb gd_Model_init_130 (by decide) ?_
  obtain ⟨g122, h⟩ := gf_if_ok h
  refine gw_iast C hW o87 g122 gd_Model_init_131 (fun u123 H locs e124 hW => ?_)
  have h := gf_nm_ok e124 h
  refine gw_putF (k := 26) (ty := 10) (ref := R_Model) (fty := .array .int) C hW o_t0 o87 (by decide) rfl gi_Model rfl (by decide) rfl rfl gk_631 tf_Model tf_Model_ok nm_Model rfl hin rfl rfl (fun _ => rfl) (fun _ => rfl) gd_Model_init_132 (fun u125 H locs e126 hW => ?_)
  have h := gf_nm_ok e126 h
  refine lv_aload_n hx hb gd_Model_init_135 rfl (lv_at hl 0 rfl) ?_
  refine lv_bipush (v := 12) hx hb gd_Model_init_136 (by decide) ?_
  obtain ⟨g132, h⟩ := gf_if_ok h
  refine gw_frW hW hh hzc (fun hF => ?_)
  refine gw_newi C hW (fun _ h => Or.inr h) hF gk_792 g132 (Nat.le_trans (m := 30) (by decide +kernel) hR.2.2.1) (Nat.le_trans (m := 135461) (by decide +kernel) hR.2.2.2) gd_Model_init_138 (fun z127 u128 H e129 e130 hW hF o131 hz9 => ?_)
  have h := gf_nm_ok e129 h
  have h := gf_nm_ok e130 h
  have o_t0 := hz9 _ _ o_t0
  have o21 := hz9 _ _ o21
  have o29 := hz9 _ _ o29
  have o37 := hz9 _ _ o37
  have o47 := hz9 _ _ o47
  have o55 := hz9 _ _ o55
  have o63 := hz9 _ _ o63
  have o71 := hz9 _ _ o71
  have o79 := hz9 _ _ o79
  have o87 := hz9 _ _ o87
  have hz := fun p d h => hz9 p d (hz p d h)
  refine W.widen (k := 10) (n := 114024) (by decide +kernel) (by decide +kernel) ?_
  have hzc : z127.1 = z0.1 + 10 := gw_hzc (b := z83.1) (c := 1) (by rw [e129]; rfl) hzc (by decide)
  refine gw_putF (k := 27) (ty := 10) (ref := R_Model) (fty := .array .int) C hW o_t0 o131 (by decide) rfl gi_Model rfl (by decide) rfl rfl gk_632 tf_Model tf_Model_ok nm_Model rfl hin rfl rfl (fun _ => rfl) (fun _ => rfl) gd_Model_init_140 (fun u133 H locs e134 hW => ?_)
  have h := gf_nm_ok e134 h
  refine lv_aload_n hx hb gd_Model_init_143 rfl (lv_at hl 0 rfl) ?_
  refine lv_bipush (v := 60) hx hb gd_Model_init_144 (by decide) ?_
  obtain ⟨g140, h⟩ := gf_if_ok h
  refine gw_frW hW hh hzc (fun hF => ?_)
  refine gw_newz C hW (fun _ h => Or.inr h) hF gk_829 g140 (Nat.le_trans (m := 30) (by decide +kernel) hR.2.2.1) (Nat.le_trans (m := 135461) (by decide +kernel) hR.2.2.2) gd_Model_init_146 (fun z135 u136 H e137 e138 hW hF o139 hz9 => ?_)
  have h := gf_nm_ok e137 h
  have h := gf_nm_ok e138 h
  have o_t0 := hz9 _ _ o_t0
  have o21 := hz9 _ _ o21
  have o29 := hz9 _ _ o29
  have o37 := hz9 _ _ o37
  have o47 := hz9 _ _ o47
  have o55 := hz9 _ _ o55
  have o63 := hz9 _ _ o63
  have o71 := hz9 _ _ o71
  have o79 := hz9 _ _ o79
  have o87 := hz9 _ _ o87
  have o131 := hz9 _ _ o131
  have hz := fun p d h => hz9 p d (hz p d h)
  refine W.widen (k := 11) (n := 114084) (by decide +kernel) (by decide +kernel) ?_
  have hzc : z135.1 = z0.1 + 11 := gw_hzc (b := z127.1) (c := 1) (by rw [e137]; rfl) hzc (by decide)
  refine gw_putF (k := 28) (ty := 12) (ref := R_Model) (fty := .array .boolean) C hW o_t0 o139 (by decide) rfl gi_Model rfl (by decide) rfl rfl gk_463 tf_Model tf_Model_ok nm_Model rfl hin rfl rfl (fun _ => rfl) (fun _ => rfl) gd_Model_init_148 (fun u141 H locs e142 hW => ?_)
  have h := gf_nm_ok e142 h
  refine lv_aload_n hx hb gd_Model_init_151 rfl (lv_at hl 0 rfl) ?_
  refine lv_bipush (v := 60) hx hb gd_Model_init_152 (by decide) ?_
  obtain ⟨g148, h⟩ := gf_if_ok h
  refine gw_frW hW hh hzc (fun hF => ?_)
  refine gw_newi C hW (fun _ h => Or.inr h) hF gk_792 g148 (Nat.le_trans (m := 30) (by decide +kernel) hR.2.2.1) (Nat.le_trans (m := 135461) (by decide +kernel) hR.2.2.2) gd_Model_init_154 (fun z143 u144 H e145 e146 hW hF o147 hz9 => ?_)
  have h := gf_nm_ok e145 h
  have h := gf_nm_ok e146 h
  have o_t0 := hz9 _ _ o_t0
  have o21 := hz9 _ _ o21
  have o29 := hz9 _ _ o29
  have o37 := hz9 _ _ o37
  have o47 := hz9 _ _ o47
  have o55 := hz9 _ _ o55
  have o63 := hz9 _ _ o63
  have o71 := hz9 _ _ o71
  have o79 := hz9 _ _ o79
  have o87 := hz9 _ _ o87
  have o131 := hz9 _ _ o131
  have o139 := hz9 _ _ o139
  have hz := fun p d h => hz9 p d (hz p d h)
  refine W.widen (k := 12) (n := 114144) (by decide +kernel) (by decide +kernel) ?_
  have hzc : z143.1 = z0.1 + 12 := gw_hzc (b := z135.1) (c := 1) (by rw [e145]; rfl) hzc (by decide)
  refine gw_putF (k := 29) (ty := 10) (ref := R_Model) (fty := .array .int) C hW o_t0 o147 (by decide) rfl gi_Model rfl (by decide) rfl rfl gk_618 tf_Model tf_Model_ok nm_Model rfl hin rfl rfl (fun _ => rfl) (fun _ => rfl) gd_Model_init_156 (fun u149 H locs e150 hW => ?_)
  have h := gf_nm_ok e150 h
  refine lv_aload_n hx hb gd_Model_init_159 rfl (lv_at hl 0 rfl) ?_
  refine lv_sipush (v := 960) hx hb gd_Model_init_160 (by decide) ?_
  obtain ⟨g156, h⟩ := gf_if_ok h
  refine gw_frW hW hh hzc (fun hF => ?_)
  refine gw_newi C hW (fun _ h => Or.inr h) hF gk_792 g156 (Nat.le_trans (m := 30) (by decide +kernel) hR.2.2.1) (Nat.le_trans (m := 135461) (by decide +kernel) hR.2.2.2) gd_Model_init_163 (fun z151 u152 H e153 e154 hW hF o155 hz9 => ?_)
  have h := gf_nm_ok e153 h
  have h := gf_nm_ok e154 h
  have o_t0 := hz9 _ _ o_t0
  have o21 := hz9 _ _ o21
  have o29 := hz9 _ _ o29
  have o37 := hz9 _ _ o37
  have o47 := hz9 _ _ o47
  have o55 := hz9 _ _ o55
  have o63 := hz9 _ _ o63
  have o71 := hz9 _ _ o71
  have o79 := hz9 _ _ o79
  have o87 := hz9 _ _ o87
  have o131 := hz9 _ _ o131
  have o139 := hz9 _ _ o139
  have o147 := hz9 _ _ o147
  have hz := fun p d h => hz9 p d (hz p d h)
  refine W.widen (k := 13) (n := 115104) (by decide +kernel) (by decide +kernel) ?_
  have hzc : z151.1 = z0.1 + 13 := gw_hzc (b := z143.1) (c := 1) (by rw [e153]; rfl) hzc (by decide)
  refine gw_putF (k := 30) (ty := 10) (ref := R_Model) (fty := .array .int) C hW o_t0 o155 (by decide) rfl gi_Model rfl (by decide) rfl rfl gk_616 tf_Model tf_Model_ok nm_Model rfl hin rfl rfl (fun _ => rfl) (fun _ => rfl) gd_Model_init_165 (fun u157 H locs e158 hW => ?_)
  have h := gf_nm_ok e158 h
  refine lv_aload_n hx hb gd_Model_init_168 rfl (lv_at hl 0 rfl) ?_
  refine lv_sipush (v := 960) hx hb gd_Model_init_169 (by decide) ?_
  obtain ⟨g164, h⟩ := gf_if_ok h
  refine gw_frW hW hh hzc (fun hF => ?_)
  refine gw_newi C hW (fun _ h => Or.inr h) hF gk_792 g164 (Nat.le_trans (m := 30) (by decide +kernel) hR.2.2.1) (Nat.le_trans (m := 135461) (by decide +kernel) hR.2.2.2) gd_Model_init_172 (fun z159 u160 H e161 e162 hW hF o163 hz9 => ?_)
  have h := gf_nm_ok e161 h
  have h := gf_nm_ok e162 h
  have o_t0 := hz9 _ _ o_t0
  have o21 := hz9 _ _ o21
  have o29 := hz9 _ _ o29
  have o37 := hz9 _ _ o37
  have o47 := hz9 _ _ o47
  have o55 := hz9 _ _ o55
  have o63 := hz9 _ _ o63
  have o71 := hz9 _ _ o71
  have o79 := hz9 _ _ o79
  have o87 := hz9 _ _ o87
  have o131 := hz9 _ _ o131
  have o139 := hz9 _ _ o139
  have o147 := hz9 _ _ o147
  have o155 := hz9 _ _ o155
  have hz := fun p d h => hz9 p d (hz p d h)
  refine W.widen (k := 14) (n := 116064) (by decide +kernel) (by decide +kernel) ?_
  have hzc : z159.1 = z0.1 + 14 := gw_hzc (b := z151.1) (c := 1) (by rw [e161]; rfl) hzc (by decide)
  refine gw_putF (k := 31) (ty := 10) (ref := R_Model) (fty := .array .int) C hW o_t0 o163 (by decide) rfl gi_Model rfl (by decide) rfl rfl gk_617 tf_Model tf_Model_ok nm_Model rfl hin rfl rfl (fun _ => rfl) (fun _ => rfl) gd_Model_init_174 (fun u165 H locs e166 hW => ?_)
  have h := gf_nm_ok e166 h
  refine lv_aload_n hx hb gd_Model_init_177 rfl (lv_at hl 0 rfl) ?_
  refine lv_bipush (v := 60) hx hb gd_Model_init_178 (by decide) ?_
  obtain ⟨g172, h⟩ := gf_if_ok h
  refine gw_frW hW hh hzc (fun hF => ?_)
  refine gw_newz C hW (fun _ h => Or.inr h) hF gk_829 g172 (Nat.le_trans (m := 30) (by decide +kernel) hR.2.2.1) (Nat.le_trans (m := 135461) (by decide +kernel) hR.2.2.2) gd_Model_init_180 (fun z167 u168 H e169 e170 hW hF o171 hz9 => ?_)
  have h := gf_nm_ok e169 h
  have h := gf_nm_ok e170 h
  have o_t0 := hz9 _ _ o_t0
  have o21 := hz9 _ _ o21
  have o29 := hz9 _ _ o29
  have o37 := hz9 _ _ o37
  have o47 := hz9 _ _ o47
  have o55 := hz9 _ _ o55
  have o63 := hz9 _ _ o63
  have o71 := hz9 _ _ o71
  have o79 := hz9 _ _ o79
  have o87 := hz9 _ _ o87
  have o131 := hz9 _ _ o131
  have o139 := hz9 _ _ o139
  have o147 := hz9 _ _ o147
  have o155 := hz9 _ _ o155
  have o163 := hz9 _ _ o163
  have hz := fun p d h => hz9 p d (hz p d h)
  refine W.widen (k := 15) (n := 116124) (by decide +kernel) (by decide +kernel) ?_
  have hzc : z167.1 = z0.1 + 15 := gw_hzc (b := z159.1) (c := 1) (by rw [e169]; rfl) hzc (by decide)
  refine gw_putF (k := 32) (ty := 12) (ref := R_Model) (fty := .array .boolean) C hW o_t0 o171 (by decide) rfl gi_Model rfl (by decide) rfl rfl gk_599 tf_Model tf_Model_ok nm_Model rfl hin rfl rfl (fun _ => rfl) (fun _ => rfl) gd_Model_init_182 (fun u173 H locs e174 hW => ?_)
  have h := gf_nm_ok e174 h
  refine lv_aload_n hx hb gd_Model_init_185 rfl (lv_at hl 0 rfl) ?_
  refine lv_bipush (v := 60) hx hb gd_Model_init_186 (by decide) ?_
  obtain ⟨g180, h⟩ := gf_if_ok h
  refine gw_frW hW hh hzc (fun hF => ?_)
  refine gw_newi C hW (fun _ h => Or.inr h) hF gk_792 g180 (Nat.le_trans (m := 30) (by decide +kernel) hR.2.2.1) (Nat.le_trans (m := 135461) (by decide +kernel) hR.2.2.2) gd_Model_init_188 (fun z175 u176 H e177 e178 hW hF o179 hz9 => ?_)
  have h := gf_nm_ok e177 h
  have h := gf_nm_ok e178 h
  have o_t0 := hz9 _ _ o_t0
  have o21 := hz9 _ _ o21
  have o29 := hz9 _ _ o29
  have o37 := hz9 _ _ o37
  have o47 := hz9 _ _ o47
  have o55 := hz9 _ _ o55
  have o63 := hz9 _ _ o63
  have o71 := hz9 _ _ o71
  have o79 := hz9 _ _ o79
  have o87 := hz9 _ _ o87
  have o131 := hz9 _ _ o131
  have o139 := hz9 _ _ o139
  have o147 := hz9 _ _ o147
  have o155 := hz9 _ _ o155
  have o163 := hz9 _ _ o163
  have o171 := hz9 _ _ o171
  have hz := fun p d h => hz9 p d (hz p d h)
  refine W.widen (k := 16) (n := 116184) (by decide +kernel) (by decide +kernel) ?_
  have hzc : z175.1 = z0.1 + 16 := gw_hzc (b := z167.1) (c := 1) (by rw [e177]; rfl) hzc (by decide)
  refine gw_putF (k := 33) (ty := 10) (ref := R_Model) (fty := .array .int) C hW o_t0 o179 (by decide) rfl gi_Model rfl (by decide) rfl rfl gk_600 tf_Model tf_Model_ok nm_Model rfl hin rfl rfl (fun _ => rfl) (fun _ => rfl) gd_Model_init_190 (fun u181 H locs e182 hW => ?_)
  have h := gf_nm_ok e182 h
  refine lv_aload_n hx hb gd_Model_init_193 rfl (lv_at hl 0 rfl) ?_
  refine lv_sipush (v := 960) hx hb gd_Model_init_194 (by decide) ?_
  obtain ⟨g188, h⟩ := gf_if_ok h
  refine gw_frW hW hh hzc (fun hF => ?_)
  refine gw_newi C hW (fun _ h => Or.inr h) hF gk_792 g188 (Nat.le_trans (m := 30) (by decide +kernel) hR.2.2.1) (Nat.le_trans (m := 135461) (by decide +kernel) hR.2.2.2) gd_Model_init_197 (fun z183 u184 H e185 e186 hW hF o187 hz9 => ?_)
  have h := gf_nm_ok e185 h
  have h := gf_nm_ok e186 h
  have o_t0 := hz9 _ _ o_t0
  have o21 := hz9 _ _ o21
  have o29 := hz9 _ _ o29
  have o37 := hz9 _ _ o37
  have o47 := hz9 _ _ o47
  have o55 := hz9 _ _ o55
  have o63 := hz9 _ _ o63
  have o71 := hz9 _ _ o71
  have o79 := hz9 _ _ o79
  have o87 := hz9 _ _ o87
  have o131 := hz9 _ _ o131
  have o139 := hz9 _ _ o139
  have o147 := hz9 _ _ o147
  have o155 := hz9 _ _ o155
  have o163 := hz9 _ _ o163
  have o171 := hz9 _ _ o171
  have o179 := hz9 _ _ o179
  have hz := fun p d h => hz9 p d (hz p d h)
  refine W.widen (k := 17) (n := 117144) (by decide +kernel) (by decide +kernel) ?_
  have hzc : z183.1 = z0.1 + 17 := gw_hzc (b := z175.1) (c := 1) (by rw [e185]; rfl) hzc (by decide)
  refine gw_putF (k := 34) (ty := 10) (ref := R_Model) (fty := .array .int) C hW o_t0 o187 (by decide) rfl gi_Model rfl (by decide) rfl rfl gk_607 tf_Model tf_Model_ok nm_Model rfl hin rfl rfl (fun _ => rfl) (fun _ => rfl) gd_Model_init_199 (fun u189 H locs e190 hW => ?_)
  have h := gf_nm_ok e190 h
  refine lv_aload_n hx hb gd_Model_init_202 rfl (lv_at hl 0 rfl) ?_
  refine lv_sipush (v := 960) hx hb gd_Model_init_203 (by decide) ?_
  obtain ⟨g196, h⟩ := gf_if_ok h
  refine gw_frW hW hh hzc (fun hF => ?_)
  refine gw_newi C hW (fun _ h => Or.inr h) hF gk_792 g196 (Nat.le_trans (m := 30) (by decide +kernel) hR.2.2.1) (Nat.le_trans (m := 135461) (by decide +kernel) hR.2.2.2) gd_Model_init_206 (fun z191 u192 H e193 e194 hW hF o195 hz9 => ?_)
  have h := gf_nm_ok e193 h
  have h := gf_nm_ok e194 h
  have o_t0 := hz9 _ _ o_t0
  have o21 := hz9 _ _ o21
  have o29 := hz9 _ _ o29
  have o37 := hz9 _ _ o37
  have o47 := hz9 _ _ o47
  have o55 := hz9 _ _ o55
  have o63 := hz9 _ _ o63
  have o71 := hz9 _ _ o71
  have o79 := hz9 _ _ o79
  have o87 := hz9 _ _ o87
  have o131 := hz9 _ _ o131
  have o139 := hz9 _ _ o139
  have o147 := hz9 _ _ o147
  have o155 := hz9 _ _ o155
  have o163 := hz9 _ _ o163
  have o171 := hz9 _ _ o171
  have o179 := hz9 _ _ o179
  have o187 := hz9 _ _ o187
  have hz := fun p d h => hz9 p d (hz p d h)
  refine W.widen (k := 18) (n := 118104) (by decide +kernel) (by decide +kernel) ?_
  have hzc : z191.1 = z0.1 + 18 := gw_hzc (b := z183.1) (c := 1) (by rw [e193]; rfl) hzc (by decide)
  refine gw_putF (k := 35) (ty := 10) (ref := R_Model) (fty := .array .int) C hW o_t0 o195 (by decide) rfl gi_Model rfl (by decide) rfl rfl gk_611 tf_Model tf_Model_ok nm_Model rfl hin rfl rfl (fun _ => rfl) (fun _ => rfl) gd_Model_init_208 (fun u197 H locs e198 hW => ?_)
  have h := gf_nm_ok e198 h
  refine lv_aload_n hx hb gd_Model_init_211 rfl (lv_at hl 0 rfl) ?_
  refine lv_bipush (v := 16) hx hb gd_Model_init_212 (by decide) ?_
  obtain ⟨g204, h⟩ := gf_if_ok h
  refine gw_frW hW hh hzc (fun hF => ?_)
  refine gw_newi C hW (fun _ h => Or.inr h) hF gk_792 g204 (Nat.le_trans (m := 30) (by decide +kernel) hR.2.2.1) (Nat.le_trans (m := 135461) (by decide +kernel) hR.2.2.2) gd_Model_init_214 (fun z199 u200 H e201 e202 hW hF o203 hz9 => ?_)
  have h := gf_nm_ok e201 h
  have h := gf_nm_ok e202 h
  have o_t0 := hz9 _ _ o_t0
  have o21 := hz9 _ _ o21
  have o29 := hz9 _ _ o29
  have o37 := hz9 _ _ o37
  have o47 := hz9 _ _ o47
  have o55 := hz9 _ _ o55
  have o63 := hz9 _ _ o63
  have o71 := hz9 _ _ o71
  have o79 := hz9 _ _ o79
  have o87 := hz9 _ _ o87
  have o131 := hz9 _ _ o131
  have o139 := hz9 _ _ o139
  have o147 := hz9 _ _ o147
  have o155 := hz9 _ _ o155
  have o163 := hz9 _ _ o163
  have o171 := hz9 _ _ o171
  have o179 := hz9 _ _ o179
  have o187 := hz9 _ _ o187
  have o195 := hz9 _ _ o195
  have hz := fun p d h => hz9 p d (hz p d h)
  refine W.widen (k := 19) (n := 118120) (by decide +kernel) (by decide +kernel) ?_
  have hzc : z199.1 = z0.1 + 19 := gw_hzc (b := z191.1) (c := 1) (by rw [e201]; rfl) hzc (by decide)
  refine gw_putF (k := 36) (ty := 10) (ref := R_Model) (fty := .array .int) C hW o_t0 o203 (by decide) rfl gi_Model rfl (by decide) rfl rfl gk_635 tf_Model tf_Model_ok nm_Model rfl hin rfl rfl (fun _ => rfl) (fun _ => rfl) gd_Model_init_216 (fun u205 H locs e206 hW => ?_)
  have h := gf_nm_ok e206 h
  refine lv_aload_n hx hb gd_Model_init_219 rfl (lv_at hl 0 rfl) ?_
  refine lv_bipush (v := 16) hx hb gd_Model_init_220 (by decide) ?_
  obtain ⟨g212, h⟩ := gf_if_ok h
  refine gw_frW hW hh hzc (fun hF => ?_)
  refine gw_newi C hW (fun _ h => Or.inr h) hF gk_792 g212 (Nat.le_trans (m := 30) (by decide +kernel) hR.2.2.1) (Nat.le_trans (m := 135461) (by decide +kernel) hR.2.2.2) gd_Model_init_222 (fun z207 u208 H e209 e210 hW hF o211 hz9 => ?_)
  have h := gf_nm_ok e209 h
  have h := gf_nm_ok e210 h
  have o_t0 := hz9 _ _ o_t0
  have o21 := hz9 _ _ o21
  have o29 := hz9 _ _ o29
  have o37 := hz9 _ _ o37
  have o47 := hz9 _ _ o47
  have o55 := hz9 _ _ o55
  have o63 := hz9 _ _ o63
  have o71 := hz9 _ _ o71
  have o79 := hz9 _ _ o79
  have o87 := hz9 _ _ o87
  have o131 := hz9 _ _ o131
  have o139 := hz9 _ _ o139
  have o147 := hz9 _ _ o147
  have o155 := hz9 _ _ o155
  have o163 := hz9 _ _ o163
  have o171 := hz9 _ _ o171
  have o179 := hz9 _ _ o179
  have o187 := hz9 _ _ o187
  have o195 := hz9 _ _ o195
  have o203 := hz9 _ _ o203
  have hz := fun p d h => hz9 p d (hz p d h)
  refine W.widen (k := 20) (n := 118136) (by decide +kernel) (by decide +kernel) ?_
  have hzc : z207.1 = z0.1 + 20 := gw_hzc (b := z199.1) (c := 1) (by rw [e209]; rfl) hzc (by decide)
  refine gw_putF (k := 37) (ty := 10) (ref := R_Model) (fty := .array .int) C hW o_t0 o211 (by decide) rfl gi_Model rfl (by decide) rfl rfl gk_636 tf_Model tf_Model_ok nm_Model rfl hin rfl rfl (fun _ => rfl) (fun _ => rfl) gd_Model_init_224 (fun u213 H locs e214 hW => ?_)
  have h := gf_nm_ok e214 h
  refine lv_aload_n hx hb gd_Model_init_227 rfl (lv_at hl 0 rfl) ?_
  refine lv_bipush (v := 70) hx hb gd_Model_init_228 (by decide) ?_
  obtain ⟨g220, h⟩ := gf_if_ok h
  refine gw_frW hW hh hzc (fun hF => ?_)
  refine gw_newi C hW (fun _ h => Or.inr h) hF gk_792 g220 (Nat.le_trans (m := 30) (by decide +kernel) hR.2.2.1) (Nat.le_trans (m := 135461) (by decide +kernel) hR.2.2.2) gd_Model_init_230 (fun z215 u216 H e217 e218 hW hF o219 hz9 => ?_)
  have h := gf_nm_ok e217 h
  have h := gf_nm_ok e218 h
  have o_t0 := hz9 _ _ o_t0
  have o21 := hz9 _ _ o21
  have o29 := hz9 _ _ o29
  have o37 := hz9 _ _ o37
  have o47 := hz9 _ _ o47
  have o55 := hz9 _ _ o55
  have o63 := hz9 _ _ o63
  have o71 := hz9 _ _ o71
  have o79 := hz9 _ _ o79
  have o87 := hz9 _ _ o87
  have o131 := hz9 _ _ o131
  have o139 := hz9 _ _ o139
  have o147 := hz9 _ _ o147
  have o155 := hz9 _ _ o155
  have o163 := hz9 _ _ o163
  have o171 := hz9 _ _ o171
  have o179 := hz9 _ _ o179
  have o187 := hz9 _ _ o187
  have o195 := hz9 _ _ o195
  have o203 := hz9 _ _ o203
  have o211 := hz9 _ _ o211
  have hz := fun p d h => hz9 p d (hz p d h)
  refine W.widen (k := 21) (n := 118206) (by decide +kernel) (by decide +kernel) ?_
  have hzc : z215.1 = z0.1 + 21 := gw_hzc (b := z207.1) (c := 1) (by rw [e217]; rfl) hzc (by decide)
  refine gw_putF (k := 38) (ty := 10) (ref := R_Model) (fty := .array .int) C hW o_t0 o219 (by decide) rfl gi_Model rfl (by decide) rfl rfl gk_524 tf_Model tf_Model_ok nm_Model rfl hin rfl rfl (fun _ => rfl) (fun _ => rfl) gd_Model_init_232 (fun u221 H locs e222 hW => ?_)
  have h := gf_nm_ok e222 h
  refine lv_aload_n hx hb gd_Model_init_235 rfl (lv_at hl 0 rfl) ?_
  refine lv_sipush (v := 7381) hx hb gd_Model_init_236 (by decide) ?_
  obtain ⟨g228, h⟩ := gf_if_ok h
  refine gw_frW hW hh hzc (fun hF => ?_)
  refine gw_newl C hW (fun _ h => Or.inr h) hF gk_806 g228 (Nat.le_trans (m := 30) (by decide +kernel) hR.2.2.1) (Nat.le_trans (m := 135461) (by decide +kernel) hR.2.2.2) gd_Model_init_239 (fun z223 u224 H e225 e226 hW hF o227 hz9 => ?_)
  have h := gf_nm_ok e225 h
  have h := gf_nm_ok e226 h
  have o_t0 := hz9 _ _ o_t0
  have o21 := hz9 _ _ o21
  have o29 := hz9 _ _ o29
  have o37 := hz9 _ _ o37
  have o47 := hz9 _ _ o47
  have o55 := hz9 _ _ o55
  have o63 := hz9 _ _ o63
  have o71 := hz9 _ _ o71
  have o79 := hz9 _ _ o79
  have o87 := hz9 _ _ o87
  have o131 := hz9 _ _ o131
  have o139 := hz9 _ _ o139
  have o147 := hz9 _ _ o147
  have o155 := hz9 _ _ o155
  have o163 := hz9 _ _ o163
  have o171 := hz9 _ _ o171
  have o179 := hz9 _ _ o179
  have o187 := hz9 _ _ o187
  have o195 := hz9 _ _ o195
  have o203 := hz9 _ _ o203
  have o211 := hz9 _ _ o211
  have o219 := hz9 _ _ o219
  have hz := fun p d h => hz9 p d (hz p d h)
  refine W.widen (k := 22) (n := 125587) (by decide +kernel) (by decide +kernel) ?_
  have hzc : z223.1 = z0.1 + 22 := gw_hzc (b := z215.1) (c := 1) (by rw [e225]; rfl) hzc (by decide)
  refine gw_putF (k := 39) (ty := 11) (ref := R_Model) (fty := .array .long) C hW o_t0 o227 (by decide) rfl gi_Model rfl (by decide) rfl rfl gk_498 tf_Model tf_Model_ok nm_Model rfl hin rfl rfl (fun _ => rfl) (fun _ => rfl) gd_Model_init_241 (fun u229 H locs e230 hW => ?_)
  have h := gf_nm_ok e230 h
  refine lv_aload_n hx hb gd_Model_init_244 rfl (lv_at hl 0 rfl) ?_
  refine lv_bipush (v := 121) hx hb gd_Model_init_245 (by decide) ?_
  obtain ⟨g236, h⟩ := gf_if_ok h
  refine gw_frW hW hh hzc (fun hF => ?_)
  refine gw_newi C hW (fun _ h => Or.inr h) hF gk_792 g236 (Nat.le_trans (m := 30) (by decide +kernel) hR.2.2.1) (Nat.le_trans (m := 135461) (by decide +kernel) hR.2.2.2) gd_Model_init_247 (fun z231 u232 H e233 e234 hW hF o235 hz9 => ?_)
  have h := gf_nm_ok e233 h
  have h := gf_nm_ok e234 h
  have o_t0 := hz9 _ _ o_t0
  have o21 := hz9 _ _ o21
  have o29 := hz9 _ _ o29
  have o37 := hz9 _ _ o37
  have o47 := hz9 _ _ o47
  have o55 := hz9 _ _ o55
  have o63 := hz9 _ _ o63
  have o71 := hz9 _ _ o71
  have o79 := hz9 _ _ o79
  have o87 := hz9 _ _ o87
  have o131 := hz9 _ _ o131
  have o139 := hz9 _ _ o139
  have o147 := hz9 _ _ o147
  have o155 := hz9 _ _ o155
  have o163 := hz9 _ _ o163
  have o171 := hz9 _ _ o171
  have o179 := hz9 _ _ o179
  have o187 := hz9 _ _ o187
  have o195 := hz9 _ _ o195
  have o203 := hz9 _ _ o203
  have o211 := hz9 _ _ o211
  have o219 := hz9 _ _ o219
  have o227 := hz9 _ _ o227
  have hz := fun p d h => hz9 p d (hz p d h)
  refine W.widen (k := 23) (n := 125708) (by decide +kernel) (by decide +kernel) ?_
  have hzc : z231.1 = z0.1 + 23 := gw_hzc (b := z223.1) (c := 1) (by rw [e233]; rfl) hzc (by decide)
  refine gw_putF (k := 40) (ty := 10) (ref := R_Model) (fty := .array .int) C hW o_t0 o235 (by decide) rfl gi_Model rfl (by decide) rfl rfl gk_500 tf_Model tf_Model_ok nm_Model rfl hin rfl rfl (fun _ => rfl) (fun _ => rfl) gd_Model_init_249 (fun u237 H locs e238 hW => ?_)
  have h := gf_nm_ok e238 h
  refine lv_aload_n hx hb gd_Model_init_252 rfl (lv_at hl 0 rfl) ?_
  refine lv_bipush (v := 61) hx hb gd_Model_init_253 (by decide) ?_
  obtain ⟨g244, h⟩ := gf_if_ok h
  refine gw_frW hW hh hzc (fun hF => ?_)
  refine gw_newl C hW (fun _ h => Or.inr h) hF gk_806 g244 (Nat.le_trans (m := 30) (by decide +kernel) hR.2.2.1) (Nat.le_trans (m := 135461) (by decide +kernel) hR.2.2.2) gd_Model_init_255 (fun z239 u240 H e241 e242 hW hF o243 hz9 => ?_)
  have h := gf_nm_ok e241 h
  have h := gf_nm_ok e242 h
  have o_t0 := hz9 _ _ o_t0
  have o21 := hz9 _ _ o21
  have o29 := hz9 _ _ o29
  have o37 := hz9 _ _ o37
  have o47 := hz9 _ _ o47
  have o55 := hz9 _ _ o55
  have o63 := hz9 _ _ o63
  have o71 := hz9 _ _ o71
  have o79 := hz9 _ _ o79
  have o87 := hz9 _ _ o87
  have o131 := hz9 _ _ o131
  have o139 := hz9 _ _ o139
  have o147 := hz9 _ _ o147
  have o155 := hz9 _ _ o155
  have o163 := hz9 _ _ o163
  have o171 := hz9 _ _ o171
  have o179 := hz9 _ _ o179
  have o187 := hz9 _ _ o187
  have o195 := hz9 _ _ o195
  have o203 := hz9 _ _ o203
  have o211 := hz9 _ _ o211
  have o219 := hz9 _ _ o219
  have o227 := hz9 _ _ o227
  have o235 := hz9 _ _ o235
  have hz := fun p d h => hz9 p d (hz p d h)
  refine W.widen (k := 24) (n := 125769) (by decide +kernel) (by decide +kernel) ?_
  have hzc : z239.1 = z0.1 + 24 := gw_hzc (b := z231.1) (c := 1) (by rw [e241]; rfl) hzc (by decide)
  refine gw_putF (k := 42) (ty := 11) (ref := R_Model) (fty := .array .long) C hW o_t0 o243 (by decide) rfl gi_Model rfl (by decide) rfl rfl gk_487 tf_Model tf_Model_ok nm_Model rfl hin rfl rfl (fun _ => rfl) (fun _ => rfl) gd_Model_init_257 (fun u245 H locs e246 hW => ?_)
  have h := gf_nm_ok e246 h
  refine lv_aload_n hx hb gd_Model_init_260 rfl (lv_at hl 0 rfl) ?_
  refine lv_bipush (v := 121) hx hb gd_Model_init_261 (by decide) ?_
  obtain ⟨g252, h⟩ := gf_if_ok h
  refine gw_frW hW hh hzc (fun hF => ?_)
  refine gw_newi C hW (fun _ h => Or.inr h) hF gk_792 g252 (Nat.le_trans (m := 30) (by decide +kernel) hR.2.2.1) (Nat.le_trans (m := 135461) (by decide +kernel) hR.2.2.2) gd_Model_init_263 (fun z247 u248 H e249 e250 hW hF o251 hz9 => ?_)
  have h := gf_nm_ok e249 h
  have h := gf_nm_ok e250 h
  have o_t0 := hz9 _ _ o_t0
  have o21 := hz9 _ _ o21
  have o29 := hz9 _ _ o29
  have o37 := hz9 _ _ o37
  have o47 := hz9 _ _ o47
  have o55 := hz9 _ _ o55
  have o63 := hz9 _ _ o63
  have o71 := hz9 _ _ o71
  have o79 := hz9 _ _ o79
  have o87 := hz9 _ _ o87
  have o131 := hz9 _ _ o131
  have o139 := hz9 _ _ o139
  have o147 := hz9 _ _ o147
  have o155 := hz9 _ _ o155
  have o163 := hz9 _ _ o163
  have o171 := hz9 _ _ o171
  have o179 := hz9 _ _ o179
  have o187 := hz9 _ _ o187
  have o195 := hz9 _ _ o195
  have o203 := hz9 _ _ o203
  have o211 := hz9 _ _ o211
  have o219 := hz9 _ _ o219
  have o227 := hz9 _ _ o227
  have o235 := hz9 _ _ o235
  have o243 := hz9 _ _ o243
  have hz := fun p d h => hz9 p d (hz p d h)
  refine W.widen (k := 25) (n := 125890) (by decide +kernel) (by decide +kernel) ?_
  have hzc : z247.1 = z0.1 + 25 := gw_hzc (b := z239.1) (c := 1) (by rw [e249]; rfl) hzc (by decide)
  refine gw_putF (k := 43) (ty := 10) (ref := R_Model) (fty := .array .int) C hW o_t0 o251 (by decide) rfl gi_Model rfl (by decide) rfl rfl gk_513 tf_Model tf_Model_ok nm_Model rfl hin rfl rfl (fun _ => rfl) (fun _ => rfl) gd_Model_init_265 (fun u253 H locs e254 hW => ?_)
  have h := gf_nm_ok e254 h
  refine lv_aload_n hx hb gd_Model_init_268 rfl (lv_at hl 0 rfl) ?_
  refine lv_bipush (v := 121) hx hb gd_Model_init_269 (by decide) ?_
  obtain ⟨g260, h⟩ := gf_if_ok h
  refine gw_frW hW hh hzc (fun hF => ?_)
  refine gw_newi C hW (fun _ h => Or.inr h) hF gk_792 g260 (Nat.le_trans (m := 30) (by decide +kernel) hR.2.2.1) (Nat.le_trans (m := 135461) (by decide +kernel) hR.2.2.2) gd_Model_init_271 (fun z255 u256 H e257 e258 hW hF o259 hz9 => ?_)
  have h := gf_nm_ok e257 h
  have h := gf_nm_ok e258 h
  have o_t0 := hz9 _ _ o_t0
  have o21 := hz9 _ _ o21
  have o29 := hz9 _ _ o29
  have o37 := hz9 _ _ o37
  have o47 := hz9 _ _ o47
  have o55 := hz9 _ _ o55
  have o63 := hz9 _ _ o63
  have o71 := hz9 _ _ o71
  have o79 := hz9 _ _ o79
  have o87 := hz9 _ _ o87
  have o131 := hz9 _ _ o131
  have o139 := hz9 _ _ o139
  have o147 := hz9 _ _ o147
  have o155 := hz9 _ _ o155
  have o163 := hz9 _ _ o163
  have o171 := hz9 _ _ o171
  have o179 := hz9 _ _ o179
  have o187 := hz9 _ _ o187
  have o195 := hz9 _ _ o195
  have o203 := hz9 _ _ o203
  have o211 := hz9 _ _ o211
  have o219 := hz9 _ _ o219
  have o227 := hz9 _ _ o227
  have o235 := hz9 _ _ o235
  have o243 := hz9 _ _ o243
  have o251 := hz9 _ _ o251
  have hz := fun p d h => hz9 p d (hz p d h)
  refine W.widen (k := 26) (n := 126011) (by decide +kernel) (by decide +kernel) ?_
  have hzc : z255.1 = z0.1 + 26 := gw_hzc (b := z247.1) (c := 1) (by rw [e257]; rfl) hzc (by decide)
  refine gw_putF (k := 44) (ty := 10) (ref := R_Model) (fty := .array .int) C hW o_t0 o259 (by decide) rfl gi_Model rfl (by decide) rfl rfl gk_506 tf_Model tf_Model_ok nm_Model rfl hin rfl rfl (fun _ => rfl) (fun _ => rfl) gd_Model_init_273 (fun u261 H locs e262 hW => ?_)
  have h := gf_nm_ok e262 h
  refine lv_aload_n hx hb gd_Model_init_276 rfl (lv_at hl 0 rfl) ?_
  refine lv_bipush (v := 70) hx hb gd_Model_init_277 (by decide) ?_
  obtain ⟨g268, h⟩ := gf_if_ok h
  refine gw_frW hW hh hzc (fun hF => ?_)
  refine gw_newz C hW (fun _ h => Or.inr h) hF gk_829 g268 (Nat.le_trans (m := 30) (by decide +kernel) hR.2.2.1) (Nat.le_trans (m := 135461) (by decide +kernel) hR.2.2.2) gd_Model_init_279 (fun z263 u264 H e265 e266 hW hF o267 hz9 => ?_)
  have h := gf_nm_ok e265 h
  have h := gf_nm_ok e266 h
  have o_t0 := hz9 _ _ o_t0
  have o21 := hz9 _ _ o21
  have o29 := hz9 _ _ o29
  have o37 := hz9 _ _ o37
  have o47 := hz9 _ _ o47
  have o55 := hz9 _ _ o55
  have o63 := hz9 _ _ o63
  have o71 := hz9 _ _ o71
  have o79 := hz9 _ _ o79
  have o87 := hz9 _ _ o87
  have o131 := hz9 _ _ o131
  have o139 := hz9 _ _ o139
  have o147 := hz9 _ _ o147
  have o155 := hz9 _ _ o155
  have o163 := hz9 _ _ o163
  have o171 := hz9 _ _ o171
  have o179 := hz9 _ _ o179
  have o187 := hz9 _ _ o187
  have o195 := hz9 _ _ o195
  have o203 := hz9 _ _ o203
  have o211 := hz9 _ _ o211
  have o219 := hz9 _ _ o219
  have o227 := hz9 _ _ o227
  have o235 := hz9 _ _ o235
  have o243 := hz9 _ _ o243
  have o251 := hz9 _ _ o251
  have o259 := hz9 _ _ o259
  have hz := fun p d h => hz9 p d (hz p d h)
  refine W.widen (k := 27) (n := 126081) (by decide +kernel) (by decide +kernel) ?_
  have hzc : z263.1 = z0.1 + 27 := gw_hzc (b := z255.1) (c := 1) (by rw [e265]; rfl) hzc (by decide)
  refine gw_putF (k := 45) (ty := 12) (ref := R_Model) (fty := .array .boolean) C hW o_t0 o267 (by decide) rfl gi_Model rfl (by decide) rfl rfl gk_523 tf_Model tf_Model_ok nm_Model rfl hin rfl rfl (fun _ => rfl) (fun _ => rfl) gd_Model_init_281 (fun u269 H locs e270 hW => ?_)
  have h := gf_nm_ok e270 h
  refine lv_aload_n hx hb gd_Model_init_284 rfl (lv_at hl 0 rfl) ?_
  refine lv_bipush (v := 60) hx hb gd_Model_init_285 (by decide) ?_
  obtain ⟨g276, h⟩ := gf_if_ok h
  refine gw_frW hW hh hzc (fun hF => ?_)
  refine gw_newz C hW (fun _ h => Or.inr h) hF gk_829 g276 (Nat.le_trans (m := 30) (by decide +kernel) hR.2.2.1) (Nat.le_trans (m := 135461) (by decide +kernel) hR.2.2.2) gd_Model_init_287 (fun z271 u272 H e273 e274 hW hF o275 hz9 => ?_)
  have h := gf_nm_ok e273 h
  have h := gf_nm_ok e274 h
  have o_t0 := hz9 _ _ o_t0
  have o21 := hz9 _ _ o21
  have o29 := hz9 _ _ o29
  have o37 := hz9 _ _ o37
  have o47 := hz9 _ _ o47
  have o55 := hz9 _ _ o55
  have o63 := hz9 _ _ o63
  have o71 := hz9 _ _ o71
  have o79 := hz9 _ _ o79
  have o87 := hz9 _ _ o87
  have o131 := hz9 _ _ o131
  have o139 := hz9 _ _ o139
  have o147 := hz9 _ _ o147
  have o155 := hz9 _ _ o155
  have o163 := hz9 _ _ o163
  have o171 := hz9 _ _ o171
  have o179 := hz9 _ _ o179
  have o187 := hz9 _ _ o187
  have o195 := hz9 _ _ o195
  have o203 := hz9 _ _ o203
  have o211 := hz9 _ _ o211
  have o219 := hz9 _ _ o219
  have o227 := hz9 _ _ o227
  have o235 := hz9 _ _ o235
  have o243 := hz9 _ _ o243
  have o251 := hz9 _ _ o251
  have o259 := hz9 _ _ o259
  have o267 := hz9 _ _ o267
  have hz := fun p d h => hz9 p d (hz p d h)
  refine W.widen (k := 28) (n := 126141) (by decide +kernel) (by decide +kernel) ?_
  have hzc : z271.1 = z0.1 + 28 := gw_hzc (b := z263.1) (c := 1) (by rw [e273]; rfl) hzc (by decide)
  refine gw_putF (k := 46) (ty := 12) (ref := R_Model) (fty := .array .boolean) C hW o_t0 o275 (by decide) rfl gi_Model rfl (by decide) rfl rfl gk_522 tf_Model tf_Model_ok nm_Model rfl hin rfl rfl (fun _ => rfl) (fun _ => rfl) gd_Model_init_289 (fun u277 H locs e278 hW => ?_)
  have h := gf_nm_ok e278 h
  refine lv_aload_n hx hb gd_Model_init_292 rfl (lv_at hl 0 rfl) ?_
  refine lv_sipush (v := 4200) hx hb gd_Model_init_293 (by decide) ?_
  obtain ⟨g284, h⟩ := gf_if_ok h
  refine gw_frW hW hh hzc (fun hF => ?_)
  refine gw_newl C hW (fun _ h => Or.inr h) hF gk_806 g284 (Nat.le_trans (m := 30) (by decide +kernel) hR.2.2.1) (Nat.le_trans (m := 135461) (by decide +kernel) hR.2.2.2) gd_Model_init_296 (fun z279 u280 H e281 e282 hW hF o283 hz9 => ?_)
  have h := gf_nm_ok e281 h
  have h := gf_nm_ok e282 h
  have o_t0 := hz9 _ _ o_t0
  have o21 := hz9 _ _ o21
  have o29 := hz9 _ _ o29
  have o37 := hz9 _ _ o37
  have o47 := hz9 _ _ o47
  have o55 := hz9 _ _ o55
  have o63 := hz9 _ _ o63
  have o71 := hz9 _ _ o71
  have o79 := hz9 _ _ o79
  have o87 := hz9 _ _ o87
  have o131 := hz9 _ _ o131
  have o139 := hz9 _ _ o139
  have o147 := hz9 _ _ o147
  have o155 := hz9 _ _ o155
  have o163 := hz9 _ _ o163
  have o171 := hz9 _ _ o171
  have o179 := hz9 _ _ o179
  have o187 := hz9 _ _ o187
  have o195 := hz9 _ _ o195
  have o203 := hz9 _ _ o203
  have o211 := hz9 _ _ o211
  have o219 := hz9 _ _ o219
  have o227 := hz9 _ _ o227
  have o235 := hz9 _ _ o235
  have o243 := hz9 _ _ o243
  have o251 := hz9 _ _ o251
  have o259 := hz9 _ _ o259
  have o267 := hz9 _ _ o267
  have o275 := hz9 _ _ o275
  have hz := fun p d h => hz9 p d (hz p d h)
  refine W.widen (k := 29) (n := 130341) (by decide +kernel) (by decide +kernel) ?_
  have hzc : z279.1 = z0.1 + 29 := gw_hzc (b := z271.1) (c := 1) (by rw [e281]; rfl) hzc (by decide)
  refine gw_putF (k := 47) (ty := 11) (ref := R_Model) (fty := .array .long) C hW o_t0 o283 (by decide) rfl gi_Model rfl (by decide) rfl rfl gk_521 tf_Model tf_Model_ok nm_Model rfl hin rfl rfl (fun _ => rfl) (fun _ => rfl) gd_Model_init_298 (fun u285 H locs e286 hW => ?_)
  have h := gf_nm_ok e286 h
  refine lv_aload_n hx hb gd_Model_init_301 rfl (lv_at hl 0 rfl) ?_
  refine lv_sipush (v := 5120) hx hb gd_Model_init_302 (by decide) ?_
  obtain ⟨g292, h⟩ := gf_if_ok h
  refine gw_frW hW hh hzc (fun hF => ?_)
  refine gw_newl C hW (fun _ h => Or.inr h) hF gk_806 g292 (Nat.le_trans (m := 30) (by decide +kernel) hR.2.2.1) (Nat.le_trans (m := 135461) (by decide +kernel) hR.2.2.2) gd_Model_init_305 (fun z287 u288 H e289 e290 hW hF o291 hz9 => ?_)
  have h := gf_nm_ok e289 h
  have h := gf_nm_ok e290 h
  have o_t0 := hz9 _ _ o_t0
  have o21 := hz9 _ _ o21
  have o29 := hz9 _ _ o29
  have o37 := hz9 _ _ o37
  have o47 := hz9 _ _ o47
  have o55 := hz9 _ _ o55
  have o63 := hz9 _ _ o63
  have o71 := hz9 _ _ o71
  have o79 := hz9 _ _ o79
  have o87 := hz9 _ _ o87
  have o131 := hz9 _ _ o131
  have o139 := hz9 _ _ o139
  have o147 := hz9 _ _ o147
  have o155 := hz9 _ _ o155
  have o163 := hz9 _ _ o163
  have o171 := hz9 _ _ o171
  have o179 := hz9 _ _ o179
  have o187 := hz9 _ _ o187
  have o195 := hz9 _ _ o195
  have o203 := hz9 _ _ o203
  have o211 := hz9 _ _ o211
  have o219 := hz9 _ _ o219
  have o227 := hz9 _ _ o227
  have o235 := hz9 _ _ o235
  have o243 := hz9 _ _ o243
  have o251 := hz9 _ _ o251
  have o259 := hz9 _ _ o259
  have o267 := hz9 _ _ o267
  have o275 := hz9 _ _ o275
  have o283 := hz9 _ _ o283
  have hz := fun p d h => hz9 p d (hz p d h)
  refine W.widen (k := 30) (n := 135461) (by decide +kernel) (by decide +kernel) ?_
  have hzc : z287.1 = z0.1 + 30 := gw_hzc (b := z279.1) (c := 1) (by rw [e289]; rfl) hzc (by decide)
  refine gw_putF (k := 48) (ty := 11) (ref := R_Model) (fty := .array .long) C hW o_t0 o291 (by decide) rfl gi_Model rfl (by decide) rfl rfl gk_526 tf_Model tf_Model_ok nm_Model rfl hin rfl rfl (fun _ => rfl) (fun _ => rfl) gd_Model_init_307 (fun u293 H locs e294 hW => ?_)
  have h := gf_nm_ok e294 h
  refine lv_aload_n hx hb gd_Model_init_310 rfl (lv_at hl 0 rfl) ?_
  obtain ⟨q295, e296, h⟩ := gf_nn_ok h
  refine gw_getr (k := 37) (ty := 10) (ref := R_Model) C hW o_t0 (by decide) rfl gi_Model rfl (by decide) rfl rfl gk_636 gd_Model_init_311 e296 ?_
  have o_q295 := hW.ref (d := 10) o_t0 e296 rfl
  refine lv_iconst (v := 0) hx hb gd_Model_init_314 (by decide) ?_
  refine lv_iconst (v := 1) hx hb gd_Model_init_315 (by decide) ?_
  obtain ⟨g297, h⟩ := gf_if_ok h
  refine gw_iast C hW o_q295 g297 gd_Model_init_316 (fun u298 H locs e299 hW => ?_)
  have h := gf_nm_ok e299 h
  refine lv_ldc (v := 2147483647) hx hb hown (hts _ gk_830) gd_Model_init_317 ?_
  refine lv_istore_n (lv' := [(1, .int 2147483647), (0, .ref (hs t0))]) hx hb gd_Model_init_319 rfl hl (by decide) rfl (fun ls hl => ?_)
  refine lv_iconst (v := 0) hx hb gd_Model_init_320 (by decide) ?_
  refine lv_istore_n (lv' := [(2, .int 0), (1, .int 2147483647), (0, .ref (hs t0))]) hx hb gd_Model_init_321 rfl hl (by decide) rfl (fun ls hl => ?_)
  exact gx_Model_init_L322 F C hr hk hin hAO hR hh hz hzc  F u298 t0 2147483647 0 _ _ _ o_t0 hW (lv_sub hl [2, 1, 0] rfl) h

set_option maxRecDepth 20000 in
theorem gc_Model_init (l : Launch) {D : va_G} {cA : Nat → ClassId} {hs : Nat → Nat} {z : gw_Sh} (F : Nat) {u : gw_St} {r0 : gw_Sh × gw_St} {t0 : Nat} (o_t0 : gw_ok z t0 9) (h : gf_Model_init F z u t0 = some r0) (sz : Nat) (hh : ∀ j, hs (z.1 + j) = sz + j) : gw_Mc l gy_Model_init gb_Model_init 3 (gw_rc 2 86 30 135461) [.ref (hs t0)] D cA hs z u sz 30 135461 r0 := by
  refine gw_enterC (by decide) (Nat.le_of_ble_eq_true rfl) hh ?_
  intro p e s m below meth c ls hsz C hW hh hAO hr hk hin hl
  subst hsz
  exact gx_Model_init_b0 F C hr hk hin hAO (gw_rc_ok 2 86 30 135461) hh (fun _ _ h => h) rfl u t0 o_t0 hW (lv_sub hl [0] rfl) h
