theorem dX10_isMethod_0 : decode cX10_isMethod 0 = .ok (.iload_n 1, 1) := by decide +kernel
theorem dX10_isMethod_1 : decode cX10_isMethod 1 = .ok (.iconst 0, 1) := by decide +kernel
theorem dX10_isMethod_2 : decode cX10_isMethod 2 = .ok (.aload_n 0, 1) := by decide +kernel
theorem dX10_isMethod_3 : decode cX10_isMethod 3 = .ok (.getfield 7, 3) := by decide +kernel
theorem dX10_isMethod_6 : decode cX10_isMethod 6 = .ok (.sipush 761, 3) := by decide +kernel
theorem dX10_isMethod_9 : decode cX10_isMethod 9 = .ok (.iaload, 1) := by decide +kernel
theorem dX10_isMethod_10 : decode cX10_isMethod 10 = .ok (.iconst 1, 1) := by decide +kernel
theorem dX10_isMethod_11 : decode cX10_isMethod 11 = .ok (.isub, 1) := by decide +kernel
theorem dX10_isMethod_12 : decode cX10_isMethod 12 = .ok (.invokestatic 135, 3) := by decide +kernel
theorem dX10_isMethod_15 : decode cX10_isMethod 15 = .ok (.ireturn, 1) := by decide +kernel
set_option maxHeartbeats 4000000 in
set_option maxRecDepth 10000 in
theorem vX10_isMethod_0 {l : Launch} {M : sl_M} {Q : sl_R} {x1 : Int} (H : sl_RM M → sl_rg x1 → (sl_rg (M 1 1 761 - 1)) ∧ Q (some (vI (if 0 ≤ x1 ∧ x1 ≤ (M 1 1 761 - 1) then 1 else 0))) M) : sl_At l mX10_isMethod 0 [(0, vR 1 0), (1, vI x1)] [] M Q := by
  refine sl_At.in (fun hM hls => ?_)
  have g1 : sl_rg x1 := hls _ (List.mem_of_getElem? (i := 1) rfl)
  have H := H hM g1
  refine r_iload_n (k := 1) rfl rfl dX10_isMethod_0 ?_
  refine r_iconst dX10_isMethod_1 ?_
  refine r_aload_n (k := 0) rfl rfl dX10_isMethod_2 ?_
  refine r_getR (k := 0) (o' := 1) (i' := 1) ckX10 rfl rfl (by decide) rfl rfl rfl fl_X10_7 dX10_isMethod_3 ?_
  refine r_sipush dX10_isMethod_6 (by decide) ?_
  refine r_iald rfl rfl rfl ⟨by decide, by decide⟩ dX10_isMethod_9 ?_
  refine r_iconst dX10_isMethod_10 ?_
  refine r_isub dX10_isMethod_11 ?_
  obtain ⟨c1, H⟩ := H
  refine r_callS (g := mX10_in) rfl mkX10_in msX10_in ml_X10_135 ⟨by decide, by decide⟩ rfl (Nat.le_of_ble_eq_true rfl) rfl (ok_i g1 (ok_i ⟨by decide, by decide⟩ (ok_i c1 ok_n))) dX10_isMethod_12 (sl_afterI (sl_RI.by kX10_in ?_))
  refine r_zret rfl b_01 dX10_isMethod_15 ?_
  exact H
theorem eX10_isMethod {l : Launch} {M : sl_M} {Q : sl_R} {x1 : Int} (k : sl_At l mX10_isMethod 0 [(0, vR 1 0), (1, vI x1)] [] M Q) : sl_Runs l mX10_isMethod [vR 1 0, vI x1] M Q := sl_Runs.of (ls := [(0, vR 1 0), (1, vI x1)]) rfl rfl (fun _ => rfl) (fun _ => Nat.le_of_ble_eq_true rfl) rfl (k)
theorem dX10_settles_0 : decode cX10_settles 0 = .ok (.aload_n 0, 1) := by decide +kernel
theorem dX10_settles_1 : decode cX10_settles 1 = .ok (.iload_n 1, 1) := by decide +kernel
theorem dX10_settles_2 : decode cX10_settles 2 = .ok (.invokevirtual 341, 3) := by decide +kernel
theorem dX10_settles_5 : decode cX10_settles 5 = .ok (.ifCond .ne 8, 3) := by decide +kernel
theorem dX10_settles_8 : decode cX10_settles 8 = .ok (.aload_n 0, 1) := by decide +kernel
theorem dX10_settles_9 : decode cX10_settles 9 = .ok (.invokevirtual 139, 3) := by decide +kernel
theorem dX10_settles_12 : decode cX10_settles 12 = .ok (.ireturn, 1) := by decide +kernel
theorem dX10_settles_13 : decode cX10_settles 13 = .ok (.aload_n 0, 1) := by decide +kernel
theorem dX10_settles_14 : decode cX10_settles 14 = .ok (.invokevirtual 189, 3) := by decide +kernel
theorem dX10_settles_17 : decode cX10_settles 17 = .ok (.iconst 0, 1) := by decide +kernel
theorem dX10_settles_18 : decode cX10_settles 18 = .ok (.istore_n 2, 1) := by decide +kernel
theorem dX10_settles_19 : decode cX10_settles 19 = .ok (.iconst 0, 1) := by decide +kernel
theorem dX10_settles_20 : decode cX10_settles 20 = .ok (.istore_n 3, 1) := by decide +kernel
theorem dX10_settles_21 : decode cX10_settles 21 = .ok (.iconst 0, 1) := by decide +kernel
theorem dX10_settles_22 : decode cX10_settles 22 = .ok (.istore 4, 2) := by decide +kernel
theorem dX10_settles_24 : decode cX10_settles 24 = .ok (.iload 4, 2) := by decide +kernel
theorem dX10_settles_26 : decode cX10_settles 26 = .ok (.aload_n 0, 1) := by decide +kernel
theorem dX10_settles_27 : decode cX10_settles 27 = .ok (.getfield 7, 3) := by decide +kernel
theorem dX10_settles_30 : decode cX10_settles 30 = .ok (.sipush 789, 3) := by decide +kernel
theorem dX10_settles_33 : decode cX10_settles 33 = .ok (.iaload, 1) := by decide +kernel
theorem dX10_settles_34 : decode cX10_settles 34 = .ok (.if_icmp .ge 146, 3) := by decide +kernel
theorem dX10_settles_37 : decode cX10_settles 37 = .ok (.aload_n 0, 1) := by decide +kernel
theorem dX10_settles_38 : decode cX10_settles 38 = .ok (.getfield 7, 3) := by decide +kernel
theorem dX10_settles_41 : decode cX10_settles 41 = .ok (.sipush 870, 3) := by decide +kernel
theorem dX10_settles_44 : decode cX10_settles 44 = .ok (.iload 4, 2) := by decide +kernel
theorem dX10_settles_46 : decode cX10_settles 46 = .ok (.iadd, 1) := by decide +kernel
theorem dX10_settles_47 : decode cX10_settles 47 = .ok (.iaload, 1) := by decide +kernel
theorem dX10_settles_48 : decode cX10_settles 48 = .ok (.istore 5, 2) := by decide +kernel
theorem dX10_settles_50 : decode cX10_settles 50 = .ok (.iload 5, 2) := by decide +kernel
theorem dX10_settles_52 : decode cX10_settles 52 = .ok (.iload_n 1, 1) := by decide +kernel
theorem dX10_settles_53 : decode cX10_settles 53 = .ok (.if_icmp .ne 9, 3) := by decide +kernel
theorem dX10_settles_56 : decode cX10_settles 56 = .ok (.iinc 3 1, 3) := by decide +kernel
theorem dX10_settles_59 : decode cX10_settles 59 = .ok (.goto 115, 3) := by decide +kernel
theorem dX10_settles_62 : decode cX10_settles 62 = .ok (.aload_n 0, 1) := by decide +kernel
theorem dX10_settles_63 : decode cX10_settles 63 = .ok (.getfield 7, 3) := by decide +kernel
theorem dX10_settles_66 : decode cX10_settles 66 = .ok (.sipush 790, 3) := by decide +kernel
theorem dX10_settles_69 : decode cX10_settles 69 = .ok (.iload_n 2, 1) := by decide +kernel
theorem dX10_settles_70 : decode cX10_settles 70 = .ok (.iadd, 1) := by decide +kernel
theorem dX10_settles_71 : decode cX10_settles 71 = .ok (.aload_n 0, 1) := by decide +kernel
theorem dX10_settles_72 : decode cX10_settles 72 = .ok (.getfield 7, 3) := by decide +kernel
theorem dX10_settles_75 : decode cX10_settles 75 = .ok (.sipush 790, 3) := by decide +kernel
theorem dX10_settles_78 : decode cX10_settles 78 = .ok (.iload 4, 2) := by decide +kernel
theorem dX10_settles_80 : decode cX10_settles 80 = .ok (.iadd, 1) := by decide +kernel
theorem dX10_settles_81 : decode cX10_settles 81 = .ok (.iaload, 1) := by decide +kernel
theorem dX10_settles_82 : decode cX10_settles 82 = .ok (.iastore, 1) := by decide +kernel
theorem dX10_settles_83 : decode cX10_settles 83 = .ok (.aload_n 0, 1) := by decide +kernel
theorem dX10_settles_84 : decode cX10_settles 84 = .ok (.getfield 7, 3) := by decide +kernel
theorem dX10_settles_87 : decode cX10_settles 87 = .ok (.sipush 830, 3) := by decide +kernel
theorem dX10_settles_90 : decode cX10_settles 90 = .ok (.iload_n 2, 1) := by decide +kernel
theorem dX10_settles_91 : decode cX10_settles 91 = .ok (.iadd, 1) := by decide +kernel
theorem dX10_settles_92 : decode cX10_settles 92 = .ok (.aload_n 0, 1) := by decide +kernel
theorem dX10_settles_93 : decode cX10_settles 93 = .ok (.getfield 7, 3) := by decide +kernel
theorem dX10_settles_96 : decode cX10_settles 96 = .ok (.sipush 830, 3) := by decide +kernel
theorem dX10_settles_99 : decode cX10_settles 99 = .ok (.iload 4, 2) := by decide +kernel
theorem dX10_settles_101 : decode cX10_settles 101 = .ok (.iadd, 1) := by decide +kernel
theorem dX10_settles_102 : decode cX10_settles 102 = .ok (.iaload, 1) := by decide +kernel
theorem dX10_settles_103 : decode cX10_settles 103 = .ok (.iastore, 1) := by decide +kernel
theorem dX10_settles_104 : decode cX10_settles 104 = .ok (.aload_n 0, 1) := by decide +kernel
theorem dX10_settles_105 : decode cX10_settles 105 = .ok (.getfield 7, 3) := by decide +kernel
theorem dX10_settles_108 : decode cX10_settles 108 = .ok (.sipush 870, 3) := by decide +kernel
theorem dX10_settles_111 : decode cX10_settles 111 = .ok (.iload_n 2, 1) := by decide +kernel
theorem dX10_settles_112 : decode cX10_settles 112 = .ok (.iadd, 1) := by decide +kernel
theorem dX10_settles_113 : decode cX10_settles 113 = .ok (.iload 5, 2) := by decide +kernel
theorem dX10_settles_115 : decode cX10_settles 115 = .ok (.iload_n 1, 1) := by decide +kernel
theorem dX10_settles_116 : decode cX10_settles 116 = .ok (.if_icmp .le 10, 3) := by decide +kernel
theorem dX10_settles_119 : decode cX10_settles 119 = .ok (.iload 5, 2) := by decide +kernel
theorem dX10_settles_121 : decode cX10_settles 121 = .ok (.iconst 1, 1) := by decide +kernel
theorem dX10_settles_122 : decode cX10_settles 122 = .ok (.isub, 1) := by decide +kernel
theorem dX10_settles_123 : decode cX10_settles 123 = .ok (.goto 5, 3) := by decide +kernel
theorem dX10_settles_126 : decode cX10_settles 126 = .ok (.iload 5, 2) := by decide +kernel
theorem dX10_settles_128 : decode cX10_settles 128 = .ok (.iastore, 1) := by decide +kernel
theorem dX10_settles_129 : decode cX10_settles 129 = .ok (.aload_n 0, 1) := by decide +kernel
theorem dX10_settles_130 : decode cX10_settles 130 = .ok (.getfield 7, 3) := by decide +kernel
theorem dX10_settles_133 : decode cX10_settles 133 = .ok (.sipush 910, 3) := by decide +kernel
theorem dX10_settles_136 : decode cX10_settles 136 = .ok (.iload_n 2, 1) := by decide +kernel
theorem dX10_settles_137 : decode cX10_settles 137 = .ok (.iadd, 1) := by decide +kernel
theorem dX10_settles_138 : decode cX10_settles 138 = .ok (.aload_n 0, 1) := by decide +kernel
theorem dX10_settles_139 : decode cX10_settles 139 = .ok (.getfield 7, 3) := by decide +kernel
theorem dX10_settles_142 : decode cX10_settles 142 = .ok (.sipush 910, 3) := by decide +kernel
theorem dX10_settles_145 : decode cX10_settles 145 = .ok (.iload 4, 2) := by decide +kernel
theorem dX10_settles_147 : decode cX10_settles 147 = .ok (.iadd, 1) := by decide +kernel
theorem dX10_settles_148 : decode cX10_settles 148 = .ok (.iaload, 1) := by decide +kernel
theorem dX10_settles_149 : decode cX10_settles 149 = .ok (.iastore, 1) := by decide +kernel
theorem dX10_settles_150 : decode cX10_settles 150 = .ok (.aload_n 0, 1) := by decide +kernel
theorem dX10_settles_151 : decode cX10_settles 151 = .ok (.getfield 7, 3) := by decide +kernel
theorem dX10_settles_154 : decode cX10_settles 154 = .ok (.sipush 950, 3) := by decide +kernel
theorem dX10_settles_157 : decode cX10_settles 157 = .ok (.iload_n 2, 1) := by decide +kernel
theorem dX10_settles_158 : decode cX10_settles 158 = .ok (.iadd, 1) := by decide +kernel
theorem dX10_settles_159 : decode cX10_settles 159 = .ok (.aload_n 0, 1) := by decide +kernel
theorem dX10_settles_160 : decode cX10_settles 160 = .ok (.getfield 7, 3) := by decide +kernel
theorem dX10_settles_163 : decode cX10_settles 163 = .ok (.sipush 950, 3) := by decide +kernel
theorem dX10_settles_166 : decode cX10_settles 166 = .ok (.iload 4, 2) := by decide +kernel
theorem dX10_settles_168 : decode cX10_settles 168 = .ok (.iadd, 1) := by decide +kernel
theorem dX10_settles_169 : decode cX10_settles 169 = .ok (.iaload, 1) := by decide +kernel
theorem dX10_settles_170 : decode cX10_settles 170 = .ok (.iastore, 1) := by decide +kernel
theorem dX10_settles_171 : decode cX10_settles 171 = .ok (.iinc 2 1, 3) := by decide +kernel
theorem dX10_settles_174 : decode cX10_settles 174 = .ok (.iinc 4 1, 3) := by decide +kernel
theorem dX10_settles_177 : decode cX10_settles 177 = .ok (.goto (-153), 3) := by decide +kernel
theorem dX10_settles_180 : decode cX10_settles 180 = .ok (.aload_n 0, 1) := by decide +kernel
theorem dX10_settles_181 : decode cX10_settles 181 = .ok (.getfield 7, 3) := by decide +kernel
theorem dX10_settles_184 : decode cX10_settles 184 = .ok (.sipush 789, 3) := by decide +kernel
theorem dX10_settles_187 : decode cX10_settles 187 = .ok (.iload_n 2, 1) := by decide +kernel
theorem dX10_settles_188 : decode cX10_settles 188 = .ok (.iastore, 1) := by decide +kernel
theorem dX10_settles_189 : decode cX10_settles 189 = .ok (.iload_n 1, 1) := by decide +kernel
theorem dX10_settles_190 : decode cX10_settles 190 = .ok (.istore 4, 2) := by decide +kernel
theorem dX10_settles_192 : decode cX10_settles 192 = .ok (.iload 4, 2) := by decide +kernel
theorem dX10_settles_194 : decode cX10_settles 194 = .ok (.iconst 1, 1) := by decide +kernel
theorem dX10_settles_195 : decode cX10_settles 195 = .ok (.iadd, 1) := by decide +kernel
theorem dX10_settles_196 : decode cX10_settles 196 = .ok (.aload_n 0, 1) := by decide +kernel
theorem dX10_settles_197 : decode cX10_settles 197 = .ok (.getfield 7, 3) := by decide +kernel
theorem dX10_settles_200 : decode cX10_settles 200 = .ok (.sipush 761, 3) := by decide +kernel
theorem dX10_settles_203 : decode cX10_settles 203 = .ok (.iaload, 1) := by decide +kernel
theorem dX10_settles_204 : decode cX10_settles 204 = .ok (.if_icmp .ge 178, 3) := by decide +kernel
theorem dX10_settles_207 : decode cX10_settles 207 = .ok (.aload_n 0, 1) := by decide +kernel
theorem dX10_settles_208 : decode cX10_settles 208 = .ok (.getfield 7, 3) := by decide +kernel
theorem dX10_settles_211 : decode cX10_settles 211 = .ok (.sipush 762, 3) := by decide +kernel
theorem dX10_settles_214 : decode cX10_settles 214 = .ok (.iload 4, 2) := by decide +kernel
theorem dX10_settles_216 : decode cX10_settles 216 = .ok (.iadd, 1) := by decide +kernel
theorem dX10_settles_217 : decode cX10_settles 217 = .ok (.aload_n 0, 1) := by decide +kernel
theorem dX10_settles_218 : decode cX10_settles 218 = .ok (.getfield 7, 3) := by decide +kernel
theorem dX10_settles_221 : decode cX10_settles 221 = .ok (.sipush 762, 3) := by decide +kernel
theorem dX10_settles_224 : decode cX10_settles 224 = .ok (.iload 4, 2) := by decide +kernel
theorem dX10_settles_226 : decode cX10_settles 226 = .ok (.iadd, 1) := by decide +kernel
theorem dX10_settles_227 : decode cX10_settles 227 = .ok (.iconst 1, 1) := by decide +kernel
theorem dX10_settles_228 : decode cX10_settles 228 = .ok (.iadd, 1) := by decide +kernel
theorem dX10_settles_229 : decode cX10_settles 229 = .ok (.iaload, 1) := by decide +kernel
theorem dX10_settles_230 : decode cX10_settles 230 = .ok (.iastore, 1) := by decide +kernel
theorem dX10_settles_231 : decode cX10_settles 231 = .ok (.aload_n 0, 1) := by decide +kernel
theorem dX10_settles_232 : decode cX10_settles 232 = .ok (.getfield 7, 3) := by decide +kernel
theorem dX10_settles_235 : decode cX10_settles 235 = .ok (.sipush 765, 3) := by decide +kernel
theorem dX10_settles_238 : decode cX10_settles 238 = .ok (.iload 4, 2) := by decide +kernel
theorem dX10_settles_240 : decode cX10_settles 240 = .ok (.iadd, 1) := by decide +kernel
theorem dX10_settles_241 : decode cX10_settles 241 = .ok (.aload_n 0, 1) := by decide +kernel
theorem dX10_settles_242 : decode cX10_settles 242 = .ok (.getfield 7, 3) := by decide +kernel
theorem dX10_settles_245 : decode cX10_settles 245 = .ok (.sipush 765, 3) := by decide +kernel
theorem dX10_settles_248 : decode cX10_settles 248 = .ok (.iload 4, 2) := by decide +kernel
theorem dX10_settles_250 : decode cX10_settles 250 = .ok (.iadd, 1) := by decide +kernel
theorem dX10_settles_251 : decode cX10_settles 251 = .ok (.iconst 1, 1) := by decide +kernel
theorem dX10_settles_252 : decode cX10_settles 252 = .ok (.iadd, 1) := by decide +kernel
theorem dX10_settles_253 : decode cX10_settles 253 = .ok (.iaload, 1) := by decide +kernel
theorem dX10_settles_254 : decode cX10_settles 254 = .ok (.iastore, 1) := by decide +kernel
theorem dX10_settles_255 : decode cX10_settles 255 = .ok (.aload_n 0, 1) := by decide +kernel
theorem dX10_settles_256 : decode cX10_settles 256 = .ok (.getfield 7, 3) := by decide +kernel
theorem dX10_settles_259 : decode cX10_settles 259 = .ok (.sipush 768, 3) := by decide +kernel
theorem dX10_settles_262 : decode cX10_settles 262 = .ok (.iload 4, 2) := by decide +kernel
theorem dX10_settles_264 : decode cX10_settles 264 = .ok (.iadd, 1) := by decide +kernel
theorem dX10_settles_265 : decode cX10_settles 265 = .ok (.aload_n 0, 1) := by decide +kernel
theorem dX10_settles_266 : decode cX10_settles 266 = .ok (.getfield 7, 3) := by decide +kernel
theorem dX10_settles_269 : decode cX10_settles 269 = .ok (.sipush 768, 3) := by decide +kernel
theorem dX10_settles_272 : decode cX10_settles 272 = .ok (.iload 4, 2) := by decide +kernel
theorem dX10_settles_274 : decode cX10_settles 274 = .ok (.iadd, 1) := by decide +kernel
theorem dX10_settles_275 : decode cX10_settles 275 = .ok (.iconst 1, 1) := by decide +kernel
theorem dX10_settles_276 : decode cX10_settles 276 = .ok (.iadd, 1) := by decide +kernel
theorem dX10_settles_277 : decode cX10_settles 277 = .ok (.iaload, 1) := by decide +kernel
theorem dX10_settles_278 : decode cX10_settles 278 = .ok (.iastore, 1) := by decide +kernel
theorem dX10_settles_279 : decode cX10_settles 279 = .ok (.aload_n 0, 1) := by decide +kernel
theorem dX10_settles_280 : decode cX10_settles 280 = .ok (.getfield 7, 3) := by decide +kernel
theorem dX10_settles_283 : decode cX10_settles 283 = .ok (.sipush 771, 3) := by decide +kernel
theorem dX10_settles_286 : decode cX10_settles 286 = .ok (.iload 4, 2) := by decide +kernel
theorem dX10_settles_288 : decode cX10_settles 288 = .ok (.iadd, 1) := by decide +kernel
theorem dX10_settles_289 : decode cX10_settles 289 = .ok (.aload_n 0, 1) := by decide +kernel
theorem dX10_settles_290 : decode cX10_settles 290 = .ok (.getfield 7, 3) := by decide +kernel
theorem dX10_settles_293 : decode cX10_settles 293 = .ok (.sipush 771, 3) := by decide +kernel
theorem dX10_settles_296 : decode cX10_settles 296 = .ok (.iload 4, 2) := by decide +kernel
theorem dX10_settles_298 : decode cX10_settles 298 = .ok (.iadd, 1) := by decide +kernel
theorem dX10_settles_299 : decode cX10_settles 299 = .ok (.iconst 1, 1) := by decide +kernel
theorem dX10_settles_300 : decode cX10_settles 300 = .ok (.iadd, 1) := by decide +kernel
theorem dX10_settles_301 : decode cX10_settles 301 = .ok (.iaload, 1) := by decide +kernel
theorem dX10_settles_302 : decode cX10_settles 302 = .ok (.iastore, 1) := by decide +kernel
theorem dX10_settles_303 : decode cX10_settles 303 = .ok (.aload_n 0, 1) := by decide +kernel
theorem dX10_settles_304 : decode cX10_settles 304 = .ok (.getfield 7, 3) := by decide +kernel
theorem dX10_settles_307 : decode cX10_settles 307 = .ok (.sipush 774, 3) := by decide +kernel
theorem dX10_settles_310 : decode cX10_settles 310 = .ok (.iload 4, 2) := by decide +kernel
theorem dX10_settles_312 : decode cX10_settles 312 = .ok (.iadd, 1) := by decide +kernel
theorem dX10_settles_313 : decode cX10_settles 313 = .ok (.aload_n 0, 1) := by decide +kernel
theorem dX10_settles_314 : decode cX10_settles 314 = .ok (.getfield 7, 3) := by decide +kernel
theorem dX10_settles_317 : decode cX10_settles 317 = .ok (.sipush 774, 3) := by decide +kernel
theorem dX10_settles_320 : decode cX10_settles 320 = .ok (.iload 4, 2) := by decide +kernel
theorem dX10_settles_322 : decode cX10_settles 322 = .ok (.iadd, 1) := by decide +kernel
theorem dX10_settles_323 : decode cX10_settles 323 = .ok (.iconst 1, 1) := by decide +kernel
theorem dX10_settles_324 : decode cX10_settles 324 = .ok (.iadd, 1) := by decide +kernel
theorem dX10_settles_325 : decode cX10_settles 325 = .ok (.iaload, 1) := by decide +kernel
theorem dX10_settles_326 : decode cX10_settles 326 = .ok (.iastore, 1) := by decide +kernel
theorem dX10_settles_327 : decode cX10_settles 327 = .ok (.iconst 0, 1) := by decide +kernel
theorem dX10_settles_328 : decode cX10_settles 328 = .ok (.istore 5, 2) := by decide +kernel
theorem dX10_settles_330 : decode cX10_settles 330 = .ok (.iload 5, 2) := by decide +kernel
theorem dX10_settles_332 : decode cX10_settles 332 = .ok (.iconst 4, 1) := by decide +kernel
theorem dX10_settles_333 : decode cX10_settles 333 = .ok (.if_icmp .ge 43, 3) := by decide +kernel
theorem dX10_settles_336 : decode cX10_settles 336 = .ok (.aload_n 0, 1) := by decide +kernel
theorem dX10_settles_337 : decode cX10_settles 337 = .ok (.getfield 7, 3) := by decide +kernel
theorem dX10_settles_340 : decode cX10_settles 340 = .ok (.sipush 777, 3) := by decide +kernel
theorem dX10_settles_343 : decode cX10_settles 343 = .ok (.iconst 4, 1) := by decide +kernel
theorem dX10_settles_344 : decode cX10_settles 344 = .ok (.iload 4, 2) := by decide +kernel
theorem dX10_settles_346 : decode cX10_settles 346 = .ok (.imul, 1) := by decide +kernel
theorem dX10_settles_347 : decode cX10_settles 347 = .ok (.iadd, 1) := by decide +kernel
theorem dX10_settles_348 : decode cX10_settles 348 = .ok (.iload 5, 2) := by decide +kernel
theorem dX10_settles_350 : decode cX10_settles 350 = .ok (.iadd, 1) := by decide +kernel
theorem dX10_settles_351 : decode cX10_settles 351 = .ok (.aload_n 0, 1) := by decide +kernel
theorem dX10_settles_352 : decode cX10_settles 352 = .ok (.getfield 7, 3) := by decide +kernel
theorem dX10_settles_355 : decode cX10_settles 355 = .ok (.sipush 777, 3) := by decide +kernel
theorem dX10_settles_358 : decode cX10_settles 358 = .ok (.iconst 4, 1) := by decide +kernel
theorem dX10_settles_359 : decode cX10_settles 359 = .ok (.iload 4, 2) := by decide +kernel
theorem dX10_settles_361 : decode cX10_settles 361 = .ok (.iconst 1, 1) := by decide +kernel
theorem dX10_settles_362 : decode cX10_settles 362 = .ok (.iadd, 1) := by decide +kernel
theorem dX10_settles_363 : decode cX10_settles 363 = .ok (.imul, 1) := by decide +kernel
theorem dX10_settles_364 : decode cX10_settles 364 = .ok (.iadd, 1) := by decide +kernel
theorem dX10_settles_365 : decode cX10_settles 365 = .ok (.iload 5, 2) := by decide +kernel
theorem dX10_settles_367 : decode cX10_settles 367 = .ok (.iadd, 1) := by decide +kernel
theorem dX10_settles_368 : decode cX10_settles 368 = .ok (.iaload, 1) := by decide +kernel
theorem dX10_settles_369 : decode cX10_settles 369 = .ok (.iastore, 1) := by decide +kernel
theorem dX10_settles_370 : decode cX10_settles 370 = .ok (.iinc 5 1, 3) := by decide +kernel
theorem dX10_settles_373 : decode cX10_settles 373 = .ok (.goto (-43), 3) := by decide +kernel
theorem dX10_settles_376 : decode cX10_settles 376 = .ok (.iinc 4 1, 3) := by decide +kernel
theorem dX10_settles_379 : decode cX10_settles 379 = .ok (.goto (-187), 3) := by decide +kernel
theorem dX10_settles_382 : decode cX10_settles 382 = .ok (.aload_n 0, 1) := by decide +kernel
theorem dX10_settles_383 : decode cX10_settles 383 = .ok (.getfield 7, 3) := by decide +kernel
theorem dX10_settles_386 : decode cX10_settles 386 = .ok (.sipush 761, 3) := by decide +kernel
theorem dX10_settles_389 : decode cX10_settles 389 = .ok (.dup2, 1) := by decide +kernel
theorem dX10_settles_390 : decode cX10_settles 390 = .ok (.iaload, 1) := by decide +kernel
theorem dX10_settles_391 : decode cX10_settles 391 = .ok (.iconst 1, 1) := by decide +kernel
theorem dX10_settles_392 : decode cX10_settles 392 = .ok (.isub, 1) := by decide +kernel
theorem dX10_settles_393 : decode cX10_settles 393 = .ok (.iastore, 1) := by decide +kernel
theorem dX10_settles_394 : decode cX10_settles 394 = .ok (.iload_n 3, 1) := by decide +kernel
theorem dX10_settles_395 : decode cX10_settles 395 = .ok (.ireturn, 1) := by decide +kernel
set_option maxHeartbeats 4000000 in
set_option maxRecDepth 10000 in
theorem vX10_settles_0 {l : Launch} {M : sl_M} {Q : sl_R} {x1 : Int} (H : sl_RM M → sl_rg x1 → sl_RI l mX10_isMethod [vR 1 0, vI x1] M (fun y2 M1 => ((y2 ≠ 0) → sl_RV l mX10_keepsState [vR 1 0] M1 (fun M4 => sl_At l mX10_settles 24 [(0, vR 1 0), (1, vI x1), (2, vI 0), (3, vI 0), (4, vI 0)] [] M4 Q)) ∧ ((¬ (y2 ≠ 0)) → sl_RI l mX10_bad [vR 1 0] M1 (fun y6 M5 => Q (some (vI y6)) M5)))) : sl_At l mX10_settles 0 [(0, vR 1 0), (1, vI x1)] [] M Q := by
  refine sl_At.in (fun hM hls => ?_)
  have g1 : sl_rg x1 := hls _ (List.mem_of_getElem? (i := 1) rfl)
  have H := H hM g1
  refine r_aload_n (k := 0) rfl rfl dX10_settles_0 ?_
  refine r_iload_n (k := 1) rfl rfl dX10_settles_1 ?_
  refine r_callV (g := mX10_isMethod) ckX10 rfl rfl rfl rfl mkX10_isMethod mvX10_isMethod ml_X10_341 ⟨by decide, by decide⟩ rfl (Nat.le_of_ble_eq_true rfl) rfl (ok_i g1 ok_n) dX10_settles_2 (sl_afterI (sl_RI.mono (fun y2 M1 gy2 hM1 H => ?_) H))
  refine r_if_ne (tgt := 13) gy2 dX10_settles_5 (by decide) (fun h3 => ?_) (fun h3 => ?_)
  · have H := H.1 h3
    refine r_aload_n (k := 0) rfl rfl dX10_settles_13 ?_
    refine r_callV (g := mX10_keepsState) ckX10 rfl rfl rfl rfl mkX10_keepsState mvX10_keepsState ml_X10_189 ⟨by decide, by decide⟩ rfl (Nat.le_of_ble_eq_true rfl) rfl ok_n dX10_settles_14 (sl_afterV (sl_RV.mono (fun M4 hM4 H => ?_) H))
    refine r_iconst dX10_settles_17 ?_
    refine r_istore_n (ls' := [(2, vI 0), (0, vR 1 0), (1, vI x1)]) ⟨by decide, by decide⟩ rfl (by decide) rfl dX10_settles_18 ?_
    refine r_iconst dX10_settles_19 ?_
    refine r_istore_n (ls' := [(3, vI 0), (2, vI 0), (0, vR 1 0), (1, vI x1)]) ⟨by decide, by decide⟩ rfl (by decide) rfl dX10_settles_20 ?_
    refine r_iconst dX10_settles_21 ?_
    refine r_istore (ls' := [(4, vI 0), (3, vI 0), (2, vI 0), (0, vR 1 0), (1, vI x1)]) ⟨by decide, by decide⟩ (by decide) rfl dX10_settles_22 ?_
    exact sl_At.sub [3, 4, 2, 1, 0] rfl H
  · have H := H.2 h3
    refine r_aload_n (k := 0) rfl rfl dX10_settles_8 ?_
    refine r_callV (g := mX10_bad) ckX10 rfl rfl rfl rfl mkX10_bad mvX10_bad ml_X10_139 ⟨by decide, by decide⟩ rfl (Nat.le_of_ble_eq_true rfl) rfl ok_n dX10_settles_9 (sl_afterI (sl_RI.mono (fun y6 M5 gy6 hM5 H => ?_) H))
    refine r_iret rfl gy6 dX10_settles_12 ?_
    exact H
set_option maxHeartbeats 4000000 in
set_option maxRecDepth 10000 in
theorem vX10_settles_24 {l : Launch} {M : sl_M} {Q : sl_R} {x1 x2 x3 x4 : Int} (H : sl_RM M → sl_rg x1 → sl_rg x2 → sl_rg x3 → sl_rg x4 → ((M 1 1 789 ≤ x4) → (∀ M2, M2 = sl_wr M 1 1 789 x2 → sl_At l mX10_settles 192 [(0, vR 1 0), (3, vI x3), (4, vI x1)] [] M2 Q)) ∧ ((¬ (M 1 1 789 ≤ x4)) → (0 ≤ 870 + x4 ∧ 870 + x4 < 990) ∧ ((M 1 1 (870 + x4) ≠ x1) → (0 ≤ 790 + x4 ∧ 790 + x4 < 990) ∧ (0 ≤ 790 + x2 ∧ 790 + x2 < 990) ∧ (∀ M7, M7 = sl_wr M 1 1 (790 + x2) (M 1 1 (790 + x4)) → (0 ≤ 830 + x4 ∧ 830 + x4 < 990) ∧ (0 ≤ 830 + x2 ∧ 830 + x2 < 990) ∧ (∀ M10, M10 = sl_wr M7 1 1 (830 + x2) (M7 1 1 (830 + x4)) → (0 ≤ 870 + x2 ∧ 870 + x2 < 990) ∧ (sl_rg (if M 1 1 (870 + x4) ≤ x1 then M 1 1 (870 + x4) else M 1 1 (870 + x4) - 1)) ∧ (∀ M14, M14 = sl_wr M10 1 1 (870 + x2) (if M 1 1 (870 + x4) ≤ x1 then M 1 1 (870 + x4) else M 1 1 (870 + x4) - 1) → (0 ≤ 910 + x4 ∧ 910 + x4 < 990) ∧ (0 ≤ 910 + x2 ∧ 910 + x2 < 990) ∧ (∀ M17, M17 = sl_wr M14 1 1 (910 + x2) (M14 1 1 (910 + x4)) → (0 ≤ 950 + x4 ∧ 950 + x4 < 990) ∧ (0 ≤ 950 + x2 ∧ 950 + x2 < 990) ∧ (∀ M20, M20 = sl_wr M17 1 1 (950 + x2) (M17 1 1 (950 + x4)) → (sl_rg (x2 + 1)) ∧ (sl_rg (x4 + 1)) ∧ sl_At l mX10_settles 24 [(0, vR 1 0), (1, vI x1), (2, vI (x2 + 1)), (3, vI x3), (4, vI (x4 + 1))] [] M20 Q)))))) ∧ ((¬ (M 1 1 (870 + x4) ≠ x1)) → (sl_rg (x3 + 1)) ∧ (sl_rg (x4 + 1)) ∧ sl_At l mX10_settles 24 [(0, vR 1 0), (1, vI x1), (2, vI x2), (3, vI (x3 + 1)), (4, vI (x4 + 1))] [] M Q))) : sl_At l mX10_settles 24 [(0, vR 1 0), (1, vI x1), (2, vI x2), (3, vI x3), (4, vI x4)] [] M Q := by
  refine sl_At.in (fun hM hls => ?_)
  have g1 : sl_rg x1 := hls _ (List.mem_of_getElem? (i := 1) rfl)
  have g2 : sl_rg x2 := hls _ (List.mem_of_getElem? (i := 2) rfl)
  have g3 : sl_rg x3 := hls _ (List.mem_of_getElem? (i := 3) rfl)
  have g4 : sl_rg x4 := hls _ (List.mem_of_getElem? (i := 4) rfl)
  have H := H hM g1 g2 g3 g4
  refine r_iload (k := 4) rfl dX10_settles_24 ?_
  refine r_aload_n (k := 0) rfl rfl dX10_settles_26 ?_
  refine r_getR (k := 0) (o' := 1) (i' := 1) ckX10 rfl rfl (by decide) rfl rfl rfl fl_X10_7 dX10_settles_27 ?_
  refine r_sipush dX10_settles_30 (by decide) ?_
  refine r_iald rfl rfl rfl ⟨by decide, by decide⟩ dX10_settles_33 ?_
  refine r_icmp_ge (tgt := 180) g4 (hM _ _ _) dX10_settles_34 (by decide) (fun h1 => ?_) (fun h1 => ?_)
  · have H := H.1 h1
    refine r_aload_n (k := 0) rfl rfl dX10_settles_180 ?_
    refine r_getR (k := 0) (o' := 1) (i' := 1) ckX10 rfl rfl (by decide) rfl rfl rfl fl_X10_7 dX10_settles_181 ?_
    refine r_sipush dX10_settles_184 (by decide) ?_
    refine r_iload_n (k := 2) rfl rfl dX10_settles_187 ?_
    refine r_iast rfl rfl rfl ⟨by decide, by decide⟩ g2 dX10_settles_188 ?_
    refine r_mm (fun M2 e2 => ?_)
    have H := H M2 e2
    have hM2 : sl_RM M2 := by rw [e2]; exact sl_wr_RM hM g2
    refine r_iload_n (k := 1) rfl rfl dX10_settles_189 ?_
    refine r_istore (ls' := [(4, vI x1), (0, vR 1 0), (1, vI x1), (2, vI x2), (3, vI x3)]) g1 (by decide) rfl dX10_settles_190 ?_
    exact sl_At.sub [1, 4, 0] rfl H
  · have H := H.2 h1
    refine r_aload_n (k := 0) rfl rfl dX10_settles_37 ?_
    refine r_getR (k := 0) (o' := 1) (i' := 1) ckX10 rfl rfl (by decide) rfl rfl rfl fl_X10_7 dX10_settles_38 ?_
    refine r_sipush dX10_settles_41 (by decide) ?_
    refine r_iload (k := 4) rfl dX10_settles_44 ?_
    refine r_iadd dX10_settles_46 ?_
    obtain ⟨c3, H⟩ := H
    refine r_iald rfl rfl rfl c3 dX10_settles_47 ?_
    refine r_istore (ls' := [(5, vI (M 1 1 (870 + x4))), (0, vR 1 0), (1, vI x1), (2, vI x2), (3, vI x3), (4, vI x4)]) (hM _ _ _) (by decide) rfl dX10_settles_48 ?_
    refine r_iload (k := 0) rfl dX10_settles_50 ?_
    refine r_iload_n (k := 2) rfl rfl dX10_settles_52 ?_
    refine r_icmp_ne (tgt := 62) (hM _ _ _) g1 dX10_settles_53 (by decide) (fun h4 => ?_) (fun h4 => ?_)
    · have H := H.1 h4
      refine r_aload_n (k := 1) rfl rfl dX10_settles_62 ?_
      refine r_getR (k := 0) (o' := 1) (i' := 1) ckX10 rfl rfl (by decide) rfl rfl rfl fl_X10_7 dX10_settles_63 ?_
      refine r_sipush dX10_settles_66 (by decide) ?_
      refine r_iload_n (k := 3) rfl rfl dX10_settles_69 ?_
      refine r_iadd dX10_settles_70 ?_
      refine r_aload_n (k := 1) rfl rfl dX10_settles_71 ?_
      refine r_getR (k := 0) (o' := 1) (i' := 1) ckX10 rfl rfl (by decide) rfl rfl rfl fl_X10_7 dX10_settles_72 ?_
      refine r_sipush dX10_settles_75 (by decide) ?_
      refine r_iload (k := 5) rfl dX10_settles_78 ?_
      refine r_iadd dX10_settles_80 ?_
      obtain ⟨c5, H⟩ := H
      refine r_iald rfl rfl rfl c5 dX10_settles_81 ?_
      obtain ⟨c6, H⟩ := H
      refine r_iast rfl rfl rfl c6 (hM _ _ _) dX10_settles_82 ?_
      refine r_mm (fun M7 e7 => ?_)
      have H := H M7 e7
      have hM7 : sl_RM M7 := by rw [e7]; exact sl_wr_RM hM (hM _ _ _)
      refine r_aload_n (k := 1) rfl rfl dX10_settles_83 ?_
      refine r_getR (k := 0) (o' := 1) (i' := 1) ckX10 rfl rfl (by decide) rfl rfl rfl fl_X10_7 dX10_settles_84 ?_
      refine r_sipush dX10_settles_87 (by decide) ?_
      refine r_iload_n (k := 3) rfl rfl dX10_settles_90 ?_
      refine r_iadd dX10_settles_91 ?_
      refine r_aload_n (k := 1) rfl rfl dX10_settles_92 ?_
      refine r_getR (k := 0) (o' := 1) (i' := 1) ckX10 rfl rfl (by decide) rfl rfl rfl fl_X10_7 dX10_settles_93 ?_
      refine r_sipush dX10_settles_96 (by decide) ?_
      refine r_iload (k := 5) rfl dX10_settles_99 ?_
      refine r_iadd dX10_settles_101 ?_
      obtain ⟨c8, H⟩ := H
      refine r_iald rfl rfl rfl c8 dX10_settles_102 ?_
      obtain ⟨c9, H⟩ := H
      refine r_iast rfl rfl rfl c9 (hM7 _ _ _) dX10_settles_103 ?_
      refine r_mm (fun M10 e10 => ?_)
      have H := H M10 e10
      have hM10 : sl_RM M10 := by rw [e10]; exact sl_wr_RM hM7 (hM7 _ _ _)
      refine r_aload_n (k := 1) rfl rfl dX10_settles_104 ?_
      refine r_getR (k := 0) (o' := 1) (i' := 1) ckX10 rfl rfl (by decide) rfl rfl rfl fl_X10_7 dX10_settles_105 ?_
      refine r_sipush dX10_settles_108 (by decide) ?_
      refine r_iload_n (k := 3) rfl rfl dX10_settles_111 ?_
      refine r_iadd dX10_settles_112 ?_
      refine r_iload (k := 0) rfl dX10_settles_113 ?_
      refine r_iload_n (k := 2) rfl rfl dX10_settles_115 ?_
      have J : sl_At l mX10_settles 128 [(5, vI (M 1 1 (870 + x4))), (0, vR 1 0), (1, vI x1), (2, vI x2), (3, vI x3), (4, vI x4)] [vI (if M 1 1 (870 + x4) ≤ x1 then M 1 1 (870 + x4) else M 1 1 (870 + x4) - 1), vI (870 + x2), vR 1 1] M10 Q := by
        obtain ⟨c12, H⟩ := H
        obtain ⟨c13, H⟩ := H
        refine r_iast rfl rfl rfl c12 c13 dX10_settles_128 ?_
        refine r_mm (fun M14 e14 => ?_)
        have H := H M14 e14
        have hM14 : sl_RM M14 := by rw [e14]; exact sl_wr_RM hM10 c13
        refine r_aload_n (k := 1) rfl rfl dX10_settles_129 ?_
        refine r_getR (k := 0) (o' := 1) (i' := 1) ckX10 rfl rfl (by decide) rfl rfl rfl fl_X10_7 dX10_settles_130 ?_
        refine r_sipush dX10_settles_133 (by decide) ?_
        refine r_iload_n (k := 3) rfl rfl dX10_settles_136 ?_
        refine r_iadd dX10_settles_137 ?_
        refine r_aload_n (k := 1) rfl rfl dX10_settles_138 ?_
        refine r_getR (k := 0) (o' := 1) (i' := 1) ckX10 rfl rfl (by decide) rfl rfl rfl fl_X10_7 dX10_settles_139 ?_
        refine r_sipush dX10_settles_142 (by decide) ?_
        refine r_iload (k := 5) rfl dX10_settles_145 ?_
        refine r_iadd dX10_settles_147 ?_
        obtain ⟨c15, H⟩ := H
        refine r_iald rfl rfl rfl c15 dX10_settles_148 ?_
        obtain ⟨c16, H⟩ := H
        refine r_iast rfl rfl rfl c16 (hM14 _ _ _) dX10_settles_149 ?_
        refine r_mm (fun M17 e17 => ?_)
        have H := H M17 e17
        have hM17 : sl_RM M17 := by rw [e17]; exact sl_wr_RM hM14 (hM14 _ _ _)
        refine r_aload_n (k := 1) rfl rfl dX10_settles_150 ?_
        refine r_getR (k := 0) (o' := 1) (i' := 1) ckX10 rfl rfl (by decide) rfl rfl rfl fl_X10_7 dX10_settles_151 ?_
        refine r_sipush dX10_settles_154 (by decide) ?_
        refine r_iload_n (k := 3) rfl rfl dX10_settles_157 ?_
        refine r_iadd dX10_settles_158 ?_
        refine r_aload_n (k := 1) rfl rfl dX10_settles_159 ?_
        refine r_getR (k := 0) (o' := 1) (i' := 1) ckX10 rfl rfl (by decide) rfl rfl rfl fl_X10_7 dX10_settles_160 ?_
        refine r_sipush dX10_settles_163 (by decide) ?_
        refine r_iload (k := 5) rfl dX10_settles_166 ?_
        refine r_iadd dX10_settles_168 ?_
        obtain ⟨c18, H⟩ := H
        refine r_iald rfl rfl rfl c18 dX10_settles_169 ?_
        obtain ⟨c19, H⟩ := H
        refine r_iast rfl rfl rfl c19 (hM17 _ _ _) dX10_settles_170 ?_
        refine r_mm (fun M20 e20 => ?_)
        have H := H M20 e20
        have hM20 : sl_RM M20 := by rw [e20]; exact sl_wr_RM hM17 (hM17 _ _ _)
        obtain ⟨c21, H⟩ := H
        refine r_iinc (k := 3) (ls' := [(2, vI (x2 + 1)), (5, vI (M 1 1 (870 + x4))), (0, vR 1 0), (1, vI x1), (3, vI x3), (4, vI x4)]) rfl c21 (by decide) rfl dX10_settles_171 ?_
        obtain ⟨c22, H⟩ := H
        refine r_iinc (k := 5) (ls' := [(4, vI (x4 + 1)), (2, vI (x2 + 1)), (5, vI (M 1 1 (870 + x4))), (0, vR 1 0), (1, vI x1), (3, vI x3)]) rfl c22 (by decide) rfl dX10_settles_174 ?_
        refine r_goto (tgt := 24) dX10_settles_177 (by decide) ?_
        exact sl_At.sub [3, 4, 1, 5, 0] rfl H
      refine r_icmp_le (tgt := 126) (hM _ _ _) g1 dX10_settles_116 (by decide) (fun h11 => ?_) (fun h11 => ?_)
      · refine r_iload (k := 0) rfl dX10_settles_126 ?_
        rw [if_pos h11] at J
        exact J
      · refine r_iload (k := 0) rfl dX10_settles_119 ?_
        refine r_iconst dX10_settles_121 ?_
        refine r_isub dX10_settles_122 ?_
        refine r_goto (tgt := 128) dX10_settles_123 (by decide) ?_
        rw [if_neg h11] at J
        exact J
    · have H := H.2 h4
      obtain ⟨c23, H⟩ := H
      refine r_iinc (k := 4) (ls' := [(3, vI (x3 + 1)), (5, vI (M 1 1 (870 + x4))), (0, vR 1 0), (1, vI x1), (2, vI x2), (4, vI x4)]) rfl c23 (by decide) rfl dX10_settles_56 ?_
      refine r_goto (tgt := 174) dX10_settles_59 (by decide) ?_
      obtain ⟨c24, H⟩ := H
      refine r_iinc (k := 5) (ls' := [(4, vI (x4 + 1)), (3, vI (x3 + 1)), (5, vI (M 1 1 (870 + x4))), (0, vR 1 0), (1, vI x1), (2, vI x2)]) rfl c24 (by decide) rfl dX10_settles_174 ?_
      refine r_goto (tgt := 24) dX10_settles_177 (by decide) ?_
      exact sl_At.sub [3, 4, 5, 1, 0] rfl H
set_option maxHeartbeats 4000000 in
set_option maxRecDepth 10000 in
theorem vX10_settles_192 {l : Launch} {M : sl_M} {Q : sl_R} {x3 x4 : Int} (H : sl_RM M → sl_rg x3 → sl_rg x4 → (sl_rg (x4 + 1)) ∧ ((M 1 1 761 ≤ x4 + 1) → (sl_rg (M 1 1 761 - 1)) ∧ (∀ M4, M4 = sl_wr M 1 1 761 (M 1 1 761 - 1) → Q (some (vI x3)) M4)) ∧ ((¬ (M 1 1 761 ≤ x4 + 1)) → (0 ≤ 762 + x4 + 1 ∧ 762 + x4 + 1 < 990) ∧ (0 ≤ 762 + x4 ∧ 762 + x4 < 990) ∧ (∀ M7, M7 = sl_wr M 1 1 (762 + x4) (M 1 1 (762 + x4 + 1)) → (0 ≤ 765 + x4 + 1 ∧ 765 + x4 + 1 < 990) ∧ (0 ≤ 765 + x4 ∧ 765 + x4 < 990) ∧ (∀ M10, M10 = sl_wr M7 1 1 (765 + x4) (M7 1 1 (765 + x4 + 1)) → (0 ≤ 768 + x4 + 1 ∧ 768 + x4 + 1 < 990) ∧ (0 ≤ 768 + x4 ∧ 768 + x4 < 990) ∧ (∀ M13, M13 = sl_wr M10 1 1 (768 + x4) (M10 1 1 (768 + x4 + 1)) → (0 ≤ 771 + x4 + 1 ∧ 771 + x4 + 1 < 990) ∧ (0 ≤ 771 + x4 ∧ 771 + x4 < 990) ∧ (∀ M16, M16 = sl_wr M13 1 1 (771 + x4) (M13 1 1 (771 + x4 + 1)) → (0 ≤ 774 + x4 + 1 ∧ 774 + x4 + 1 < 990) ∧ (0 ≤ 774 + x4 ∧ 774 + x4 < 990) ∧ (∀ M19, M19 = sl_wr M16 1 1 (774 + x4) (M16 1 1 (774 + x4 + 1)) → sl_At l mX10_settles 330 [(0, vR 1 0), (3, vI x3), (4, vI x4), (5, vI 0)] [] M19 Q))))))) : sl_At l mX10_settles 192 [(0, vR 1 0), (3, vI x3), (4, vI x4)] [] M Q := by
  refine sl_At.in (fun hM hls => ?_)
  have g3 : sl_rg x3 := hls _ (List.mem_of_getElem? (i := 1) rfl)
  have g4 : sl_rg x4 := hls _ (List.mem_of_getElem? (i := 2) rfl)
  have H := H hM g3 g4
  refine r_iload (k := 2) rfl dX10_settles_192 ?_
  refine r_iconst dX10_settles_194 ?_
  refine r_iadd dX10_settles_195 ?_
  refine r_aload_n (k := 0) rfl rfl dX10_settles_196 ?_
  refine r_getR (k := 0) (o' := 1) (i' := 1) ckX10 rfl rfl (by decide) rfl rfl rfl fl_X10_7 dX10_settles_197 ?_
  refine r_sipush dX10_settles_200 (by decide) ?_
  refine r_iald rfl rfl rfl ⟨by decide, by decide⟩ dX10_settles_203 ?_
  obtain ⟨c1, H⟩ := H
  refine r_icmp_ge (tgt := 382) c1 (hM _ _ _) dX10_settles_204 (by decide) (fun h2 => ?_) (fun h2 => ?_)
  · have H := H.1 h2
    refine r_aload_n (k := 0) rfl rfl dX10_settles_382 ?_
    refine r_getR (k := 0) (o' := 1) (i' := 1) ckX10 rfl rfl (by decide) rfl rfl rfl fl_X10_7 dX10_settles_383 ?_
    refine r_sipush dX10_settles_386 (by decide) ?_
    refine r_dup2 rfl rfl dX10_settles_389 ?_
    refine r_iald rfl rfl rfl ⟨by decide, by decide⟩ dX10_settles_390 ?_
    refine r_iconst dX10_settles_391 ?_
    refine r_isub dX10_settles_392 ?_
    obtain ⟨c3, H⟩ := H
    refine r_iast rfl rfl rfl ⟨by decide, by decide⟩ c3 dX10_settles_393 ?_
    refine r_mm (fun M4 e4 => ?_)
    have H := H M4 e4
    have hM4 : sl_RM M4 := by rw [e4]; exact sl_wr_RM hM c3
    refine r_iload_n (k := 1) rfl rfl dX10_settles_394 ?_
    refine r_iret rfl g3 dX10_settles_395 ?_
    exact H
  · have H := H.2 h2
    refine r_aload_n (k := 0) rfl rfl dX10_settles_207 ?_
    refine r_getR (k := 0) (o' := 1) (i' := 1) ckX10 rfl rfl (by decide) rfl rfl rfl fl_X10_7 dX10_settles_208 ?_
    refine r_sipush dX10_settles_211 (by decide) ?_
    refine r_iload (k := 2) rfl dX10_settles_214 ?_
    refine r_iadd dX10_settles_216 ?_
    refine r_aload_n (k := 0) rfl rfl dX10_settles_217 ?_
    refine r_getR (k := 0) (o' := 1) (i' := 1) ckX10 rfl rfl (by decide) rfl rfl rfl fl_X10_7 dX10_settles_218 ?_
    refine r_sipush dX10_settles_221 (by decide) ?_
    refine r_iload (k := 2) rfl dX10_settles_224 ?_
    refine r_iadd dX10_settles_226 ?_
    refine r_iconst dX10_settles_227 ?_
    refine r_iadd dX10_settles_228 ?_
    obtain ⟨c5, H⟩ := H
    refine r_iald rfl rfl rfl c5 dX10_settles_229 ?_
    obtain ⟨c6, H⟩ := H
    refine r_iast rfl rfl rfl c6 (hM _ _ _) dX10_settles_230 ?_
    refine r_mm (fun M7 e7 => ?_)
    have H := H M7 e7
    have hM7 : sl_RM M7 := by rw [e7]; exact sl_wr_RM hM (hM _ _ _)
    refine r_aload_n (k := 0) rfl rfl dX10_settles_231 ?_
    refine r_getR (k := 0) (o' := 1) (i' := 1) ckX10 rfl rfl (by decide) rfl rfl rfl fl_X10_7 dX10_settles_232 ?_
    refine r_sipush dX10_settles_235 (by decide) ?_
    refine r_iload (k := 2) rfl dX10_settles_238 ?_
    refine r_iadd dX10_settles_240 ?_
    refine r_aload_n (k := 0) rfl rfl dX10_settles_241 ?_
    refine r_getR (k := 0) (o' := 1) (i' := 1) ckX10 rfl rfl (by decide) rfl rfl rfl fl_X10_7 dX10_settles_242 ?_
    refine r_sipush dX10_settles_245 (by decide) ?_
    refine r_iload (k := 2) rfl dX10_settles_248 ?_
    refine r_iadd dX10_settles_250 ?_
    refine r_iconst dX10_settles_251 ?_
    refine r_iadd dX10_settles_252 ?_
    obtain ⟨c8, H⟩ := H
    refine r_iald rfl rfl rfl c8 dX10_settles_253 ?_
    obtain ⟨c9, H⟩ := H
    refine r_iast rfl rfl rfl c9 (hM7 _ _ _) dX10_settles_254 ?_
    refine r_mm (fun M10 e10 => ?_)
    have H := H M10 e10
    have hM10 : sl_RM M10 := by rw [e10]; exact sl_wr_RM hM7 (hM7 _ _ _)
    refine r_aload_n (k := 0) rfl rfl dX10_settles_255 ?_
    refine r_getR (k := 0) (o' := 1) (i' := 1) ckX10 rfl rfl (by decide) rfl rfl rfl fl_X10_7 dX10_settles_256 ?_
    refine r_sipush dX10_settles_259 (by decide) ?_
    refine r_iload (k := 2) rfl dX10_settles_262 ?_
    refine r_iadd dX10_settles_264 ?_
    refine r_aload_n (k := 0) rfl rfl dX10_settles_265 ?_
    refine r_getR (k := 0) (o' := 1) (i' := 1) ckX10 rfl rfl (by decide) rfl rfl rfl fl_X10_7 dX10_settles_266 ?_
    refine r_sipush dX10_settles_269 (by decide) ?_
    refine r_iload (k := 2) rfl dX10_settles_272 ?_
    refine r_iadd dX10_settles_274 ?_
    refine r_iconst dX10_settles_275 ?_
    refine r_iadd dX10_settles_276 ?_
    obtain ⟨c11, H⟩ := H
    refine r_iald rfl rfl rfl c11 dX10_settles_277 ?_
    obtain ⟨c12, H⟩ := H
    refine r_iast rfl rfl rfl c12 (hM10 _ _ _) dX10_settles_278 ?_
    refine r_mm (fun M13 e13 => ?_)
    have H := H M13 e13
    have hM13 : sl_RM M13 := by rw [e13]; exact sl_wr_RM hM10 (hM10 _ _ _)
    refine r_aload_n (k := 0) rfl rfl dX10_settles_279 ?_
    refine r_getR (k := 0) (o' := 1) (i' := 1) ckX10 rfl rfl (by decide) rfl rfl rfl fl_X10_7 dX10_settles_280 ?_
    refine r_sipush dX10_settles_283 (by decide) ?_
    refine r_iload (k := 2) rfl dX10_settles_286 ?_
    refine r_iadd dX10_settles_288 ?_
    refine r_aload_n (k := 0) rfl rfl dX10_settles_289 ?_
    refine r_getR (k := 0) (o' := 1) (i' := 1) ckX10 rfl rfl (by decide) rfl rfl rfl fl_X10_7 dX10_settles_290 ?_
    refine r_sipush dX10_settles_293 (by decide) ?_
    refine r_iload (k := 2) rfl dX10_settles_296 ?_
    refine r_iadd dX10_settles_298 ?_
    refine r_iconst dX10_settles_299 ?_
    refine r_iadd dX10_settles_300 ?_
    obtain ⟨c14, H⟩ := H
    refine r_iald rfl rfl rfl c14 dX10_settles_301 ?_
    obtain ⟨c15, H⟩ := H
    refine r_iast rfl rfl rfl c15 (hM13 _ _ _) dX10_settles_302 ?_
    refine r_mm (fun M16 e16 => ?_)
    have H := H M16 e16
    have hM16 : sl_RM M16 := by rw [e16]; exact sl_wr_RM hM13 (hM13 _ _ _)
    refine r_aload_n (k := 0) rfl rfl dX10_settles_303 ?_
    refine r_getR (k := 0) (o' := 1) (i' := 1) ckX10 rfl rfl (by decide) rfl rfl rfl fl_X10_7 dX10_settles_304 ?_
    refine r_sipush dX10_settles_307 (by decide) ?_
    refine r_iload (k := 2) rfl dX10_settles_310 ?_
    refine r_iadd dX10_settles_312 ?_
    refine r_aload_n (k := 0) rfl rfl dX10_settles_313 ?_
    refine r_getR (k := 0) (o' := 1) (i' := 1) ckX10 rfl rfl (by decide) rfl rfl rfl fl_X10_7 dX10_settles_314 ?_
    refine r_sipush dX10_settles_317 (by decide) ?_
    refine r_iload (k := 2) rfl dX10_settles_320 ?_
    refine r_iadd dX10_settles_322 ?_
    refine r_iconst dX10_settles_323 ?_
    refine r_iadd dX10_settles_324 ?_
    obtain ⟨c17, H⟩ := H
    refine r_iald rfl rfl rfl c17 dX10_settles_325 ?_
    obtain ⟨c18, H⟩ := H
    refine r_iast rfl rfl rfl c18 (hM16 _ _ _) dX10_settles_326 ?_
    refine r_mm (fun M19 e19 => ?_)
    have H := H M19 e19
    have hM19 : sl_RM M19 := by rw [e19]; exact sl_wr_RM hM16 (hM16 _ _ _)
    refine r_iconst dX10_settles_327 ?_
    refine r_istore (ls' := [(5, vI 0), (0, vR 1 0), (3, vI x3), (4, vI x4)]) ⟨by decide, by decide⟩ (by decide) rfl dX10_settles_328 ?_
    exact sl_At.sub [1, 2, 3, 0] rfl H
set_option maxHeartbeats 4000000 in
set_option maxRecDepth 10000 in
theorem vX10_settles_330 {l : Launch} {M : sl_M} {Q : sl_R} {x3 x4 x5 : Int} (H : sl_RM M → sl_rg x3 → sl_rg x4 → sl_rg x5 → ((4 ≤ x5) → (sl_rg (x4 + 1)) ∧ sl_At l mX10_settles 192 [(0, vR 1 0), (3, vI x3), (4, vI (x4 + 1))] [] M Q) ∧ ((¬ (4 ≤ x5)) → (0 ≤ (777 + (4 * (x4 + 1))) + x5 ∧ (777 + (4 * (x4 + 1))) + x5 < 990) ∧ (0 ≤ (777 + (4 * x4)) + x5 ∧ (777 + (4 * x4)) + x5 < 990) ∧ (∀ M5, M5 = sl_wr M 1 1 ((777 + (4 * x4)) + x5) (M 1 1 ((777 + (4 * (x4 + 1))) + x5)) → (sl_rg (x5 + 1)) ∧ sl_At l mX10_settles 330 [(0, vR 1 0), (3, vI x3), (4, vI x4), (5, vI (x5 + 1))] [] M5 Q))) : sl_At l mX10_settles 330 [(0, vR 1 0), (3, vI x3), (4, vI x4), (5, vI x5)] [] M Q := by
  refine sl_At.in (fun hM hls => ?_)
  have g3 : sl_rg x3 := hls _ (List.mem_of_getElem? (i := 1) rfl)
  have g4 : sl_rg x4 := hls _ (List.mem_of_getElem? (i := 2) rfl)
  have g5 : sl_rg x5 := hls _ (List.mem_of_getElem? (i := 3) rfl)
  have H := H hM g3 g4 g5
  refine r_iload (k := 3) rfl dX10_settles_330 ?_
  refine r_iconst dX10_settles_332 ?_
  refine r_icmp_ge (tgt := 376) g5 ⟨by decide, by decide⟩ dX10_settles_333 (by decide) (fun h1 => ?_) (fun h1 => ?_)
  · have H := H.1 h1
    obtain ⟨c2, H⟩ := H
    refine r_iinc (k := 2) (ls' := [(4, vI (x4 + 1)), (0, vR 1 0), (3, vI x3), (5, vI x5)]) rfl c2 (by decide) rfl dX10_settles_376 ?_
    refine r_goto (tgt := 192) dX10_settles_379 (by decide) ?_
    exact sl_At.sub [1, 2, 0] rfl H
  · have H := H.2 h1
    refine r_aload_n (k := 0) rfl rfl dX10_settles_336 ?_
    refine r_getR (k := 0) (o' := 1) (i' := 1) ckX10 rfl rfl (by decide) rfl rfl rfl fl_X10_7 dX10_settles_337 ?_
    refine r_sipush dX10_settles_340 (by decide) ?_
    refine r_iconst dX10_settles_343 ?_
    refine r_iload (k := 2) rfl dX10_settles_344 ?_
    refine r_imul dX10_settles_346 ?_
    refine r_iadd dX10_settles_347 ?_
    refine r_iload (k := 3) rfl dX10_settles_348 ?_
    refine r_iadd dX10_settles_350 ?_
    refine r_aload_n (k := 0) rfl rfl dX10_settles_351 ?_
    refine r_getR (k := 0) (o' := 1) (i' := 1) ckX10 rfl rfl (by decide) rfl rfl rfl fl_X10_7 dX10_settles_352 ?_
    refine r_sipush dX10_settles_355 (by decide) ?_
    refine r_iconst dX10_settles_358 ?_
    refine r_iload (k := 2) rfl dX10_settles_359 ?_
    refine r_iconst dX10_settles_361 ?_
    refine r_iadd dX10_settles_362 ?_
    refine r_imul dX10_settles_363 ?_
    refine r_iadd dX10_settles_364 ?_
    refine r_iload (k := 3) rfl dX10_settles_365 ?_
    refine r_iadd dX10_settles_367 ?_
    obtain ⟨c3, H⟩ := H
    refine r_iald rfl rfl rfl c3 dX10_settles_368 ?_
    obtain ⟨c4, H⟩ := H
    refine r_iast rfl rfl rfl c4 (hM _ _ _) dX10_settles_369 ?_
    refine r_mm (fun M5 e5 => ?_)
    have H := H M5 e5
    have hM5 : sl_RM M5 := by rw [e5]; exact sl_wr_RM hM (hM _ _ _)
    obtain ⟨c6, H⟩ := H
    refine r_iinc (k := 3) (ls' := [(5, vI (x5 + 1)), (0, vR 1 0), (3, vI x3), (4, vI x4)]) rfl c6 (by decide) rfl dX10_settles_370 ?_
    refine r_goto (tgt := 330) dX10_settles_373 (by decide) ?_
    exact sl_At.sub [1, 2, 3, 0] rfl H
theorem eX10_settles {l : Launch} {M : sl_M} {Q : sl_R} {x1 : Int} (k : sl_At l mX10_settles 0 [(0, vR 1 0), (1, vI x1)] [] M Q) : sl_Runs l mX10_settles [vR 1 0, vI x1] M Q := sl_Runs.of (ls := [(0, vR 1 0), (1, vI x1)]) rfl rfl (fun _ => rfl) (fun _ => Nat.le_of_ble_eq_true rfl) rfl (k)
theorem dX10_endOf_0 : decode cX10_endOf 0 = .ok (.aload_n 0, 1) := by decide +kernel
theorem dX10_endOf_1 : decode cX10_endOf 1 = .ok (.getfield 7, 3) := by decide +kernel
theorem dX10_endOf_4 : decode cX10_endOf 4 = .ok (.bipush 41, 2) := by decide +kernel
theorem dX10_endOf_6 : decode cX10_endOf 6 = .ok (.aload_n 0, 1) := by decide +kernel
theorem dX10_endOf_7 : decode cX10_endOf 7 = .ok (.getfield 7, 3) := by decide +kernel
theorem dX10_endOf_10 : decode cX10_endOf 10 = .ok (.sipush 765, 3) := by decide +kernel
theorem dX10_endOf_13 : decode cX10_endOf 13 = .ok (.iload_n 1, 1) := by decide +kernel
theorem dX10_endOf_14 : decode cX10_endOf 14 = .ok (.iadd, 1) := by decide +kernel
theorem dX10_endOf_15 : decode cX10_endOf 15 = .ok (.iaload, 1) := by decide +kernel
theorem dX10_endOf_16 : decode cX10_endOf 16 = .ok (.iadd, 1) := by decide +kernel
theorem dX10_endOf_17 : decode cX10_endOf 17 = .ok (.iaload, 1) := by decide +kernel
theorem dX10_endOf_18 : decode cX10_endOf 18 = .ok (.ireturn, 1) := by decide +kernel
set_option maxHeartbeats 4000000 in
set_option maxRecDepth 10000 in
theorem vX10_endOf_0 {l : Launch} {M : sl_M} {Q : sl_R} {x1 : Int} (H : sl_RM M → sl_rg x1 → (0 ≤ 765 + x1 ∧ 765 + x1 < 990) ∧ (0 ≤ 41 + (M 1 1 (765 + x1)) ∧ 41 + (M 1 1 (765 + x1)) < 990) ∧ Q (some (vI (M 1 1 (41 + (M 1 1 (765 + x1)))))) M) : sl_At l mX10_endOf 0 [(0, vR 1 0), (1, vI x1)] [] M Q := by
  refine sl_At.in (fun hM hls => ?_)
  have g1 : sl_rg x1 := hls _ (List.mem_of_getElem? (i := 1) rfl)
  have H := H hM g1
  refine r_aload_n (k := 0) rfl rfl dX10_endOf_0 ?_
  refine r_getR (k := 0) (o' := 1) (i' := 1) ckX10 rfl rfl (by decide) rfl rfl rfl fl_X10_7 dX10_endOf_1 ?_
  refine r_bipush dX10_endOf_4 (by decide) ?_
  refine r_aload_n (k := 0) rfl rfl dX10_endOf_6 ?_
  refine r_getR (k := 0) (o' := 1) (i' := 1) ckX10 rfl rfl (by decide) rfl rfl rfl fl_X10_7 dX10_endOf_7 ?_
  refine r_sipush dX10_endOf_10 (by decide) ?_
  refine r_iload_n (k := 1) rfl rfl dX10_endOf_13 ?_
  refine r_iadd dX10_endOf_14 ?_
  obtain ⟨c1, H⟩ := H
  refine r_iald rfl rfl rfl c1 dX10_endOf_15 ?_
  refine r_iadd dX10_endOf_16 ?_
  obtain ⟨c2, H⟩ := H
  refine r_iald rfl rfl rfl c2 dX10_endOf_17 ?_
  refine r_iret rfl (hM _ _ _) dX10_endOf_18 ?_
  exact H
theorem eX10_endOf {l : Launch} {M : sl_M} {Q : sl_R} {x1 : Int} (k : sl_At l mX10_endOf 0 [(0, vR 1 0), (1, vI x1)] [] M Q) : sl_Runs l mX10_endOf [vR 1 0, vI x1] M Q := sl_Runs.of (ls := [(0, vR 1 0), (1, vI x1)]) rfl rfl (fun _ => rfl) (fun _ => Nat.le_of_ble_eq_true rfl) rfl (k)
theorem dX10_partEnd_0 : decode cX10_partEnd 0 = .ok (.iconst 1, 1) := by decide +kernel
theorem dX10_partEnd_1 : decode cX10_partEnd 1 = .ok (.istore_n 3, 1) := by decide +kernel
theorem dX10_partEnd_2 : decode cX10_partEnd 2 = .ok (.iload_n 2, 1) := by decide +kernel
theorem dX10_partEnd_3 : decode cX10_partEnd 3 = .ok (.istore 4, 2) := by decide +kernel
theorem dX10_partEnd_5 : decode cX10_partEnd 5 = .ok (.iload_n 3, 1) := by decide +kernel
theorem dX10_partEnd_6 : decode cX10_partEnd 6 = .ok (.ifCond .le 39, 3) := by decide +kernel
theorem dX10_partEnd_9 : decode cX10_partEnd 9 = .ok (.iload_n 3, 1) := by decide +kernel
theorem dX10_partEnd_10 : decode cX10_partEnd 10 = .ok (.aload_n 0, 1) := by decide +kernel
theorem dX10_partEnd_11 : decode cX10_partEnd 11 = .ok (.getfield 7, 3) := by decide +kernel
theorem dX10_partEnd_14 : decode cX10_partEnd 14 = .ok (.sipush 281, 3) := by decide +kernel
theorem dX10_partEnd_17 : decode cX10_partEnd 17 = .ok (.bipush 12, 2) := by decide +kernel
theorem dX10_partEnd_19 : decode cX10_partEnd 19 = .ok (.iload_n 1, 1) := by decide +kernel
theorem dX10_partEnd_20 : decode cX10_partEnd 20 = .ok (.imul, 1) := by decide +kernel
theorem dX10_partEnd_21 : decode cX10_partEnd 21 = .ok (.iadd, 1) := by decide +kernel
theorem dX10_partEnd_22 : decode cX10_partEnd 22 = .ok (.iload 4, 2) := by decide +kernel
theorem dX10_partEnd_24 : decode cX10_partEnd 24 = .ok (.iadd, 1) := by decide +kernel
theorem dX10_partEnd_25 : decode cX10_partEnd 25 = .ok (.iaload, 1) := by decide +kernel
theorem dX10_partEnd_26 : decode cX10_partEnd 26 = .ok (.invokestatic 161, 3) := by decide +kernel
theorem dX10_partEnd_29 : decode cX10_partEnd 29 = .ok (.ifCond .eq 7, 3) := by decide +kernel
theorem dX10_partEnd_32 : decode cX10_partEnd 32 = .ok (.iconst 1, 1) := by decide +kernel
theorem dX10_partEnd_33 : decode cX10_partEnd 33 = .ok (.goto 4, 3) := by decide +kernel
theorem dX10_partEnd_36 : decode cX10_partEnd 36 = .ok (.iconst (-1), 1) := by decide +kernel
theorem dX10_partEnd_37 : decode cX10_partEnd 37 = .ok (.iadd, 1) := by decide +kernel
theorem dX10_partEnd_38 : decode cX10_partEnd 38 = .ok (.istore_n 3, 1) := by decide +kernel
theorem dX10_partEnd_39 : decode cX10_partEnd 39 = .ok (.iinc 4 1, 3) := by decide +kernel
theorem dX10_partEnd_42 : decode cX10_partEnd 42 = .ok (.goto (-37), 3) := by decide +kernel
theorem dX10_partEnd_45 : decode cX10_partEnd 45 = .ok (.iload 4, 2) := by decide +kernel
theorem dX10_partEnd_47 : decode cX10_partEnd 47 = .ok (.ireturn, 1) := by decide +kernel
set_option maxHeartbeats 4000000 in
set_option maxRecDepth 10000 in
theorem vX10_partEnd_0 {l : Launch} {M : sl_M} {Q : sl_R} {x1 x2 : Int} (H : sl_RM M → sl_rg x1 → sl_rg x2 → sl_At l mX10_partEnd 5 [(0, vR 1 0), (1, vI x1), (3, vI 1), (4, vI x2)] [] M Q) : sl_At l mX10_partEnd 0 [(0, vR 1 0), (1, vI x1), (2, vI x2)] [] M Q := by
  refine sl_At.in (fun hM hls => ?_)
  have g1 : sl_rg x1 := hls _ (List.mem_of_getElem? (i := 1) rfl)
  have g2 : sl_rg x2 := hls _ (List.mem_of_getElem? (i := 2) rfl)
  have H := H hM g1 g2
  refine r_iconst dX10_partEnd_0 ?_
  refine r_istore_n (ls' := [(3, vI 1), (0, vR 1 0), (1, vI x1), (2, vI x2)]) ⟨by decide, by decide⟩ rfl (by decide) rfl dX10_partEnd_1 ?_
  refine r_iload_n (k := 3) rfl rfl dX10_partEnd_2 ?_
  refine r_istore (ls' := [(4, vI x2), (3, vI 1), (0, vR 1 0), (1, vI x1), (2, vI x2)]) g2 (by decide) rfl dX10_partEnd_3 ?_
  exact sl_At.sub [2, 3, 1, 0] rfl H
set_option maxHeartbeats 4000000 in
set_option maxRecDepth 10000 in
theorem vX10_partEnd_5 {l : Launch} {M : sl_M} {Q : sl_R} {x1 x3 x4 : Int} (H : sl_RM M → sl_rg x1 → sl_rg x3 → sl_rg x4 → ((x3 ≤ 0) → Q (some (vI x4)) M) ∧ ((¬ (x3 ≤ 0)) → (0 ≤ (281 + (12 * x1)) + x4 ∧ (281 + (12 * x1)) + x4 < 990) ∧ (sl_rg (x3 + (if ¬ (sp_op (M 1 1 ((281 + (12 * x1)) + x4))) then (-1) else 1))) ∧ (∀ y5 : Int, y5 = x3 + (if ¬ (sp_op (M 1 1 ((281 + (12 * x1)) + x4))) then (-1) else 1) → (sl_rg (x4 + 1)) ∧ sl_At l mX10_partEnd 5 [(0, vR 1 0), (1, vI x1), (3, vI y5), (4, vI (x4 + 1))] [] M Q))) : sl_At l mX10_partEnd 5 [(0, vR 1 0), (1, vI x1), (3, vI x3), (4, vI x4)] [] M Q := by
  refine sl_At.in (fun hM hls => ?_)
  have g1 : sl_rg x1 := hls _ (List.mem_of_getElem? (i := 1) rfl)
  have g3 : sl_rg x3 := hls _ (List.mem_of_getElem? (i := 2) rfl)
  have g4 : sl_rg x4 := hls _ (List.mem_of_getElem? (i := 3) rfl)
  have H := H hM g1 g3 g4
  refine r_iload_n (k := 2) rfl rfl dX10_partEnd_5 ?_
  refine r_if_le (tgt := 45) g3 dX10_partEnd_6 (by decide) (fun h1 => ?_) (fun h1 => ?_)
  · have H := H.1 h1
    refine r_iload (k := 3) rfl dX10_partEnd_45 ?_
    refine r_iret rfl g4 dX10_partEnd_47 ?_
    exact H
  · have H := H.2 h1
    refine r_iload_n (k := 2) rfl rfl dX10_partEnd_9 ?_
    refine r_aload_n (k := 0) rfl rfl dX10_partEnd_10 ?_
    refine r_getR (k := 0) (o' := 1) (i' := 1) ckX10 rfl rfl (by decide) rfl rfl rfl fl_X10_7 dX10_partEnd_11 ?_
    refine r_sipush dX10_partEnd_14 (by decide) ?_
    refine r_bipush dX10_partEnd_17 (by decide) ?_
    refine r_iload_n (k := 1) rfl rfl dX10_partEnd_19 ?_
    refine r_imul dX10_partEnd_20 ?_
    refine r_iadd dX10_partEnd_21 ?_
    refine r_iload (k := 3) rfl dX10_partEnd_22 ?_
    refine r_iadd dX10_partEnd_24 ?_
    obtain ⟨c2, H⟩ := H
    refine r_iald rfl rfl rfl c2 dX10_partEnd_25 ?_
    refine r_callS (g := mX10_isAct) rfl mkX10_isAct msX10_isAct ml_X10_161 ⟨by decide, by decide⟩ rfl (Nat.le_of_ble_eq_true rfl) rfl (ok_i (hM _ _ _) ok_n) dX10_partEnd_26 (sl_afterI (sl_RI.by kX10_isAct ?_))
    have J : sl_At l mX10_partEnd 37 [(0, vR 1 0), (1, vI x1), (3, vI x3), (4, vI x4)] [vI (if ¬ (sp_op (M 1 1 ((281 + (12 * x1)) + x4))) then (-1) else 1), vI x3] M Q := by
      refine r_iadd dX10_partEnd_37 ?_
      obtain ⟨c4, H⟩ := H
      refine r_nm (fun y5 fy5 => ?_)
      have H := H y5 fy5
      have gy5 : sl_rg y5 := by rw [fy5]; exact c4
      refine r_istore_n (ls' := [(3, vI y5), (0, vR 1 0), (1, vI x1), (4, vI x4)]) gy5 rfl (by decide) rfl dX10_partEnd_38 ?_
      obtain ⟨c6, H⟩ := H
      refine r_iinc (k := 3) (ls' := [(4, vI (x4 + 1)), (3, vI y5), (0, vR 1 0), (1, vI x1)]) rfl c6 (by decide) rfl dX10_partEnd_39 ?_
      refine r_goto (tgt := 5) dX10_partEnd_42 (by decide) ?_
      exact sl_At.sub [2, 3, 1, 0] rfl H
    refine r_if_eq (tgt := 36) rg_b dX10_partEnd_29 (by decide) (fun h3 => ?_) (fun h3 => ?_)
    · replace h3 := (b_eq0.mp h3)
      refine r_iconst dX10_partEnd_36 ?_
      rw [if_pos h3] at J
      exact J
    · replace h3 := (b_ne0.mp h3)
      refine r_iconst dX10_partEnd_32 ?_
      refine r_goto (tgt := 37) dX10_partEnd_33 (by decide) ?_
      rw [if_neg (fun q => q h3)] at J
      exact J
theorem eX10_partEnd {l : Launch} {M : sl_M} {Q : sl_R} {x1 x2 : Int} (k : sl_At l mX10_partEnd 0 [(0, vR 1 0), (1, vI x1), (2, vI x2)] [] M Q) : sl_Runs l mX10_partEnd [vR 1 0, vI x1, vI x2] M Q := sl_Runs.of (ls := [(0, vR 1 0), (1, vI x1), (2, vI x2)]) rfl rfl (fun _ => rfl) (fun _ => Nat.le_of_ble_eq_true rfl) rfl (k)
theorem dX10_mayFail_0 : decode cX10_mayFail 0 = .ok (.iconst 0, 1) := by decide +kernel
theorem dX10_mayFail_1 : decode cX10_mayFail 1 = .ok (.istore_n 2, 1) := by decide +kernel
theorem dX10_mayFail_2 : decode cX10_mayFail 2 = .ok (.aload_n 0, 1) := by decide +kernel
theorem dX10_mayFail_3 : decode cX10_mayFail 3 = .ok (.getfield 7, 3) := by decide +kernel
theorem dX10_mayFail_6 : decode cX10_mayFail 6 = .ok (.sipush 762, 3) := by decide +kernel
theorem dX10_mayFail_9 : decode cX10_mayFail 9 = .ok (.iload_n 1, 1) := by decide +kernel
theorem dX10_mayFail_10 : decode cX10_mayFail 10 = .ok (.iadd, 1) := by decide +kernel
theorem dX10_mayFail_11 : decode cX10_mayFail 11 = .ok (.iaload, 1) := by decide +kernel
theorem dX10_mayFail_12 : decode cX10_mayFail 12 = .ok (.istore_n 3, 1) := by decide +kernel
theorem dX10_mayFail_13 : decode cX10_mayFail 13 = .ok (.iload_n 3, 1) := by decide +kernel
theorem dX10_mayFail_14 : decode cX10_mayFail 14 = .ok (.aload_n 0, 1) := by decide +kernel
theorem dX10_mayFail_15 : decode cX10_mayFail 15 = .ok (.iload_n 1, 1) := by decide +kernel
theorem dX10_mayFail_16 : decode cX10_mayFail 16 = .ok (.invokevirtual 344, 3) := by decide +kernel
theorem dX10_mayFail_19 : decode cX10_mayFail 19 = .ok (.if_icmp .ge 108, 3) := by decide +kernel
theorem dX10_mayFail_22 : decode cX10_mayFail 22 = .ok (.iconst 0, 1) := by decide +kernel
theorem dX10_mayFail_23 : decode cX10_mayFail 23 = .ok (.istore 4, 2) := by decide +kernel
theorem dX10_mayFail_25 : decode cX10_mayFail 25 = .ok (.iload 4, 2) := by decide +kernel
theorem dX10_mayFail_27 : decode cX10_mayFail 27 = .ok (.aload_n 0, 1) := by decide +kernel
theorem dX10_mayFail_28 : decode cX10_mayFail 28 = .ok (.getfield 7, 3) := by decide +kernel
theorem dX10_mayFail_31 : decode cX10_mayFail 31 = .ok (.sipush 241, 3) := by decide +kernel
theorem dX10_mayFail_34 : decode cX10_mayFail 34 = .ok (.iload_n 3, 1) := by decide +kernel
theorem dX10_mayFail_35 : decode cX10_mayFail 35 = .ok (.iadd, 1) := by decide +kernel
theorem dX10_mayFail_36 : decode cX10_mayFail 36 = .ok (.iaload, 1) := by decide +kernel
theorem dX10_mayFail_37 : decode cX10_mayFail 37 = .ok (.if_icmp .ge 84, 3) := by decide +kernel
theorem dX10_mayFail_40 : decode cX10_mayFail 40 = .ok (.aload_n 0, 1) := by decide +kernel
theorem dX10_mayFail_41 : decode cX10_mayFail 41 = .ok (.getfield 7, 3) := by decide +kernel
theorem dX10_mayFail_44 : decode cX10_mayFail 44 = .ok (.sipush 281, 3) := by decide +kernel
theorem dX10_mayFail_47 : decode cX10_mayFail 47 = .ok (.bipush 12, 2) := by decide +kernel
theorem dX10_mayFail_49 : decode cX10_mayFail 49 = .ok (.iload_n 3, 1) := by decide +kernel
theorem dX10_mayFail_50 : decode cX10_mayFail 50 = .ok (.imul, 1) := by decide +kernel
theorem dX10_mayFail_51 : decode cX10_mayFail 51 = .ok (.iadd, 1) := by decide +kernel
theorem dX10_mayFail_52 : decode cX10_mayFail 52 = .ok (.iload 4, 2) := by decide +kernel
theorem dX10_mayFail_54 : decode cX10_mayFail 54 = .ok (.iadd, 1) := by decide +kernel
theorem dX10_mayFail_55 : decode cX10_mayFail 55 = .ok (.iaload, 1) := by decide +kernel
theorem dX10_mayFail_56 : decode cX10_mayFail 56 = .ok (.istore 5, 2) := by decide +kernel
theorem dX10_mayFail_58 : decode cX10_mayFail 58 = .ok (.iload_n 2, 1) := by decide +kernel
theorem dX10_mayFail_59 : decode cX10_mayFail 59 = .ok (.ifCond .ne 50, 3) := by decide +kernel
theorem dX10_mayFail_62 : decode cX10_mayFail 62 = .ok (.iload 5, 2) := by decide +kernel
theorem dX10_mayFail_64 : decode cX10_mayFail 64 = .ok (.bipush 47, 2) := by decide +kernel
theorem dX10_mayFail_66 : decode cX10_mayFail 66 = .ok (.if_icmp .eq 10, 3) := by decide +kernel
theorem dX10_mayFail_69 : decode cX10_mayFail 69 = .ok (.iload 5, 2) := by decide +kernel
theorem dX10_mayFail_71 : decode cX10_mayFail 71 = .ok (.bipush 37, 2) := by decide +kernel
theorem dX10_mayFail_73 : decode cX10_mayFail 73 = .ok (.if_icmp .ne 40, 3) := by decide +kernel
theorem dX10_mayFail_76 : decode cX10_mayFail 76 = .ok (.aload_n 0, 1) := by decide +kernel
theorem dX10_mayFail_77 : decode cX10_mayFail 77 = .ok (.getfield 7, 3) := by decide +kernel
theorem dX10_mayFail_80 : decode cX10_mayFail 80 = .ok (.sipush 281, 3) := by decide +kernel
theorem dX10_mayFail_83 : decode cX10_mayFail 83 = .ok (.bipush 12, 2) := by decide +kernel
theorem dX10_mayFail_85 : decode cX10_mayFail 85 = .ok (.iload_n 3, 1) := by decide +kernel
theorem dX10_mayFail_86 : decode cX10_mayFail 86 = .ok (.imul, 1) := by decide +kernel
theorem dX10_mayFail_87 : decode cX10_mayFail 87 = .ok (.iadd, 1) := by decide +kernel
theorem dX10_mayFail_88 : decode cX10_mayFail 88 = .ok (.aload_n 0, 1) := by decide +kernel
theorem dX10_mayFail_89 : decode cX10_mayFail 89 = .ok (.iload_n 3, 1) := by decide +kernel
theorem dX10_mayFail_90 : decode cX10_mayFail 90 = .ok (.iload 4, 2) := by decide +kernel
theorem dX10_mayFail_92 : decode cX10_mayFail 92 = .ok (.iconst 1, 1) := by decide +kernel
theorem dX10_mayFail_93 : decode cX10_mayFail 93 = .ok (.iadd, 1) := by decide +kernel
theorem dX10_mayFail_94 : decode cX10_mayFail 94 = .ok (.invokevirtual 347, 3) := by decide +kernel
theorem dX10_mayFail_97 : decode cX10_mayFail 97 = .ok (.iadd, 1) := by decide +kernel
theorem dX10_mayFail_98 : decode cX10_mayFail 98 = .ok (.iaload, 1) := by decide +kernel
theorem dX10_mayFail_99 : decode cX10_mayFail 99 = .ok (.bipush 49, 2) := by decide +kernel
theorem dX10_mayFail_101 : decode cX10_mayFail 101 = .ok (.bipush 57, 2) := by decide +kernel
theorem dX10_mayFail_103 : decode cX10_mayFail 103 = .ok (.invokestatic 135, 3) := by decide +kernel
theorem dX10_mayFail_106 : decode cX10_mayFail 106 = .ok (.ifCond .ne 7, 3) := by decide +kernel
theorem dX10_mayFail_109 : decode cX10_mayFail 109 = .ok (.iconst 1, 1) := by decide +kernel
theorem dX10_mayFail_110 : decode cX10_mayFail 110 = .ok (.goto 4, 3) := by decide +kernel
theorem dX10_mayFail_113 : decode cX10_mayFail 113 = .ok (.iconst 0, 1) := by decide +kernel
theorem dX10_mayFail_114 : decode cX10_mayFail 114 = .ok (.istore_n 2, 1) := by decide +kernel
theorem dX10_mayFail_115 : decode cX10_mayFail 115 = .ok (.iinc 4 1, 3) := by decide +kernel
theorem dX10_mayFail_118 : decode cX10_mayFail 118 = .ok (.goto (-93), 3) := by decide +kernel
theorem dX10_mayFail_121 : decode cX10_mayFail 121 = .ok (.iinc 3 1, 3) := by decide +kernel
theorem dX10_mayFail_124 : decode cX10_mayFail 124 = .ok (.goto (-111), 3) := by decide +kernel
theorem dX10_mayFail_127 : decode cX10_mayFail 127 = .ok (.iload_n 2, 1) := by decide +kernel
theorem dX10_mayFail_128 : decode cX10_mayFail 128 = .ok (.ireturn, 1) := by decide +kernel
set_option maxHeartbeats 4000000 in
set_option maxRecDepth 10000 in
theorem vX10_mayFail_0 {l : Launch} {M : sl_M} {Q : sl_R} {x1 : Int} (H : sl_RM M → sl_rg x1 → (0 ≤ 762 + x1 ∧ 762 + x1 < 990) ∧ sl_At l mX10_mayFail 13 [(0, vR 1 0), (1, vI x1), (2, vI 0), (3, vI (M 1 1 (762 + x1)))] [] M Q) : sl_At l mX10_mayFail 0 [(0, vR 1 0), (1, vI x1)] [] M Q := by
  refine sl_At.in (fun hM hls => ?_)
  have g1 : sl_rg x1 := hls _ (List.mem_of_getElem? (i := 1) rfl)
  have H := H hM g1
  refine r_iconst dX10_mayFail_0 ?_
  refine r_istore_n (ls' := [(2, vI 0), (0, vR 1 0), (1, vI x1)]) ⟨by decide, by decide⟩ rfl (by decide) rfl dX10_mayFail_1 ?_
  refine r_aload_n (k := 1) rfl rfl dX10_mayFail_2 ?_
  refine r_getR (k := 0) (o' := 1) (i' := 1) ckX10 rfl rfl (by decide) rfl rfl rfl fl_X10_7 dX10_mayFail_3 ?_
  refine r_sipush dX10_mayFail_6 (by decide) ?_
  refine r_iload_n (k := 2) rfl rfl dX10_mayFail_9 ?_
  refine r_iadd dX10_mayFail_10 ?_
  obtain ⟨c1, H⟩ := H
  refine r_iald rfl rfl rfl c1 dX10_mayFail_11 ?_
  refine r_istore_n (ls' := [(3, vI (M 1 1 (762 + x1))), (2, vI 0), (0, vR 1 0), (1, vI x1)]) (hM _ _ _) rfl (by decide) rfl dX10_mayFail_12 ?_
  exact sl_At.sub [2, 3, 1, 0] rfl H
set_option maxHeartbeats 4000000 in
set_option maxRecDepth 10000 in
theorem vX10_mayFail_13 {l : Launch} {M : sl_M} {Q : sl_R} {x1 x2 x3 : Int} (H : sl_RM M → sl_rg x1 → sl_rg x2 → sl_rg x3 → sl_RI l mX10_endOf [vR 1 0, vI x1] M (fun y2 M1 => ((y2 ≤ x3) → (x2 = 0 ∨ x2 = 1) ∧ Q (some (vI x2)) M1) ∧ ((¬ (y2 ≤ x3)) → sl_At l mX10_mayFail 25 [(0, vR 1 0), (1, vI x1), (2, vI x2), (3, vI x3), (4, vI 0)] [] M1 Q))) : sl_At l mX10_mayFail 13 [(0, vR 1 0), (1, vI x1), (2, vI x2), (3, vI x3)] [] M Q := by
  refine sl_At.in (fun hM hls => ?_)
  have g1 : sl_rg x1 := hls _ (List.mem_of_getElem? (i := 1) rfl)
  have g2 : sl_rg x2 := hls _ (List.mem_of_getElem? (i := 2) rfl)
  have g3 : sl_rg x3 := hls _ (List.mem_of_getElem? (i := 3) rfl)
  have H := H hM g1 g2 g3
  refine r_iload_n (k := 3) rfl rfl dX10_mayFail_13 ?_
  refine r_aload_n (k := 0) rfl rfl dX10_mayFail_14 ?_
  refine r_iload_n (k := 1) rfl rfl dX10_mayFail_15 ?_
  refine r_callV (g := mX10_endOf) ckX10 rfl rfl rfl rfl mkX10_endOf mvX10_endOf ml_X10_344 ⟨by decide, by decide⟩ rfl (Nat.le_of_ble_eq_true rfl) rfl (ok_i g1 ok_n) dX10_mayFail_16 (sl_afterI (sl_RI.mono (fun y2 M1 gy2 hM1 H => ?_) H))
  refine r_icmp_ge (tgt := 127) g3 gy2 dX10_mayFail_19 (by decide) (fun h3 => ?_) (fun h3 => ?_)
  · have H := H.1 h3
    refine r_iload_n (k := 2) rfl rfl dX10_mayFail_127 ?_
    obtain ⟨c4, H⟩ := H
    refine r_zret rfl c4 dX10_mayFail_128 ?_
    exact H
  · have H := H.2 h3
    refine r_iconst dX10_mayFail_22 ?_
    refine r_istore (ls' := [(4, vI 0), (0, vR 1 0), (1, vI x1), (2, vI x2), (3, vI x3)]) ⟨by decide, by decide⟩ (by decide) rfl dX10_mayFail_23 ?_
    exact sl_At.sub [1, 2, 3, 4, 0] rfl H
set_option maxHeartbeats 4000000 in
set_option maxRecDepth 10000 in
theorem vX10_mayFail_25 {l : Launch} {M : sl_M} {Q : sl_R} {x1 x2 x3 x4 : Int} (H : sl_RM M → sl_rg x1 → sl_rg x2 → sl_rg x3 → sl_rg x4 → (0 ≤ 241 + x3 ∧ 241 + x3 < 990) ∧ ((M 1 1 (241 + x3) ≤ x4) → (sl_rg (x3 + 1)) ∧ sl_At l mX10_mayFail 13 [(0, vR 1 0), (1, vI x1), (2, vI x2), (3, vI (x3 + 1))] [] M Q) ∧ ((¬ (M 1 1 (241 + x3) ≤ x4)) → (0 ≤ (281 + (12 * x3)) + x4 ∧ (281 + (12 * x3)) + x4 < 990) ∧ ((x2 ≠ 0) → (sl_rg (x4 + 1)) ∧ sl_At l mX10_mayFail 25 [(0, vR 1 0), (1, vI x1), (2, vI 1), (3, vI x3), (4, vI (x4 + 1))] [] M Q) ∧ ((¬ (x2 ≠ 0)) → ((M 1 1 ((281 + (12 * x3)) + x4) = 47) → sl_At l mX10_mayFail 76 [(0, vR 1 0), (1, vI x1), (3, vI x3), (4, vI x4)] [] M Q) ∧ ((¬ (M 1 1 ((281 + (12 * x3)) + x4) = 47)) → ((M 1 1 ((281 + (12 * x3)) + x4) ≠ 37) → (sl_rg (x4 + 1)) ∧ sl_At l mX10_mayFail 25 [(0, vR 1 0), (1, vI x1), (2, vI 0), (3, vI x3), (4, vI (x4 + 1))] [] M Q) ∧ ((¬ (M 1 1 ((281 + (12 * x3)) + x4) ≠ 37)) → sl_At l mX10_mayFail 76 [(0, vR 1 0), (1, vI x1), (3, vI x3), (4, vI x4)] [] M Q))))) : sl_At l mX10_mayFail 25 [(0, vR 1 0), (1, vI x1), (2, vI x2), (3, vI x3), (4, vI x4)] [] M Q := by
  refine sl_At.in (fun hM hls => ?_)
  have g1 : sl_rg x1 := hls _ (List.mem_of_getElem? (i := 1) rfl)
  have g2 : sl_rg x2 := hls _ (List.mem_of_getElem? (i := 2) rfl)
  have g3 : sl_rg x3 := hls _ (List.mem_of_getElem? (i := 3) rfl)
  have g4 : sl_rg x4 := hls _ (List.mem_of_getElem? (i := 4) rfl)
  have H := H hM g1 g2 g3 g4
  refine r_iload (k := 4) rfl dX10_mayFail_25 ?_
  refine r_aload_n (k := 0) rfl rfl dX10_mayFail_27 ?_
  refine r_getR (k := 0) (o' := 1) (i' := 1) ckX10 rfl rfl (by decide) rfl rfl rfl fl_X10_7 dX10_mayFail_28 ?_
  refine r_sipush dX10_mayFail_31 (by decide) ?_
  refine r_iload_n (k := 3) rfl rfl dX10_mayFail_34 ?_
  refine r_iadd dX10_mayFail_35 ?_
  obtain ⟨c1, H⟩ := H
  refine r_iald rfl rfl rfl c1 dX10_mayFail_36 ?_
  refine r_icmp_ge (tgt := 121) g4 (hM _ _ _) dX10_mayFail_37 (by decide) (fun h2 => ?_) (fun h2 => ?_)
  · have H := H.1 h2
    obtain ⟨c3, H⟩ := H
    refine r_iinc (k := 3) (ls' := [(3, vI (x3 + 1)), (0, vR 1 0), (1, vI x1), (2, vI x2), (4, vI x4)]) rfl c3 (by decide) rfl dX10_mayFail_121 ?_
    refine r_goto (tgt := 13) dX10_mayFail_124 (by decide) ?_
    exact sl_At.sub [1, 2, 3, 0] rfl H
  · have H := H.2 h2
    refine r_aload_n (k := 0) rfl rfl dX10_mayFail_40 ?_
    refine r_getR (k := 0) (o' := 1) (i' := 1) ckX10 rfl rfl (by decide) rfl rfl rfl fl_X10_7 dX10_mayFail_41 ?_
    refine r_sipush dX10_mayFail_44 (by decide) ?_
    refine r_bipush dX10_mayFail_47 (by decide) ?_
    refine r_iload_n (k := 3) rfl rfl dX10_mayFail_49 ?_
    refine r_imul dX10_mayFail_50 ?_
    refine r_iadd dX10_mayFail_51 ?_
    refine r_iload (k := 4) rfl dX10_mayFail_52 ?_
    refine r_iadd dX10_mayFail_54 ?_
    obtain ⟨c4, H⟩ := H
    refine r_iald rfl rfl rfl c4 dX10_mayFail_55 ?_
    refine r_istore (ls' := [(5, vI (M 1 1 ((281 + (12 * x3)) + x4))), (0, vR 1 0), (1, vI x1), (2, vI x2), (3, vI x3), (4, vI x4)]) (hM _ _ _) (by decide) rfl dX10_mayFail_56 ?_
    refine r_iload_n (k := 3) rfl rfl dX10_mayFail_58 ?_
    refine r_if_ne (tgt := 109) g2 dX10_mayFail_59 (by decide) (fun h5 => ?_) (fun h5 => ?_)
    · have H := H.1 h5
      refine r_iconst dX10_mayFail_109 ?_
      refine r_goto (tgt := 114) dX10_mayFail_110 (by decide) ?_
      refine r_istore_n (ls' := [(2, vI 1), (5, vI (M 1 1 ((281 + (12 * x3)) + x4))), (0, vR 1 0), (1, vI x1), (3, vI x3), (4, vI x4)]) ⟨by decide, by decide⟩ rfl (by decide) rfl dX10_mayFail_114 ?_
      obtain ⟨c6, H⟩ := H
      refine r_iinc (k := 5) (ls' := [(4, vI (x4 + 1)), (2, vI 1), (5, vI (M 1 1 ((281 + (12 * x3)) + x4))), (0, vR 1 0), (1, vI x1), (3, vI x3)]) rfl c6 (by decide) rfl dX10_mayFail_115 ?_
      refine r_goto (tgt := 25) dX10_mayFail_118 (by decide) ?_
      exact sl_At.sub [3, 4, 1, 5, 0] rfl H
    · have H := H.2 h5
      refine r_iload (k := 0) rfl dX10_mayFail_62 ?_
      refine r_bipush dX10_mayFail_64 (by decide) ?_
      refine r_icmp_eq (tgt := 76) (hM _ _ _) ⟨by decide, by decide⟩ dX10_mayFail_66 (by decide) (fun h7 => ?_) (fun h7 => ?_)
      · have H := H.1 h7
        exact sl_At.sub [1, 2, 4, 5] rfl H
      · have H := H.2 h7
        refine r_iload (k := 0) rfl dX10_mayFail_69 ?_
        refine r_bipush dX10_mayFail_71 (by decide) ?_
        refine r_icmp_ne (tgt := 113) (hM _ _ _) ⟨by decide, by decide⟩ dX10_mayFail_73 (by decide) (fun h8 => ?_) (fun h8 => ?_)
        · have H := H.1 h8
          refine r_iconst dX10_mayFail_113 ?_
          refine r_istore_n (ls' := [(2, vI 0), (5, vI (M 1 1 ((281 + (12 * x3)) + x4))), (0, vR 1 0), (1, vI x1), (3, vI x3), (4, vI x4)]) ⟨by decide, by decide⟩ rfl (by decide) rfl dX10_mayFail_114 ?_
          obtain ⟨c9, H⟩ := H
          refine r_iinc (k := 5) (ls' := [(4, vI (x4 + 1)), (2, vI 0), (5, vI (M 1 1 ((281 + (12 * x3)) + x4))), (0, vR 1 0), (1, vI x1), (3, vI x3)]) rfl c9 (by decide) rfl dX10_mayFail_115 ?_
          refine r_goto (tgt := 25) dX10_mayFail_118 (by decide) ?_
          exact sl_At.sub [3, 4, 1, 5, 0] rfl H
        · have H := H.2 h8
          exact sl_At.sub [1, 2, 4, 5] rfl H
set_option maxHeartbeats 4000000 in
set_option maxRecDepth 10000 in
theorem vX10_mayFail_76 {l : Launch} {M : sl_M} {Q : sl_R} {x1 x3 x4 : Int} (H : sl_RM M → sl_rg x1 → sl_rg x3 → sl_rg x4 → (sl_rg (x4 + 1)) ∧ sl_RI l mX10_partEnd [vR 1 0, vI x3, vI (x4 + 1)] M (fun y3 M2 => (0 ≤ (281 + (12 * x3)) + y3 ∧ (281 + (12 * x3)) + y3 < 990) ∧ (∀ y6 : Int, y6 = (if ¬ (49 ≤ (M2 1 1 ((281 + (12 * x3)) + y3)) ∧ (M2 1 1 ((281 + (12 * x3)) + y3)) ≤ 57) then 1 else 0) → sl_At l mX10_mayFail 25 [(0, vR 1 0), (1, vI x1), (2, vI y6), (3, vI x3), (4, vI (x4 + 1))] [] M2 Q))) : sl_At l mX10_mayFail 76 [(0, vR 1 0), (1, vI x1), (3, vI x3), (4, vI x4)] [] M Q := by
  refine sl_At.in (fun hM hls => ?_)
  have g1 : sl_rg x1 := hls _ (List.mem_of_getElem? (i := 1) rfl)
  have g3 : sl_rg x3 := hls _ (List.mem_of_getElem? (i := 2) rfl)
  have g4 : sl_rg x4 := hls _ (List.mem_of_getElem? (i := 3) rfl)
  have H := H hM g1 g3 g4
  refine r_aload_n (k := 0) rfl rfl dX10_mayFail_76 ?_
  refine r_getR (k := 0) (o' := 1) (i' := 1) ckX10 rfl rfl (by decide) rfl rfl rfl fl_X10_7 dX10_mayFail_77 ?_
  refine r_sipush dX10_mayFail_80 (by decide) ?_
  refine r_bipush dX10_mayFail_83 (by decide) ?_
  refine r_iload_n (k := 2) rfl rfl dX10_mayFail_85 ?_
  refine r_imul dX10_mayFail_86 ?_
  refine r_iadd dX10_mayFail_87 ?_
  refine r_aload_n (k := 0) rfl rfl dX10_mayFail_88 ?_
  refine r_iload_n (k := 2) rfl rfl dX10_mayFail_89 ?_
  refine r_iload (k := 3) rfl dX10_mayFail_90 ?_
  refine r_iconst dX10_mayFail_92 ?_
  refine r_iadd dX10_mayFail_93 ?_
  obtain ⟨c1, H⟩ := H
  refine r_callV (g := mX10_partEnd) ckX10 rfl rfl rfl rfl mkX10_partEnd mvX10_partEnd ml_X10_347 ⟨by decide, by decide⟩ rfl (Nat.le_of_ble_eq_true rfl) rfl (ok_i g3 (ok_i c1 ok_n)) dX10_mayFail_94 (sl_afterI (sl_RI.mono (fun y3 M2 gy3 hM2 H => ?_) H))
  refine r_iadd dX10_mayFail_97 ?_
  obtain ⟨c4, H⟩ := H
  refine r_iald rfl rfl rfl c4 dX10_mayFail_98 ?_
  refine r_bipush dX10_mayFail_99 (by decide) ?_
  refine r_bipush dX10_mayFail_101 (by decide) ?_
  refine r_callS (g := mX10_in) rfl mkX10_in msX10_in ml_X10_135 ⟨by decide, by decide⟩ rfl (Nat.le_of_ble_eq_true rfl) rfl (ok_i (hM2 _ _ _) (ok_i ⟨by decide, by decide⟩ (ok_i ⟨by decide, by decide⟩ ok_n))) dX10_mayFail_103 (sl_afterI (sl_RI.by kX10_in ?_))
  have J : sl_At l mX10_mayFail 114 [(0, vR 1 0), (1, vI x1), (3, vI x3), (4, vI x4)] [vI (if ¬ (49 ≤ (M2 1 1 ((281 + (12 * x3)) + y3)) ∧ (M2 1 1 ((281 + (12 * x3)) + y3)) ≤ 57) then 1 else 0)] M2 Q := by
    refine r_nm (fun y6 fy6 => ?_)
    have H := H y6 fy6
    have gy6 : sl_rg y6 := by rw [fy6]; exact rg_b
    refine r_istore_n (ls' := [(2, vI y6), (0, vR 1 0), (1, vI x1), (3, vI x3), (4, vI x4)]) gy6 rfl (by decide) rfl dX10_mayFail_114 ?_
    refine r_iinc (k := 4) (ls' := [(4, vI (x4 + 1)), (2, vI y6), (0, vR 1 0), (1, vI x1), (3, vI x3)]) rfl c1 (by decide) rfl dX10_mayFail_115 ?_
    refine r_goto (tgt := 25) dX10_mayFail_118 (by decide) ?_
    exact sl_At.sub [2, 3, 1, 4, 0] rfl H
  refine r_if_ne (tgt := 113) rg_b dX10_mayFail_106 (by decide) (fun h5 => ?_) (fun h5 => ?_)
  · replace h5 := (b_ne0.mp h5)
    refine r_iconst dX10_mayFail_113 ?_
    rw [if_neg (show ¬ (¬ (49 ≤ (M2 1 1 ((281 + (12 * x3)) + y3)) ∧ (M2 1 1 ((281 + (12 * x3)) + y3)) ≤ 57)) by omega)] at J
    exact J
  · replace h5 := (b_eq0.mp (Decidable.of_not_not h5))
    refine r_iconst dX10_mayFail_109 ?_
    refine r_goto (tgt := 114) dX10_mayFail_110 (by decide) ?_
    rw [if_pos (show ¬ (49 ≤ (M2 1 1 ((281 + (12 * x3)) + y3)) ∧ (M2 1 1 ((281 + (12 * x3)) + y3)) ≤ 57) by omega)] at J
    exact J
theorem eX10_mayFail {l : Launch} {M : sl_M} {Q : sl_R} {x1 : Int} (k : sl_At l mX10_mayFail 0 [(0, vR 1 0), (1, vI x1)] [] M Q) : sl_Runs l mX10_mayFail [vR 1 0, vI x1] M Q := sl_Runs.of (ls := [(0, vR 1 0), (1, vI x1)]) rfl rfl (fun _ => rfl) (fun _ => Nat.le_of_ble_eq_true rfl) rfl (k)
theorem dX10_methodIs_0 : decode cX10_methodIs 0 = .ok (.iconst 0, 1) := by decide +kernel
theorem dX10_methodIs_1 : decode cX10_methodIs 1 = .ok (.istore_n 3, 1) := by decide +kernel
theorem dX10_methodIs_2 : decode cX10_methodIs 2 = .ok (.iconst 0, 1) := by decide +kernel
theorem dX10_methodIs_3 : decode cX10_methodIs 3 = .ok (.istore 4, 2) := by decide +kernel
theorem dX10_methodIs_5 : decode cX10_methodIs 5 = .ok (.iload 4, 2) := by decide +kernel
theorem dX10_methodIs_7 : decode cX10_methodIs 7 = .ok (.aload_n 0, 1) := by decide +kernel
theorem dX10_methodIs_8 : decode cX10_methodIs 8 = .ok (.getfield 7, 3) := by decide +kernel
theorem dX10_methodIs_11 : decode cX10_methodIs 11 = .ok (.sipush 789, 3) := by decide +kernel
theorem dX10_methodIs_14 : decode cX10_methodIs 14 = .ok (.iaload, 1) := by decide +kernel
theorem dX10_methodIs_15 : decode cX10_methodIs 15 = .ok (.if_icmp .ge 32, 3) := by decide +kernel
theorem dX10_methodIs_18 : decode cX10_methodIs 18 = .ok (.iload_n 3, 1) := by decide +kernel
theorem dX10_methodIs_19 : decode cX10_methodIs 19 = .ok (.aload_n 0, 1) := by decide +kernel
theorem dX10_methodIs_20 : decode cX10_methodIs 20 = .ok (.getfield 7, 3) := by decide +kernel
theorem dX10_methodIs_23 : decode cX10_methodIs 23 = .ok (.sipush 870, 3) := by decide +kernel
theorem dX10_methodIs_26 : decode cX10_methodIs 26 = .ok (.iload 4, 2) := by decide +kernel
theorem dX10_methodIs_28 : decode cX10_methodIs 28 = .ok (.iadd, 1) := by decide +kernel
theorem dX10_methodIs_29 : decode cX10_methodIs 29 = .ok (.iaload, 1) := by decide +kernel
theorem dX10_methodIs_30 : decode cX10_methodIs 30 = .ok (.iload_n 1, 1) := by decide +kernel
theorem dX10_methodIs_31 : decode cX10_methodIs 31 = .ok (.if_icmp .ne 7, 3) := by decide +kernel
theorem dX10_methodIs_34 : decode cX10_methodIs 34 = .ok (.iconst 1, 1) := by decide +kernel
theorem dX10_methodIs_35 : decode cX10_methodIs 35 = .ok (.goto 4, 3) := by decide +kernel
theorem dX10_methodIs_38 : decode cX10_methodIs 38 = .ok (.iconst 0, 1) := by decide +kernel
theorem dX10_methodIs_39 : decode cX10_methodIs 39 = .ok (.iadd, 1) := by decide +kernel
theorem dX10_methodIs_40 : decode cX10_methodIs 40 = .ok (.istore_n 3, 1) := by decide +kernel
theorem dX10_methodIs_41 : decode cX10_methodIs 41 = .ok (.iinc 4 1, 3) := by decide +kernel
theorem dX10_methodIs_44 : decode cX10_methodIs 44 = .ok (.goto (-39), 3) := by decide +kernel
theorem dX10_methodIs_47 : decode cX10_methodIs 47 = .ok (.iload_n 2, 1) := by decide +kernel
theorem dX10_methodIs_48 : decode cX10_methodIs 48 = .ok (.tableswitch 94 0 4 #[36, 47, 61, 75, 92], 36) := by decide +kernel
theorem dX10_methodIs_84 : decode cX10_methodIs 84 = .ok (.aload_n 0, 1) := by decide +kernel
theorem dX10_methodIs_85 : decode cX10_methodIs 85 = .ok (.getfield 7, 3) := by decide +kernel
theorem dX10_methodIs_88 : decode cX10_methodIs 88 = .ok (.sipush 768, 3) := by decide +kernel
theorem dX10_methodIs_91 : decode cX10_methodIs 91 = .ok (.iload_n 1, 1) := by decide +kernel
theorem dX10_methodIs_92 : decode cX10_methodIs 92 = .ok (.iadd, 1) := by decide +kernel
theorem dX10_methodIs_93 : decode cX10_methodIs 93 = .ok (.iaload, 1) := by decide +kernel
theorem dX10_methodIs_94 : decode cX10_methodIs 94 = .ok (.ireturn, 1) := by decide +kernel
theorem dX10_methodIs_95 : decode cX10_methodIs 95 = .ok (.aload_n 0, 1) := by decide +kernel
theorem dX10_methodIs_96 : decode cX10_methodIs 96 = .ok (.getfield 7, 3) := by decide +kernel
theorem dX10_methodIs_99 : decode cX10_methodIs 99 = .ok (.sipush 771, 3) := by decide +kernel
theorem dX10_methodIs_102 : decode cX10_methodIs 102 = .ok (.iload_n 1, 1) := by decide +kernel
theorem dX10_methodIs_103 : decode cX10_methodIs 103 = .ok (.iadd, 1) := by decide +kernel
theorem dX10_methodIs_104 : decode cX10_methodIs 104 = .ok (.iaload, 1) := by decide +kernel
theorem dX10_methodIs_105 : decode cX10_methodIs 105 = .ok (.bipush 16, 2) := by decide +kernel
theorem dX10_methodIs_107 : decode cX10_methodIs 107 = .ok (.irem, 1) := by decide +kernel
theorem dX10_methodIs_108 : decode cX10_methodIs 108 = .ok (.ireturn, 1) := by decide +kernel
theorem dX10_methodIs_109 : decode cX10_methodIs 109 = .ok (.aload_n 0, 1) := by decide +kernel
theorem dX10_methodIs_110 : decode cX10_methodIs 110 = .ok (.getfield 7, 3) := by decide +kernel
theorem dX10_methodIs_113 : decode cX10_methodIs 113 = .ok (.sipush 774, 3) := by decide +kernel
theorem dX10_methodIs_116 : decode cX10_methodIs 116 = .ok (.iload_n 1, 1) := by decide +kernel
theorem dX10_methodIs_117 : decode cX10_methodIs 117 = .ok (.iadd, 1) := by decide +kernel
theorem dX10_methodIs_118 : decode cX10_methodIs 118 = .ok (.iaload, 1) := by decide +kernel
theorem dX10_methodIs_119 : decode cX10_methodIs 119 = .ok (.bipush 16, 2) := by decide +kernel
theorem dX10_methodIs_121 : decode cX10_methodIs 121 = .ok (.irem, 1) := by decide +kernel
theorem dX10_methodIs_122 : decode cX10_methodIs 122 = .ok (.ireturn, 1) := by decide +kernel
theorem dX10_methodIs_123 : decode cX10_methodIs 123 = .ok (.aload_n 0, 1) := by decide +kernel
theorem dX10_methodIs_124 : decode cX10_methodIs 124 = .ok (.iload_n 1, 1) := by decide +kernel
theorem dX10_methodIs_125 : decode cX10_methodIs 125 = .ok (.invokevirtual 344, 3) := by decide +kernel
theorem dX10_methodIs_128 : decode cX10_methodIs 128 = .ok (.aload_n 0, 1) := by decide +kernel
theorem dX10_methodIs_129 : decode cX10_methodIs 129 = .ok (.getfield 7, 3) := by decide +kernel
theorem dX10_methodIs_132 : decode cX10_methodIs 132 = .ok (.sipush 762, 3) := by decide +kernel
theorem dX10_methodIs_135 : decode cX10_methodIs 135 = .ok (.iload_n 1, 1) := by decide +kernel
theorem dX10_methodIs_136 : decode cX10_methodIs 136 = .ok (.iadd, 1) := by decide +kernel
theorem dX10_methodIs_137 : decode cX10_methodIs 137 = .ok (.iaload, 1) := by decide +kernel
theorem dX10_methodIs_138 : decode cX10_methodIs 138 = .ok (.isub, 1) := by decide +kernel
theorem dX10_methodIs_139 : decode cX10_methodIs 139 = .ok (.ireturn, 1) := by decide +kernel
theorem dX10_methodIs_140 : decode cX10_methodIs 140 = .ok (.iload_n 3, 1) := by decide +kernel
theorem dX10_methodIs_141 : decode cX10_methodIs 141 = .ok (.ireturn, 1) := by decide +kernel
theorem dX10_methodIs_142 : decode cX10_methodIs 142 = .ok (.aload_n 0, 1) := by decide +kernel
theorem dX10_methodIs_143 : decode cX10_methodIs 143 = .ok (.iload_n 1, 1) := by decide +kernel
theorem dX10_methodIs_144 : decode cX10_methodIs 144 = .ok (.invokevirtual 350, 3) := by decide +kernel
theorem dX10_methodIs_147 : decode cX10_methodIs 147 = .ok (.ifCond .eq 7, 3) := by decide +kernel
theorem dX10_methodIs_150 : decode cX10_methodIs 150 = .ok (.iconst 1, 1) := by decide +kernel
theorem dX10_methodIs_151 : decode cX10_methodIs 151 = .ok (.goto 4, 3) := by decide +kernel
theorem dX10_methodIs_154 : decode cX10_methodIs 154 = .ok (.iconst 0, 1) := by decide +kernel
theorem dX10_methodIs_155 : decode cX10_methodIs 155 = .ok (.ireturn, 1) := by decide +kernel
set_option maxHeartbeats 4000000 in
set_option maxRecDepth 10000 in
theorem vX10_methodIs_0 {l : Launch} {M : sl_M} {Q : sl_R} {x1 x2 : Int} (H : sl_RM M → sl_rg x1 → sl_rg x2 → sl_At l mX10_methodIs 5 [(0, vR 1 0), (1, vI x1), (2, vI x2), (3, vI 0), (4, vI 0)] [] M Q) : sl_At l mX10_methodIs 0 [(0, vR 1 0), (1, vI x1), (2, vI x2)] [] M Q := by
  refine sl_At.in (fun hM hls => ?_)
  have g1 : sl_rg x1 := hls _ (List.mem_of_getElem? (i := 1) rfl)
  have g2 : sl_rg x2 := hls _ (List.mem_of_getElem? (i := 2) rfl)
  have H := H hM g1 g2
  refine r_iconst dX10_methodIs_0 ?_
  refine r_istore_n (ls' := [(3, vI 0), (0, vR 1 0), (1, vI x1), (2, vI x2)]) ⟨by decide, by decide⟩ rfl (by decide) rfl dX10_methodIs_1 ?_
  refine r_iconst dX10_methodIs_2 ?_
  refine r_istore (ls' := [(4, vI 0), (3, vI 0), (0, vR 1 0), (1, vI x1), (2, vI x2)]) ⟨by decide, by decide⟩ (by decide) rfl dX10_methodIs_3 ?_
  exact sl_At.sub [2, 3, 4, 1, 0] rfl H
set_option maxHeartbeats 4000000 in
set_option maxRecDepth 10000 in
theorem vX10_methodIs_5 {l : Launch} {M : sl_M} {Q : sl_R} {x1 x2 x3 x4 : Int} (H : sl_RM M → sl_rg x1 → sl_rg x2 → sl_rg x3 → sl_rg x4 → ((M 1 1 789 ≤ x4) → ((x2 = 0) → (0 ≤ 768 + x1 ∧ 768 + x1 < 990) ∧ Q (some (vI (M 1 1 (768 + x1)))) M) ∧ ((x2 = 1) → (0 ≤ 771 + x1 ∧ 771 + x1 < 990) ∧ Q (some (vI (irem (M 1 1 (771 + x1)) 16))) M) ∧ ((x2 = 2) → (0 ≤ 774 + x1 ∧ 774 + x1 < 990) ∧ Q (some (vI (irem (M 1 1 (774 + x1)) 16))) M) ∧ ((x2 = 3) → sl_RI l mX10_endOf [vR 1 0, vI x1] M (fun y6 M5 => (0 ≤ 762 + x1 ∧ 762 + x1 < 990) ∧ (sl_rg (y6 - (M5 1 1 (762 + x1)))) ∧ Q (some (vI (y6 - (M5 1 1 (762 + x1))))) M5)) ∧ ((x2 = 4) → Q (some (vI x3)) M) ∧ ((¬ (x2 = 0) ∧ ¬ (x2 = 1) ∧ ¬ (x2 = 2) ∧ ¬ (x2 = 3) ∧ ¬ (x2 = 4)) → sl_RI l mX10_mayFail [vR 1 0, vI x1] M (fun y10 M9 => Q (some (vI (if ¬ (y10 = 0) then 1 else 0))) M9))) ∧ ((¬ (M 1 1 789 ≤ x4)) → (0 ≤ 870 + x4 ∧ 870 + x4 < 990) ∧ (sl_rg (x3 + (if ¬ (M 1 1 (870 + x4) ≠ x1) then 1 else 0))) ∧ (∀ y20 : Int, y20 = x3 + (if ¬ (M 1 1 (870 + x4) ≠ x1) then 1 else 0) → (sl_rg (x4 + 1)) ∧ sl_At l mX10_methodIs 5 [(0, vR 1 0), (1, vI x1), (2, vI x2), (3, vI y20), (4, vI (x4 + 1))] [] M Q))) : sl_At l mX10_methodIs 5 [(0, vR 1 0), (1, vI x1), (2, vI x2), (3, vI x3), (4, vI x4)] [] M Q := by
  refine sl_At.in (fun hM hls => ?_)
  have g1 : sl_rg x1 := hls _ (List.mem_of_getElem? (i := 1) rfl)
  have g2 : sl_rg x2 := hls _ (List.mem_of_getElem? (i := 2) rfl)
  have g3 : sl_rg x3 := hls _ (List.mem_of_getElem? (i := 3) rfl)
  have g4 : sl_rg x4 := hls _ (List.mem_of_getElem? (i := 4) rfl)
  have H := H hM g1 g2 g3 g4
  refine r_iload (k := 4) rfl dX10_methodIs_5 ?_
  refine r_aload_n (k := 0) rfl rfl dX10_methodIs_7 ?_
  refine r_getR (k := 0) (o' := 1) (i' := 1) ckX10 rfl rfl (by decide) rfl rfl rfl fl_X10_7 dX10_methodIs_8 ?_
  refine r_sipush dX10_methodIs_11 (by decide) ?_
  refine r_iald rfl rfl rfl ⟨by decide, by decide⟩ dX10_methodIs_14 ?_
  refine r_icmp_ge (tgt := 47) g4 (hM _ _ _) dX10_methodIs_15 (by decide) (fun h1 => ?_) (fun h1 => ?_)
  · have H := H.1 h1
    refine r_iload_n (k := 2) rfl rfl dX10_methodIs_47 ?_
    by_cases h12 : x2 = 0
    · refine r_tsIn (tgt := 84) 0 g2 dX10_methodIs_48 (by omega) (by decide) rfl (by decide) ?_
      have H := H.1 (by omega)
      refine r_aload_n (k := 0) rfl rfl dX10_methodIs_84 ?_
      refine r_getR (k := 0) (o' := 1) (i' := 1) ckX10 rfl rfl (by decide) rfl rfl rfl fl_X10_7 dX10_methodIs_85 ?_
      refine r_sipush dX10_methodIs_88 (by decide) ?_
      refine r_iload_n (k := 1) rfl rfl dX10_methodIs_91 ?_
      refine r_iadd dX10_methodIs_92 ?_
      obtain ⟨c2, H⟩ := H
      refine r_iald rfl rfl rfl c2 dX10_methodIs_93 ?_
      refine r_iret rfl (hM _ _ _) dX10_methodIs_94 ?_
      exact H
    by_cases h13 : x2 = 1
    · refine r_tsIn (tgt := 95) 1 g2 dX10_methodIs_48 (by omega) (by decide) rfl (by decide) ?_
      have H := H.2.1 (by omega)
      refine r_aload_n (k := 0) rfl rfl dX10_methodIs_95 ?_
      refine r_getR (k := 0) (o' := 1) (i' := 1) ckX10 rfl rfl (by decide) rfl rfl rfl fl_X10_7 dX10_methodIs_96 ?_
      refine r_sipush dX10_methodIs_99 (by decide) ?_
      refine r_iload_n (k := 1) rfl rfl dX10_methodIs_102 ?_
      refine r_iadd dX10_methodIs_103 ?_
      obtain ⟨c3, H⟩ := H
      refine r_iald rfl rfl rfl c3 dX10_methodIs_104 ?_
      refine r_bipush dX10_methodIs_105 (by decide) ?_
      refine r_irem ⟨by decide, by decide⟩ (by decide) dX10_methodIs_107 ?_
      refine r_iret rfl (rg_irem _ _) dX10_methodIs_108 ?_
      exact H
    by_cases h14 : x2 = 2
    · refine r_tsIn (tgt := 109) 2 g2 dX10_methodIs_48 (by omega) (by decide) rfl (by decide) ?_
      have H := H.2.2.1 (by omega)
      refine r_aload_n (k := 0) rfl rfl dX10_methodIs_109 ?_
      refine r_getR (k := 0) (o' := 1) (i' := 1) ckX10 rfl rfl (by decide) rfl rfl rfl fl_X10_7 dX10_methodIs_110 ?_
      refine r_sipush dX10_methodIs_113 (by decide) ?_
      refine r_iload_n (k := 1) rfl rfl dX10_methodIs_116 ?_
      refine r_iadd dX10_methodIs_117 ?_
      obtain ⟨c4, H⟩ := H
      refine r_iald rfl rfl rfl c4 dX10_methodIs_118 ?_
      refine r_bipush dX10_methodIs_119 (by decide) ?_
      refine r_irem ⟨by decide, by decide⟩ (by decide) dX10_methodIs_121 ?_
      refine r_iret rfl (rg_irem _ _) dX10_methodIs_122 ?_
      exact H
    by_cases h15 : x2 = 3
    · refine r_tsIn (tgt := 123) 3 g2 dX10_methodIs_48 (by omega) (by decide) rfl (by decide) ?_
      have H := H.2.2.2.1 (by omega)
      refine r_aload_n (k := 0) rfl rfl dX10_methodIs_123 ?_
      refine r_iload_n (k := 1) rfl rfl dX10_methodIs_124 ?_
      refine r_callV (g := mX10_endOf) ckX10 rfl rfl rfl rfl mkX10_endOf mvX10_endOf ml_X10_344 ⟨by decide, by decide⟩ rfl (Nat.le_of_ble_eq_true rfl) rfl (ok_i g1 ok_n) dX10_methodIs_125 (sl_afterI (sl_RI.mono (fun y6 M5 gy6 hM5 H => ?_) H))
      refine r_aload_n (k := 0) rfl rfl dX10_methodIs_128 ?_
      refine r_getR (k := 0) (o' := 1) (i' := 1) ckX10 rfl rfl (by decide) rfl rfl rfl fl_X10_7 dX10_methodIs_129 ?_
      refine r_sipush dX10_methodIs_132 (by decide) ?_
      refine r_iload_n (k := 1) rfl rfl dX10_methodIs_135 ?_
      refine r_iadd dX10_methodIs_136 ?_
      obtain ⟨c7, H⟩ := H
      refine r_iald rfl rfl rfl c7 dX10_methodIs_137 ?_
      refine r_isub dX10_methodIs_138 ?_
      obtain ⟨c8, H⟩ := H
      refine r_iret rfl c8 dX10_methodIs_139 ?_
      exact H
    by_cases h16 : x2 = 4
    · refine r_tsIn (tgt := 140) 4 g2 dX10_methodIs_48 (by omega) (by decide) rfl (by decide) ?_
      have H := H.2.2.2.2.1 (by omega)
      refine r_iload_n (k := 3) rfl rfl dX10_methodIs_140 ?_
      refine r_iret rfl g3 dX10_methodIs_141 ?_
      exact H
    refine r_tsOut (tgt := 142) g2 dX10_methodIs_48 (by omega) (by decide) ?_
    have H := H.2.2.2.2.2 (by omega)
    refine r_aload_n (k := 0) rfl rfl dX10_methodIs_142 ?_
    refine r_iload_n (k := 1) rfl rfl dX10_methodIs_143 ?_
    refine r_callV (g := mX10_mayFail) ckX10 rfl rfl rfl rfl mkX10_mayFail mvX10_mayFail ml_X10_350 ⟨by decide, by decide⟩ rfl (Nat.le_of_ble_eq_true rfl) rfl (ok_i g1 ok_n) dX10_methodIs_144 (sl_afterI (sl_RI.mono (fun y10 M9 gy10 hM9 H => ?_) H))
    have J : sl_At l mX10_methodIs 155 [(0, vR 1 0), (1, vI x1), (2, vI x2), (3, vI x3), (4, vI x4)] [vI (if ¬ (y10 = 0) then 1 else 0)] M9 Q := by
      refine r_iret rfl rg_b dX10_methodIs_155 ?_
      exact H
    refine r_if_eq (tgt := 154) gy10 dX10_methodIs_147 (by decide) (fun h11 => ?_) (fun h11 => ?_)
    · refine r_iconst dX10_methodIs_154 ?_
      rw [if_neg (show ¬ (¬ (y10 = 0)) by omega)] at J
      exact J
    · refine r_iconst dX10_methodIs_150 ?_
      refine r_goto (tgt := 155) dX10_methodIs_151 (by decide) ?_
      rw [if_pos (show ¬ (y10 = 0) by omega)] at J
      exact J
  · have H := H.2 h1
    refine r_iload_n (k := 3) rfl rfl dX10_methodIs_18 ?_
    refine r_aload_n (k := 0) rfl rfl dX10_methodIs_19 ?_
    refine r_getR (k := 0) (o' := 1) (i' := 1) ckX10 rfl rfl (by decide) rfl rfl rfl fl_X10_7 dX10_methodIs_20 ?_
    refine r_sipush dX10_methodIs_23 (by decide) ?_
    refine r_iload (k := 4) rfl dX10_methodIs_26 ?_
    refine r_iadd dX10_methodIs_28 ?_
    obtain ⟨c17, H⟩ := H
    refine r_iald rfl rfl rfl c17 dX10_methodIs_29 ?_
    refine r_iload_n (k := 1) rfl rfl dX10_methodIs_30 ?_
    have J : sl_At l mX10_methodIs 39 [(0, vR 1 0), (1, vI x1), (2, vI x2), (3, vI x3), (4, vI x4)] [vI (if ¬ (M 1 1 (870 + x4) ≠ x1) then 1 else 0), vI x3] M Q := by
      refine r_iadd dX10_methodIs_39 ?_
      obtain ⟨c19, H⟩ := H
      refine r_nm (fun y20 fy20 => ?_)
      have H := H y20 fy20
      have gy20 : sl_rg y20 := by rw [fy20]; exact c19
      refine r_istore_n (ls' := [(3, vI y20), (0, vR 1 0), (1, vI x1), (2, vI x2), (4, vI x4)]) gy20 rfl (by decide) rfl dX10_methodIs_40 ?_
      obtain ⟨c21, H⟩ := H
      refine r_iinc (k := 4) (ls' := [(4, vI (x4 + 1)), (3, vI y20), (0, vR 1 0), (1, vI x1), (2, vI x2)]) rfl c21 (by decide) rfl dX10_methodIs_41 ?_
      refine r_goto (tgt := 5) dX10_methodIs_44 (by decide) ?_
      exact sl_At.sub [2, 3, 4, 1, 0] rfl H
    refine r_icmp_ne (tgt := 38) (hM _ _ _) g1 dX10_methodIs_31 (by decide) (fun h18 => ?_) (fun h18 => ?_)
    · refine r_iconst dX10_methodIs_38 ?_
      rw [if_neg (show ¬ (¬ (M 1 1 (870 + x4) ≠ x1)) by omega)] at J
      exact J
    · refine r_iconst dX10_methodIs_34 ?_
      refine r_goto (tgt := 39) dX10_methodIs_35 (by decide) ?_
      rw [if_pos (show ¬ (M 1 1 (870 + x4) ≠ x1) by omega)] at J
      exact J
theorem eX10_methodIs {l : Launch} {M : sl_M} {Q : sl_R} {x1 x2 : Int} (k : sl_At l mX10_methodIs 0 [(0, vR 1 0), (1, vI x1), (2, vI x2)] [] M Q) : sl_Runs l mX10_methodIs [vR 1 0, vI x1, vI x2] M Q := sl_Runs.of (ls := [(0, vR 1 0), (1, vI x1), (2, vI x2)]) rfl rfl (fun _ => rfl) (fun _ => Nat.le_of_ble_eq_true rfl) rfl (k)
theorem dX10_method_0 : decode cX10_method 0 = .ok (.aload_n 0, 1) := by decide +kernel
theorem dX10_method_1 : decode cX10_method 1 = .ok (.iload_n 1, 1) := by decide +kernel
theorem dX10_method_2 : decode cX10_method 2 = .ok (.invokevirtual 341, 3) := by decide +kernel
theorem dX10_method_5 : decode cX10_method 5 = .ok (.ifCond .eq 21, 3) := by decide +kernel
theorem dX10_method_8 : decode cX10_method 8 = .ok (.iload_n 2, 1) := by decide +kernel
theorem dX10_method_9 : decode cX10_method 9 = .ok (.iconst 0, 1) := by decide +kernel
theorem dX10_method_10 : decode cX10_method 10 = .ok (.iconst 5, 1) := by decide +kernel
theorem dX10_method_11 : decode cX10_method 11 = .ok (.invokestatic 135, 3) := by decide +kernel
theorem dX10_method_14 : decode cX10_method 14 = .ok (.ifCond .eq 12, 3) := by decide +kernel
theorem dX10_method_17 : decode cX10_method 17 = .ok (.aload_n 0, 1) := by decide +kernel
theorem dX10_method_18 : decode cX10_method 18 = .ok (.iload_n 1, 1) := by decide +kernel
theorem dX10_method_19 : decode cX10_method 19 = .ok (.iload_n 2, 1) := by decide +kernel
theorem dX10_method_20 : decode cX10_method 20 = .ok (.invokevirtual 353, 3) := by decide +kernel
theorem dX10_method_23 : decode cX10_method 23 = .ok (.goto 7, 3) := by decide +kernel
theorem dX10_method_26 : decode cX10_method 26 = .ok (.aload_n 0, 1) := by decide +kernel
theorem dX10_method_27 : decode cX10_method 27 = .ok (.invokevirtual 139, 3) := by decide +kernel
theorem dX10_method_30 : decode cX10_method 30 = .ok (.ireturn, 1) := by decide +kernel
set_option maxHeartbeats 4000000 in
set_option maxRecDepth 10000 in
theorem vX10_method_0 {l : Launch} {M : sl_M} {Q : sl_R} {x1 x2 : Int} (H : sl_RM M → sl_rg x1 → sl_rg x2 → sl_RI l mX10_isMethod [vR 1 0, vI x1] M (fun y2 M1 => ((y2 = 0) → sl_RI l mX10_bad [vR 1 0] M1 (fun y5 M4 => Q (some (vI y5)) M4)) ∧ ((¬ (y2 = 0)) → ((¬ (0 ≤ x2 ∧ x2 ≤ 5)) → sl_RI l mX10_bad [vR 1 0] M1 (fun y8 M7 => Q (some (vI y8)) M7)) ∧ ((0 ≤ x2 ∧ x2 ≤ 5) → sl_RI l mX10_methodIs [vR 1 0, vI x1, vI x2] M1 (fun y10 M9 => Q (some (vI y10)) M9))))) : sl_At l mX10_method 0 [(0, vR 1 0), (1, vI x1), (2, vI x2)] [] M Q := by
  refine sl_At.in (fun hM hls => ?_)
  have g1 : sl_rg x1 := hls _ (List.mem_of_getElem? (i := 1) rfl)
  have g2 : sl_rg x2 := hls _ (List.mem_of_getElem? (i := 2) rfl)
  have H := H hM g1 g2
  refine r_aload_n (k := 0) rfl rfl dX10_method_0 ?_
  refine r_iload_n (k := 1) rfl rfl dX10_method_1 ?_
  refine r_callV (g := mX10_isMethod) ckX10 rfl rfl rfl rfl mkX10_isMethod mvX10_isMethod ml_X10_341 ⟨by decide, by decide⟩ rfl (Nat.le_of_ble_eq_true rfl) rfl (ok_i g1 ok_n) dX10_method_2 (sl_afterI (sl_RI.mono (fun y2 M1 gy2 hM1 H => ?_) H))
  refine r_if_eq (tgt := 26) gy2 dX10_method_5 (by decide) (fun h3 => ?_) (fun h3 => ?_)
  · have H := H.1 h3
    refine r_aload_n (k := 0) rfl rfl dX10_method_26 ?_
    refine r_callV (g := mX10_bad) ckX10 rfl rfl rfl rfl mkX10_bad mvX10_bad ml_X10_139 ⟨by decide, by decide⟩ rfl (Nat.le_of_ble_eq_true rfl) rfl ok_n dX10_method_27 (sl_afterI (sl_RI.mono (fun y5 M4 gy5 hM4 H => ?_) H))
    refine r_iret rfl gy5 dX10_method_30 ?_
    exact H
  · have H := H.2 h3
    refine r_iload_n (k := 2) rfl rfl dX10_method_8 ?_
    refine r_iconst dX10_method_9 ?_
    refine r_iconst dX10_method_10 ?_
    refine r_callS (g := mX10_in) rfl mkX10_in msX10_in ml_X10_135 ⟨by decide, by decide⟩ rfl (Nat.le_of_ble_eq_true rfl) rfl (ok_i g2 (ok_i ⟨by decide, by decide⟩ (ok_i ⟨by decide, by decide⟩ ok_n))) dX10_method_11 (sl_afterI (sl_RI.by kX10_in ?_))
    refine r_if_eq (tgt := 26) rg_b dX10_method_14 (by decide) (fun h6 => ?_) (fun h6 => ?_)
    · have H := H.1 (b_eq0.mp h6)
      refine r_aload_n (k := 0) rfl rfl dX10_method_26 ?_
      refine r_callV (g := mX10_bad) ckX10 rfl rfl rfl rfl mkX10_bad mvX10_bad ml_X10_139 ⟨by decide, by decide⟩ rfl (Nat.le_of_ble_eq_true rfl) rfl ok_n dX10_method_27 (sl_afterI (sl_RI.mono (fun y8 M7 gy8 hM7 H => ?_) H))
      refine r_iret rfl gy8 dX10_method_30 ?_
      exact H
    · have H := H.2 (b_ne0.mp h6)
      refine r_aload_n (k := 0) rfl rfl dX10_method_17 ?_
      refine r_iload_n (k := 1) rfl rfl dX10_method_18 ?_
      refine r_iload_n (k := 2) rfl rfl dX10_method_19 ?_
      refine r_callV (g := mX10_methodIs) ckX10 rfl rfl rfl rfl mkX10_methodIs mvX10_methodIs ml_X10_353 ⟨by decide, by decide⟩ rfl (Nat.le_of_ble_eq_true rfl) rfl (ok_i g1 (ok_i g2 ok_n)) dX10_method_20 (sl_afterI (sl_RI.mono (fun y10 M9 gy10 hM9 H => ?_) H))
      refine r_goto (tgt := 30) dX10_method_23 (by decide) ?_
      refine r_iret rfl gy10 dX10_method_30 ?_
      exact H
theorem eX10_method {l : Launch} {M : sl_M} {Q : sl_R} {x1 x2 : Int} (k : sl_At l mX10_method 0 [(0, vR 1 0), (1, vI x1), (2, vI x2)] [] M Q) : sl_Runs l mX10_method [vR 1 0, vI x1, vI x2] M Q := sl_Runs.of (ls := [(0, vR 1 0), (1, vI x1), (2, vI x2)]) rfl rfl (fun _ => rfl) (fun _ => Nat.le_of_ble_eq_true rfl) rfl (k)
theorem dX10_formal_0 : decode cX10_formal 0 = .ok (.aload_n 0, 1) := by decide +kernel
theorem dX10_formal_1 : decode cX10_formal 1 = .ok (.iload_n 1, 1) := by decide +kernel
theorem dX10_formal_2 : decode cX10_formal 2 = .ok (.invokevirtual 341, 3) := by decide +kernel
theorem dX10_formal_5 : decode cX10_formal 5 = .ok (.ifCond .eq 16, 3) := by decide +kernel
theorem dX10_formal_8 : decode cX10_formal 8 = .ok (.iload_n 2, 1) := by decide +kernel
theorem dX10_formal_9 : decode cX10_formal 9 = .ok (.iconst 0, 1) := by decide +kernel
theorem dX10_formal_10 : decode cX10_formal 10 = .ok (.iconst 1, 1) := by decide +kernel
theorem dX10_formal_11 : decode cX10_formal 11 = .ok (.invokestatic 135, 3) := by decide +kernel
theorem dX10_formal_14 : decode cX10_formal 14 = .ok (.ifCond .eq 7, 3) := by decide +kernel
theorem dX10_formal_17 : decode cX10_formal 17 = .ok (.iload_n 3, 1) := by decide +kernel
theorem dX10_formal_18 : decode cX10_formal 18 = .ok (.ifCond .ge 8, 3) := by decide +kernel
theorem dX10_formal_21 : decode cX10_formal 21 = .ok (.aload_n 0, 1) := by decide +kernel
theorem dX10_formal_22 : decode cX10_formal 22 = .ok (.invokevirtual 139, 3) := by decide +kernel
theorem dX10_formal_25 : decode cX10_formal 25 = .ok (.ireturn, 1) := by decide +kernel
theorem dX10_formal_26 : decode cX10_formal 26 = .ok (.aload_n 0, 1) := by decide +kernel
theorem dX10_formal_27 : decode cX10_formal 27 = .ok (.getfield 7, 3) := by decide +kernel
theorem dX10_formal_30 : decode cX10_formal 30 = .ok (.iload_n 2, 1) := by decide +kernel
theorem dX10_formal_31 : decode cX10_formal 31 = .ok (.ifCond .ne 9, 3) := by decide +kernel
theorem dX10_formal_34 : decode cX10_formal 34 = .ok (.sipush 771, 3) := by decide +kernel
theorem dX10_formal_37 : decode cX10_formal 37 = .ok (.goto 6, 3) := by decide +kernel
theorem dX10_formal_40 : decode cX10_formal 40 = .ok (.sipush 774, 3) := by decide +kernel
theorem dX10_formal_43 : decode cX10_formal 43 = .ok (.iload_n 1, 1) := by decide +kernel
theorem dX10_formal_44 : decode cX10_formal 44 = .ok (.iadd, 1) := by decide +kernel
theorem dX10_formal_45 : decode cX10_formal 45 = .ok (.iaload, 1) := by decide +kernel
theorem dX10_formal_46 : decode cX10_formal 46 = .ok (.istore 4, 2) := by decide +kernel
theorem dX10_formal_48 : decode cX10_formal 48 = .ok (.iload_n 3, 1) := by decide +kernel
theorem dX10_formal_49 : decode cX10_formal 49 = .ok (.iload 4, 2) := by decide +kernel
theorem dX10_formal_51 : decode cX10_formal 51 = .ok (.bipush 16, 2) := by decide +kernel
theorem dX10_formal_53 : decode cX10_formal 53 = .ok (.irem, 1) := by decide +kernel
theorem dX10_formal_54 : decode cX10_formal 54 = .ok (.if_icmp .ge 17, 3) := by decide +kernel
theorem dX10_formal_57 : decode cX10_formal 57 = .ok (.iload 4, 2) := by decide +kernel
theorem dX10_formal_59 : decode cX10_formal 59 = .ok (.iconst 4, 1) := by decide +kernel
theorem dX10_formal_60 : decode cX10_formal 60 = .ok (.iconst 4, 1) := by decide +kernel
theorem dX10_formal_61 : decode cX10_formal 61 = .ok (.iload_n 3, 1) := by decide +kernel
theorem dX10_formal_62 : decode cX10_formal 62 = .ok (.imul, 1) := by decide +kernel
theorem dX10_formal_63 : decode cX10_formal 63 = .ok (.iadd, 1) := by decide +kernel
theorem dX10_formal_64 : decode cX10_formal 64 = .ok (.ishr, 1) := by decide +kernel
theorem dX10_formal_65 : decode cX10_formal 65 = .ok (.bipush 15, 2) := by decide +kernel
theorem dX10_formal_67 : decode cX10_formal 67 = .ok (.iand, 1) := by decide +kernel
theorem dX10_formal_68 : decode cX10_formal 68 = .ok (.goto 4, 3) := by decide +kernel
theorem dX10_formal_71 : decode cX10_formal 71 = .ok (.iconst (-1), 1) := by decide +kernel
theorem dX10_formal_72 : decode cX10_formal 72 = .ok (.ireturn, 1) := by decide +kernel
set_option maxHeartbeats 4000000 in
set_option maxRecDepth 10000 in
theorem vX10_formal_0 {l : Launch} {M : sl_M} {Q : sl_R} {x1 x2 x3 : Int} (H : sl_RM M → sl_rg x1 → sl_rg x2 → sl_rg x3 → sl_RI l mX10_isMethod [vR 1 0, vI x1] M (fun y2 M1 => ((y2 = 0) → sl_RI l mX10_bad [vR 1 0] M1 (fun y5 M4 => Q (some (vI y5)) M4)) ∧ ((¬ (y2 = 0)) → ((¬ (0 ≤ x2 ∧ x2 ≤ 1)) → sl_RI l mX10_bad [vR 1 0] M1 (fun y8 M7 => Q (some (vI y8)) M7)) ∧ ((0 ≤ x2 ∧ x2 ≤ 1) → ((0 ≤ x3) → (0 ≤ (if x2 ≠ 0 then 774 else 771) + x1 ∧ (if x2 ≠ 0 then 774 else 771) + x1 < 990) ∧ Q (some (vI (if irem (M1 1 1 ((if x2 ≠ 0 then 774 else 771) + x1)) 16 ≤ x3 then (-1) else iand (ishr (M1 1 1 ((if x2 ≠ 0 then 774 else 771) + x1)) (4 + (4 * x3))) 15))) M1) ∧ ((¬ (0 ≤ x3)) → sl_RI l mX10_bad [vR 1 0] M1 (fun y14 M13 => Q (some (vI y14)) M13)))))) : sl_At l mX10_formal 0 [(0, vR 1 0), (1, vI x1), (2, vI x2), (3, vI x3)] [] M Q := by
  refine sl_At.in (fun hM hls => ?_)
  have g1 : sl_rg x1 := hls _ (List.mem_of_getElem? (i := 1) rfl)
  have g2 : sl_rg x2 := hls _ (List.mem_of_getElem? (i := 2) rfl)
  have g3 : sl_rg x3 := hls _ (List.mem_of_getElem? (i := 3) rfl)
  have H := H hM g1 g2 g3
  refine r_aload_n (k := 0) rfl rfl dX10_formal_0 ?_
  refine r_iload_n (k := 1) rfl rfl dX10_formal_1 ?_
  refine r_callV (g := mX10_isMethod) ckX10 rfl rfl rfl rfl mkX10_isMethod mvX10_isMethod ml_X10_341 ⟨by decide, by decide⟩ rfl (Nat.le_of_ble_eq_true rfl) rfl (ok_i g1 ok_n) dX10_formal_2 (sl_afterI (sl_RI.mono (fun y2 M1 gy2 hM1 H => ?_) H))
  refine r_if_eq (tgt := 21) gy2 dX10_formal_5 (by decide) (fun h3 => ?_) (fun h3 => ?_)
  · have H := H.1 h3
    refine r_aload_n (k := 0) rfl rfl dX10_formal_21 ?_
    refine r_callV (g := mX10_bad) ckX10 rfl rfl rfl rfl mkX10_bad mvX10_bad ml_X10_139 ⟨by decide, by decide⟩ rfl (Nat.le_of_ble_eq_true rfl) rfl ok_n dX10_formal_22 (sl_afterI (sl_RI.mono (fun y5 M4 gy5 hM4 H => ?_) H))
    refine r_iret rfl gy5 dX10_formal_25 ?_
    exact H
  · have H := H.2 h3
    refine r_iload_n (k := 2) rfl rfl dX10_formal_8 ?_
    refine r_iconst dX10_formal_9 ?_
    refine r_iconst dX10_formal_10 ?_
    refine r_callS (g := mX10_in) rfl mkX10_in msX10_in ml_X10_135 ⟨by decide, by decide⟩ rfl (Nat.le_of_ble_eq_true rfl) rfl (ok_i g2 (ok_i ⟨by decide, by decide⟩ (ok_i ⟨by decide, by decide⟩ ok_n))) dX10_formal_11 (sl_afterI (sl_RI.by kX10_in ?_))
    refine r_if_eq (tgt := 21) rg_b dX10_formal_14 (by decide) (fun h6 => ?_) (fun h6 => ?_)
    · have H := H.1 (b_eq0.mp h6)
      refine r_aload_n (k := 0) rfl rfl dX10_formal_21 ?_
      refine r_callV (g := mX10_bad) ckX10 rfl rfl rfl rfl mkX10_bad mvX10_bad ml_X10_139 ⟨by decide, by decide⟩ rfl (Nat.le_of_ble_eq_true rfl) rfl ok_n dX10_formal_22 (sl_afterI (sl_RI.mono (fun y8 M7 gy8 hM7 H => ?_) H))
      refine r_iret rfl gy8 dX10_formal_25 ?_
      exact H
    · have H := H.2 (b_ne0.mp h6)
      refine r_iload_n (k := 3) rfl rfl dX10_formal_17 ?_
      refine r_if_ge (tgt := 26) g3 dX10_formal_18 (by decide) (fun h9 => ?_) (fun h9 => ?_)
      · have H := H.1 h9
        refine r_aload_n (k := 0) rfl rfl dX10_formal_26 ?_
        refine r_getR (k := 0) (o' := 1) (i' := 1) ckX10 rfl rfl (by decide) rfl rfl rfl fl_X10_7 dX10_formal_27 ?_
        refine r_iload_n (k := 2) rfl rfl dX10_formal_30 ?_
        have J : sl_At l mX10_formal 43 [(0, vR 1 0), (1, vI x1), (2, vI x2), (3, vI x3)] [vI (if x2 ≠ 0 then 774 else 771), vR 1 1] M1 Q := by
          refine r_iload_n (k := 1) rfl rfl dX10_formal_43 ?_
          refine r_iadd dX10_formal_44 ?_
          obtain ⟨c11, H⟩ := H
          refine r_iald rfl rfl rfl c11 dX10_formal_45 ?_
          refine r_istore (ls' := [(4, vI (M1 1 1 ((if x2 ≠ 0 then 774 else 771) + x1))), (0, vR 1 0), (1, vI x1), (2, vI x2), (3, vI x3)]) (hM1 _ _ _) (by decide) rfl dX10_formal_46 ?_
          refine r_iload_n (k := 4) rfl rfl dX10_formal_48 ?_
          refine r_iload (k := 0) rfl dX10_formal_49 ?_
          refine r_bipush dX10_formal_51 (by decide) ?_
          refine r_irem ⟨by decide, by decide⟩ (by decide) dX10_formal_53 ?_
          have J : sl_At l mX10_formal 72 [(4, vI (M1 1 1 ((if x2 ≠ 0 then 774 else 771) + x1))), (0, vR 1 0), (1, vI x1), (2, vI x2), (3, vI x3)] [vI (if irem (M1 1 1 ((if x2 ≠ 0 then 774 else 771) + x1)) 16 ≤ x3 then (-1) else iand (ishr (M1 1 1 ((if x2 ≠ 0 then 774 else 771) + x1)) (4 + (4 * x3))) 15)] M1 Q := by
            refine r_iret rfl (sl_rgite ⟨by decide, by decide⟩ (rg_iand _ _)) dX10_formal_72 ?_
            exact H
          refine r_icmp_ge (tgt := 71) g3 (rg_irem _ _) dX10_formal_54 (by decide) (fun h12 => ?_) (fun h12 => ?_)
          · refine r_iconst dX10_formal_71 ?_
            rw [if_pos h12] at J
            exact J
          · refine r_iload (k := 0) rfl dX10_formal_57 ?_
            refine r_iconst dX10_formal_59 ?_
            refine r_iconst dX10_formal_60 ?_
            refine r_iload_n (k := 4) rfl rfl dX10_formal_61 ?_
            refine r_imul dX10_formal_62 ?_
            refine r_iadd dX10_formal_63 ?_
            refine r_ishr dX10_formal_64 ?_
            refine r_bipush dX10_formal_65 (by decide) ?_
            refine r_iand dX10_formal_67 ?_
            refine r_goto (tgt := 72) dX10_formal_68 (by decide) ?_
            rw [if_neg h12] at J
            exact J
        refine r_if_ne (tgt := 40) g2 dX10_formal_31 (by decide) (fun h10 => ?_) (fun h10 => ?_)
        · refine r_sipush dX10_formal_40 (by decide) ?_
          rw [if_pos h10] at J
          exact J
        · refine r_sipush dX10_formal_34 (by decide) ?_
          refine r_goto (tgt := 43) dX10_formal_37 (by decide) ?_
          rw [if_neg h10] at J
          exact J
      · have H := H.2 h9
        refine r_aload_n (k := 0) rfl rfl dX10_formal_21 ?_
        refine r_callV (g := mX10_bad) ckX10 rfl rfl rfl rfl mkX10_bad mvX10_bad ml_X10_139 ⟨by decide, by decide⟩ rfl (Nat.le_of_ble_eq_true rfl) rfl ok_n dX10_formal_22 (sl_afterI (sl_RI.mono (fun y14 M13 gy14 hM13 H => ?_) H))
        refine r_iret rfl gy14 dX10_formal_25 ?_
        exact H
theorem eX10_formal {l : Launch} {M : sl_M} {Q : sl_R} {x1 x2 x3 : Int} (k : sl_At l mX10_formal 0 [(0, vR 1 0), (1, vI x1), (2, vI x2), (3, vI x3)] [] M Q) : sl_Runs l mX10_formal [vR 1 0, vI x1, vI x2, vI x3] M Q := sl_Runs.of (ls := [(0, vR 1 0), (1, vI x1), (2, vI x2), (3, vI x3)]) rfl rfl (fun _ => rfl) (fun _ => Nat.le_of_ble_eq_true rfl) rfl (k)
theorem dX10_statementIs_0 : decode cX10_statementIs 0 = .ok (.iconst 0, 1) := by decide +kernel
theorem dX10_statementIs_1 : decode cX10_statementIs 1 = .ok (.istore_n 3, 1) := by decide +kernel
theorem dX10_statementIs_2 : decode cX10_statementIs 2 = .ok (.iconst 0, 1) := by decide +kernel
theorem dX10_statementIs_3 : decode cX10_statementIs 3 = .ok (.istore 4, 2) := by decide +kernel
theorem dX10_statementIs_5 : decode cX10_statementIs 5 = .ok (.iload 4, 2) := by decide +kernel
theorem dX10_statementIs_7 : decode cX10_statementIs 7 = .ok (.iload_n 1, 1) := by decide +kernel
theorem dX10_statementIs_8 : decode cX10_statementIs 8 = .ok (.if_icmp .ge 28, 3) := by decide +kernel
theorem dX10_statementIs_11 : decode cX10_statementIs 11 = .ok (.iload_n 3, 1) := by decide +kernel
theorem dX10_statementIs_12 : decode cX10_statementIs 12 = .ok (.aload_n 0, 1) := by decide +kernel
theorem dX10_statementIs_13 : decode cX10_statementIs 13 = .ok (.iconst 0, 1) := by decide +kernel
theorem dX10_statementIs_14 : decode cX10_statementIs 14 = .ok (.iload 4, 2) := by decide +kernel
theorem dX10_statementIs_16 : decode cX10_statementIs 16 = .ok (.iload_n 1, 1) := by decide +kernel
theorem dX10_statementIs_17 : decode cX10_statementIs 17 = .ok (.invokevirtual 204, 3) := by decide +kernel
theorem dX10_statementIs_20 : decode cX10_statementIs 20 = .ok (.ifCond .eq 7, 3) := by decide +kernel
theorem dX10_statementIs_23 : decode cX10_statementIs 23 = .ok (.iconst 1, 1) := by decide +kernel
theorem dX10_statementIs_24 : decode cX10_statementIs 24 = .ok (.goto 4, 3) := by decide +kernel
theorem dX10_statementIs_27 : decode cX10_statementIs 27 = .ok (.iconst 0, 1) := by decide +kernel
theorem dX10_statementIs_28 : decode cX10_statementIs 28 = .ok (.iadd, 1) := by decide +kernel
theorem dX10_statementIs_29 : decode cX10_statementIs 29 = .ok (.istore_n 3, 1) := by decide +kernel
theorem dX10_statementIs_30 : decode cX10_statementIs 30 = .ok (.iinc 4 1, 3) := by decide +kernel
theorem dX10_statementIs_33 : decode cX10_statementIs 33 = .ok (.goto (-28), 3) := by decide +kernel
theorem dX10_statementIs_36 : decode cX10_statementIs 36 = .ok (.iload_n 2, 1) := by decide +kernel
theorem dX10_statementIs_37 : decode cX10_statementIs 37 = .ok (.tableswitch 102 0 5 #[39, 46, 53, 64, 66, 73], 39) := by decide +kernel
theorem dX10_statementIs_76 : decode cX10_statementIs 76 = .ok (.aload_n 0, 1) := by decide +kernel
theorem dX10_statementIs_77 : decode cX10_statementIs 77 = .ok (.getfield 31, 3) := by decide +kernel
theorem dX10_statementIs_80 : decode cX10_statementIs 80 = .ok (.iload_n 1, 1) := by decide +kernel
theorem dX10_statementIs_81 : decode cX10_statementIs 81 = .ok (.iaload, 1) := by decide +kernel
theorem dX10_statementIs_82 : decode cX10_statementIs 82 = .ok (.ireturn, 1) := by decide +kernel
theorem dX10_statementIs_83 : decode cX10_statementIs 83 = .ok (.aload_n 0, 1) := by decide +kernel
theorem dX10_statementIs_84 : decode cX10_statementIs 84 = .ok (.getfield 34, 3) := by decide +kernel
theorem dX10_statementIs_87 : decode cX10_statementIs 87 = .ok (.iload_n 1, 1) := by decide +kernel
theorem dX10_statementIs_88 : decode cX10_statementIs 88 = .ok (.iaload, 1) := by decide +kernel
theorem dX10_statementIs_89 : decode cX10_statementIs 89 = .ok (.ireturn, 1) := by decide +kernel
theorem dX10_statementIs_90 : decode cX10_statementIs 90 = .ok (.aload_n 0, 1) := by decide +kernel
theorem dX10_statementIs_91 : decode cX10_statementIs 91 = .ok (.getfield 40, 3) := by decide +kernel
theorem dX10_statementIs_94 : decode cX10_statementIs 94 = .ok (.iload_n 1, 1) := by decide +kernel
theorem dX10_statementIs_95 : decode cX10_statementIs 95 = .ok (.iaload, 1) := by decide +kernel
theorem dX10_statementIs_96 : decode cX10_statementIs 96 = .ok (.iload_n 1, 1) := by decide +kernel
theorem dX10_statementIs_97 : decode cX10_statementIs 97 = .ok (.isub, 1) := by decide +kernel
theorem dX10_statementIs_98 : decode cX10_statementIs 98 = .ok (.iconst 1, 1) := by decide +kernel
theorem dX10_statementIs_99 : decode cX10_statementIs 99 = .ok (.isub, 1) := by decide +kernel
theorem dX10_statementIs_100 : decode cX10_statementIs 100 = .ok (.ireturn, 1) := by decide +kernel
theorem dX10_statementIs_101 : decode cX10_statementIs 101 = .ok (.iload_n 3, 1) := by decide +kernel
theorem dX10_statementIs_102 : decode cX10_statementIs 102 = .ok (.ireturn, 1) := by decide +kernel
theorem dX10_statementIs_103 : decode cX10_statementIs 103 = .ok (.aload_n 0, 1) := by decide +kernel
theorem dX10_statementIs_104 : decode cX10_statementIs 104 = .ok (.getfield 37, 3) := by decide +kernel
theorem dX10_statementIs_107 : decode cX10_statementIs 107 = .ok (.iload_n 1, 1) := by decide +kernel
theorem dX10_statementIs_108 : decode cX10_statementIs 108 = .ok (.iaload, 1) := by decide +kernel
theorem dX10_statementIs_109 : decode cX10_statementIs 109 = .ok (.ireturn, 1) := by decide +kernel
theorem dX10_statementIs_110 : decode cX10_statementIs 110 = .ok (.aload_n 0, 1) := by decide +kernel
theorem dX10_statementIs_111 : decode cX10_statementIs 111 = .ok (.getfield 31, 3) := by decide +kernel
theorem dX10_statementIs_114 : decode cX10_statementIs 114 = .ok (.iload_n 1, 1) := by decide +kernel
theorem dX10_statementIs_115 : decode cX10_statementIs 115 = .ok (.iaload, 1) := by decide +kernel
theorem dX10_statementIs_116 : decode cX10_statementIs 116 = .ok (.ifCond .ne 21, 3) := by decide +kernel
theorem dX10_statementIs_119 : decode cX10_statementIs 119 = .ok (.aload_n 0, 1) := by decide +kernel
theorem dX10_statementIs_120 : decode cX10_statementIs 120 = .ok (.getfield 7, 3) := by decide +kernel
theorem dX10_statementIs_123 : decode cX10_statementIs 123 = .ok (.sipush 201, 3) := by decide +kernel
theorem dX10_statementIs_126 : decode cX10_statementIs 126 = .ok (.aload_n 0, 1) := by decide +kernel
theorem dX10_statementIs_127 : decode cX10_statementIs 127 = .ok (.getfield 43, 3) := by decide +kernel
theorem dX10_statementIs_130 : decode cX10_statementIs 130 = .ok (.iload_n 1, 1) := by decide +kernel
theorem dX10_statementIs_131 : decode cX10_statementIs 131 = .ok (.iaload, 1) := by decide +kernel
theorem dX10_statementIs_132 : decode cX10_statementIs 132 = .ok (.iadd, 1) := by decide +kernel
theorem dX10_statementIs_133 : decode cX10_statementIs 133 = .ok (.iaload, 1) := by decide +kernel
theorem dX10_statementIs_134 : decode cX10_statementIs 134 = .ok (.goto 4, 3) := by decide +kernel
theorem dX10_statementIs_137 : decode cX10_statementIs 137 = .ok (.iconst (-1), 1) := by decide +kernel
theorem dX10_statementIs_138 : decode cX10_statementIs 138 = .ok (.ireturn, 1) := by decide +kernel
theorem dX10_statementIs_139 : decode cX10_statementIs 139 = .ok (.aload_n 0, 1) := by decide +kernel
theorem dX10_statementIs_140 : decode cX10_statementIs 140 = .ok (.getfield 31, 3) := by decide +kernel
theorem dX10_statementIs_143 : decode cX10_statementIs 143 = .ok (.iload_n 1, 1) := by decide +kernel
theorem dX10_statementIs_144 : decode cX10_statementIs 144 = .ok (.iaload, 1) := by decide +kernel
theorem dX10_statementIs_145 : decode cX10_statementIs 145 = .ok (.bipush 7, 2) := by decide +kernel
theorem dX10_statementIs_147 : decode cX10_statementIs 147 = .ok (.if_icmp .ne 21, 3) := by decide +kernel
theorem dX10_statementIs_150 : decode cX10_statementIs 150 = .ok (.aload_n 0, 1) := by decide +kernel
theorem dX10_statementIs_151 : decode cX10_statementIs 151 = .ok (.getfield 7, 3) := by decide +kernel
theorem dX10_statementIs_154 : decode cX10_statementIs 154 = .ok (.sipush 870, 3) := by decide +kernel
theorem dX10_statementIs_157 : decode cX10_statementIs 157 = .ok (.aload_n 0, 1) := by decide +kernel
theorem dX10_statementIs_158 : decode cX10_statementIs 158 = .ok (.getfield 46, 3) := by decide +kernel
theorem dX10_statementIs_161 : decode cX10_statementIs 161 = .ok (.iload_n 1, 1) := by decide +kernel
theorem dX10_statementIs_162 : decode cX10_statementIs 162 = .ok (.iaload, 1) := by decide +kernel
theorem dX10_statementIs_163 : decode cX10_statementIs 163 = .ok (.iadd, 1) := by decide +kernel
theorem dX10_statementIs_164 : decode cX10_statementIs 164 = .ok (.iaload, 1) := by decide +kernel
theorem dX10_statementIs_165 : decode cX10_statementIs 165 = .ok (.goto 4, 3) := by decide +kernel
theorem dX10_statementIs_168 : decode cX10_statementIs 168 = .ok (.iconst (-1), 1) := by decide +kernel
theorem dX10_statementIs_169 : decode cX10_statementIs 169 = .ok (.ireturn, 1) := by decide +kernel
set_option maxHeartbeats 4000000 in
set_option maxRecDepth 10000 in
theorem vX10_statementIs_0 {l : Launch} {M : sl_M} {Q : sl_R} {x1 x2 : Int} (H : sl_RM M → sl_rg x1 → sl_rg x2 → sl_At l mX10_statementIs 5 [(0, vR 1 0), (1, vI x1), (2, vI x2), (3, vI 0), (4, vI 0)] [] M Q) : sl_At l mX10_statementIs 0 [(0, vR 1 0), (1, vI x1), (2, vI x2)] [] M Q := by
  refine sl_At.in (fun hM hls => ?_)
  have g1 : sl_rg x1 := hls _ (List.mem_of_getElem? (i := 1) rfl)
  have g2 : sl_rg x2 := hls _ (List.mem_of_getElem? (i := 2) rfl)
  have H := H hM g1 g2
  refine r_iconst dX10_statementIs_0 ?_
  refine r_istore_n (ls' := [(3, vI 0), (0, vR 1 0), (1, vI x1), (2, vI x2)]) ⟨by decide, by decide⟩ rfl (by decide) rfl dX10_statementIs_1 ?_
  refine r_iconst dX10_statementIs_2 ?_
  refine r_istore (ls' := [(4, vI 0), (3, vI 0), (0, vR 1 0), (1, vI x1), (2, vI x2)]) ⟨by decide, by decide⟩ (by decide) rfl dX10_statementIs_3 ?_
  exact sl_At.sub [2, 3, 4, 1, 0] rfl H
set_option maxHeartbeats 4000000 in
set_option maxRecDepth 10000 in
theorem vX10_statementIs_5 {l : Launch} {M : sl_M} {Q : sl_R} {x1 x2 x3 x4 : Int} (H : sl_RM M → sl_rg x1 → sl_rg x2 → sl_rg x3 → sl_rg x4 → ((x1 ≤ x4) → ((x2 = 0) → (0 ≤ x1 ∧ x1 < 82) ∧ Q (some (vI (M 1 17 x1))) M) ∧ ((x2 = 1) → (0 ≤ x1 ∧ x1 < 82) ∧ Q (some (vI (M 1 18 x1))) M) ∧ ((x2 = 2) → (0 ≤ x1 ∧ x1 < 82) ∧ (sl_rg (M 1 20 x1 - x1 - 1)) ∧ Q (some (vI (M 1 20 x1 - x1 - 1))) M) ∧ ((x2 = 3) → Q (some (vI x3)) M) ∧ ((x2 = 4) → (0 ≤ x1 ∧ x1 < 82) ∧ Q (some (vI (M 1 19 x1))) M) ∧ ((x2 = 5) → (0 ≤ x1 ∧ x1 < 82) ∧ (((¬ (M 1 17 x1 ≠ 0)) → (0 ≤ 201 + (M 1 21 x1) ∧ 201 + (M 1 21 x1) < 990))) ∧ Q (some (vI (if M 1 17 x1 ≠ 0 then (-1) else M 1 1 (201 + (M 1 21 x1))))) M) ∧ ((¬ (x2 = 0) ∧ ¬ (x2 = 1) ∧ ¬ (x2 = 2) ∧ ¬ (x2 = 3) ∧ ¬ (x2 = 4) ∧ ¬ (x2 = 5)) → (0 ≤ x1 ∧ x1 < 82) ∧ (((¬ (M 1 17 x1 ≠ 7)) → (0 ≤ 870 + (M 1 22 x1) ∧ 870 + (M 1 22 x1) < 990))) ∧ Q (some (vI (if M 1 17 x1 ≠ 7 then (-1) else M 1 1 (870 + (M 1 22 x1))))) M)) ∧ ((¬ (x1 ≤ x4)) → sl_RI l mX10_areOfBlock [vR 1 0, vI 0, vI x4, vI x1] M (fun y20 M19 => (sl_rg (x3 + (if ¬ (y20 = 0) then 1 else 0))) ∧ (∀ y23 : Int, y23 = x3 + (if ¬ (y20 = 0) then 1 else 0) → (sl_rg (x4 + 1)) ∧ sl_At l mX10_statementIs 5 [(0, vR 1 0), (1, vI x1), (2, vI x2), (3, vI y23), (4, vI (x4 + 1))] [] M19 Q)))) : sl_At l mX10_statementIs 5 [(0, vR 1 0), (1, vI x1), (2, vI x2), (3, vI x3), (4, vI x4)] [] M Q := by
  refine sl_At.in (fun hM hls => ?_)
  have g1 : sl_rg x1 := hls _ (List.mem_of_getElem? (i := 1) rfl)
  have g2 : sl_rg x2 := hls _ (List.mem_of_getElem? (i := 2) rfl)
  have g3 : sl_rg x3 := hls _ (List.mem_of_getElem? (i := 3) rfl)
  have g4 : sl_rg x4 := hls _ (List.mem_of_getElem? (i := 4) rfl)
  have H := H hM g1 g2 g3 g4
  refine r_iload (k := 4) rfl dX10_statementIs_5 ?_
  refine r_iload_n (k := 1) rfl rfl dX10_statementIs_7 ?_
  refine r_icmp_ge (tgt := 36) g4 g1 dX10_statementIs_8 (by decide) (fun h1 => ?_) (fun h1 => ?_)
  · have H := H.1 h1
    refine r_iload_n (k := 2) rfl rfl dX10_statementIs_36 ?_
    by_cases h13 : x2 = 0
    · refine r_tsIn (tgt := 76) 0 g2 dX10_statementIs_37 (by omega) (by decide) rfl (by decide) ?_
      have H := H.1 (by omega)
      refine r_aload_n (k := 0) rfl rfl dX10_statementIs_76 ?_
      refine r_getR (k := 16) (o' := 1) (i' := 17) ckX10 rfl rfl (by decide) rfl rfl rfl fl_X10_31 dX10_statementIs_77 ?_
      refine r_iload_n (k := 1) rfl rfl dX10_statementIs_80 ?_
      obtain ⟨c2, H⟩ := H
      refine r_iald rfl rfl rfl c2 dX10_statementIs_81 ?_
      refine r_iret rfl (hM _ _ _) dX10_statementIs_82 ?_
      exact H
    by_cases h14 : x2 = 1
    · refine r_tsIn (tgt := 83) 1 g2 dX10_statementIs_37 (by omega) (by decide) rfl (by decide) ?_
      have H := H.2.1 (by omega)
      refine r_aload_n (k := 0) rfl rfl dX10_statementIs_83 ?_
      refine r_getR (k := 17) (o' := 1) (i' := 18) ckX10 rfl rfl (by decide) rfl rfl rfl fl_X10_34 dX10_statementIs_84 ?_
      refine r_iload_n (k := 1) rfl rfl dX10_statementIs_87 ?_
      obtain ⟨c3, H⟩ := H
      refine r_iald rfl rfl rfl c3 dX10_statementIs_88 ?_
      refine r_iret rfl (hM _ _ _) dX10_statementIs_89 ?_
      exact H
    by_cases h15 : x2 = 2
    · refine r_tsIn (tgt := 90) 2 g2 dX10_statementIs_37 (by omega) (by decide) rfl (by decide) ?_
      have H := H.2.2.1 (by omega)
      refine r_aload_n (k := 0) rfl rfl dX10_statementIs_90 ?_
      refine r_getR (k := 19) (o' := 1) (i' := 20) ckX10 rfl rfl (by decide) rfl rfl rfl fl_X10_40 dX10_statementIs_91 ?_
      refine r_iload_n (k := 1) rfl rfl dX10_statementIs_94 ?_
      obtain ⟨c4, H⟩ := H
      refine r_iald rfl rfl rfl c4 dX10_statementIs_95 ?_
      refine r_iload_n (k := 1) rfl rfl dX10_statementIs_96 ?_
      refine r_isub dX10_statementIs_97 ?_
      refine r_iconst dX10_statementIs_98 ?_
      refine r_isub dX10_statementIs_99 ?_
      obtain ⟨c5, H⟩ := H
      refine r_iret rfl c5 dX10_statementIs_100 ?_
      exact H
    by_cases h16 : x2 = 3
    · refine r_tsIn (tgt := 101) 3 g2 dX10_statementIs_37 (by omega) (by decide) rfl (by decide) ?_
      have H := H.2.2.2.1 (by omega)
      refine r_iload_n (k := 3) rfl rfl dX10_statementIs_101 ?_
      refine r_iret rfl g3 dX10_statementIs_102 ?_
      exact H
    by_cases h17 : x2 = 4
    · refine r_tsIn (tgt := 103) 4 g2 dX10_statementIs_37 (by omega) (by decide) rfl (by decide) ?_
      have H := H.2.2.2.2.1 (by omega)
      refine r_aload_n (k := 0) rfl rfl dX10_statementIs_103 ?_
      refine r_getR (k := 18) (o' := 1) (i' := 19) ckX10 rfl rfl (by decide) rfl rfl rfl fl_X10_37 dX10_statementIs_104 ?_
      refine r_iload_n (k := 1) rfl rfl dX10_statementIs_107 ?_
      obtain ⟨c6, H⟩ := H
      refine r_iald rfl rfl rfl c6 dX10_statementIs_108 ?_
      refine r_iret rfl (hM _ _ _) dX10_statementIs_109 ?_
      exact H
    by_cases h18 : x2 = 5
    · refine r_tsIn (tgt := 110) 5 g2 dX10_statementIs_37 (by omega) (by decide) rfl (by decide) ?_
      have H := H.2.2.2.2.2.1 (by omega)
      refine r_aload_n (k := 0) rfl rfl dX10_statementIs_110 ?_
      refine r_getR (k := 16) (o' := 1) (i' := 17) ckX10 rfl rfl (by decide) rfl rfl rfl fl_X10_31 dX10_statementIs_111 ?_
      refine r_iload_n (k := 1) rfl rfl dX10_statementIs_114 ?_
      obtain ⟨c7, H⟩ := H
      refine r_iald rfl rfl rfl c7 dX10_statementIs_115 ?_
      obtain ⟨K, H⟩ := H
      have J : sl_At l mX10_statementIs 138 [(0, vR 1 0), (1, vI x1), (2, vI x2), (3, vI x3), (4, vI x4)] [vI (if M 1 17 x1 ≠ 0 then (-1) else M 1 1 (201 + (M 1 21 x1)))] M Q := by
        refine r_iret rfl (sl_rgite ⟨by decide, by decide⟩ (hM _ _ _)) dX10_statementIs_138 ?_
        exact H
      refine r_if_ne (tgt := 137) (hM _ _ _) dX10_statementIs_116 (by decide) (fun h9 => ?_) (fun h9 => ?_)
      · refine r_iconst dX10_statementIs_137 ?_
        rw [if_pos h9] at J
        exact J
      · replace K := K h9
        have c8 := K
        refine r_aload_n (k := 0) rfl rfl dX10_statementIs_119 ?_
        refine r_getR (k := 0) (o' := 1) (i' := 1) ckX10 rfl rfl (by decide) rfl rfl rfl fl_X10_7 dX10_statementIs_120 ?_
        refine r_sipush dX10_statementIs_123 (by decide) ?_
        refine r_aload_n (k := 0) rfl rfl dX10_statementIs_126 ?_
        refine r_getR (k := 20) (o' := 1) (i' := 21) ckX10 rfl rfl (by decide) rfl rfl rfl fl_X10_43 dX10_statementIs_127 ?_
        refine r_iload_n (k := 1) rfl rfl dX10_statementIs_130 ?_
        refine r_iald rfl rfl rfl c7 dX10_statementIs_131 ?_
        refine r_iadd dX10_statementIs_132 ?_
        refine r_iald rfl rfl rfl c8 dX10_statementIs_133 ?_
        refine r_goto (tgt := 138) dX10_statementIs_134 (by decide) ?_
        rw [if_neg h9] at J
        exact J
    refine r_tsOut (tgt := 139) g2 dX10_statementIs_37 (by omega) (by decide) ?_
    have H := H.2.2.2.2.2.2 (by omega)
    refine r_aload_n (k := 0) rfl rfl dX10_statementIs_139 ?_
    refine r_getR (k := 16) (o' := 1) (i' := 17) ckX10 rfl rfl (by decide) rfl rfl rfl fl_X10_31 dX10_statementIs_140 ?_
    refine r_iload_n (k := 1) rfl rfl dX10_statementIs_143 ?_
    obtain ⟨c10, H⟩ := H
    refine r_iald rfl rfl rfl c10 dX10_statementIs_144 ?_
    refine r_bipush dX10_statementIs_145 (by decide) ?_
    obtain ⟨K, H⟩ := H
    have J : sl_At l mX10_statementIs 169 [(0, vR 1 0), (1, vI x1), (2, vI x2), (3, vI x3), (4, vI x4)] [vI (if M 1 17 x1 ≠ 7 then (-1) else M 1 1 (870 + (M 1 22 x1)))] M Q := by
      refine r_iret rfl (sl_rgite ⟨by decide, by decide⟩ (hM _ _ _)) dX10_statementIs_169 ?_
      exact H
    refine r_icmp_ne (tgt := 168) (hM _ _ _) ⟨by decide, by decide⟩ dX10_statementIs_147 (by decide) (fun h12 => ?_) (fun h12 => ?_)
    · refine r_iconst dX10_statementIs_168 ?_
      rw [if_pos h12] at J
      exact J
    · replace K := K h12
      have c11 := K
      refine r_aload_n (k := 0) rfl rfl dX10_statementIs_150 ?_
      refine r_getR (k := 0) (o' := 1) (i' := 1) ckX10 rfl rfl (by decide) rfl rfl rfl fl_X10_7 dX10_statementIs_151 ?_
      refine r_sipush dX10_statementIs_154 (by decide) ?_
      refine r_aload_n (k := 0) rfl rfl dX10_statementIs_157 ?_
      refine r_getR (k := 21) (o' := 1) (i' := 22) ckX10 rfl rfl (by decide) rfl rfl rfl fl_X10_46 dX10_statementIs_158 ?_
      refine r_iload_n (k := 1) rfl rfl dX10_statementIs_161 ?_
      refine r_iald rfl rfl rfl c10 dX10_statementIs_162 ?_
      refine r_iadd dX10_statementIs_163 ?_
      refine r_iald rfl rfl rfl c11 dX10_statementIs_164 ?_
      refine r_goto (tgt := 169) dX10_statementIs_165 (by decide) ?_
      rw [if_neg h12] at J
      exact J
  · have H := H.2 h1
    refine r_iload_n (k := 3) rfl rfl dX10_statementIs_11 ?_
    refine r_aload_n (k := 0) rfl rfl dX10_statementIs_12 ?_
    refine r_iconst dX10_statementIs_13 ?_
    refine r_iload (k := 4) rfl dX10_statementIs_14 ?_
    refine r_iload_n (k := 1) rfl rfl dX10_statementIs_16 ?_
    refine r_callV (g := mX10_areOfBlock) ckX10 rfl rfl rfl rfl mkX10_areOfBlock mvX10_areOfBlock ml_X10_204 ⟨by decide, by decide⟩ rfl (Nat.le_of_ble_eq_true rfl) rfl (ok_i ⟨by decide, by decide⟩ (ok_i g4 (ok_i g1 ok_n))) dX10_statementIs_17 (sl_afterI (sl_RI.mono (fun y20 M19 gy20 hM19 H => ?_) H))
    have J : sl_At l mX10_statementIs 28 [(0, vR 1 0), (1, vI x1), (2, vI x2), (3, vI x3), (4, vI x4)] [vI (if ¬ (y20 = 0) then 1 else 0), vI x3] M19 Q := by
      refine r_iadd dX10_statementIs_28 ?_
      obtain ⟨c22, H⟩ := H
      refine r_nm (fun y23 fy23 => ?_)
      have H := H y23 fy23
      have gy23 : sl_rg y23 := by rw [fy23]; exact c22
      refine r_istore_n (ls' := [(3, vI y23), (0, vR 1 0), (1, vI x1), (2, vI x2), (4, vI x4)]) gy23 rfl (by decide) rfl dX10_statementIs_29 ?_
      obtain ⟨c24, H⟩ := H
      refine r_iinc (k := 4) (ls' := [(4, vI (x4 + 1)), (3, vI y23), (0, vR 1 0), (1, vI x1), (2, vI x2)]) rfl c24 (by decide) rfl dX10_statementIs_30 ?_
      refine r_goto (tgt := 5) dX10_statementIs_33 (by decide) ?_
      exact sl_At.sub [2, 3, 4, 1, 0] rfl H
    refine r_if_eq (tgt := 27) gy20 dX10_statementIs_20 (by decide) (fun h21 => ?_) (fun h21 => ?_)
    · refine r_iconst dX10_statementIs_27 ?_
      rw [if_neg (show ¬ (¬ (y20 = 0)) by omega)] at J
      exact J
    · refine r_iconst dX10_statementIs_23 ?_
      refine r_goto (tgt := 28) dX10_statementIs_24 (by decide) ?_
      rw [if_pos (show ¬ (y20 = 0) by omega)] at J
      exact J
theorem eX10_statementIs {l : Launch} {M : sl_M} {Q : sl_R} {x1 x2 : Int} (k : sl_At l mX10_statementIs 0 [(0, vR 1 0), (1, vI x1), (2, vI x2)] [] M Q) : sl_Runs l mX10_statementIs [vR 1 0, vI x1, vI x2] M Q := sl_Runs.of (ls := [(0, vR 1 0), (1, vI x1), (2, vI x2)]) rfl rfl (fun _ => rfl) (fun _ => Nat.le_of_ble_eq_true rfl) rfl (k)
theorem dX10_statement_0 : decode cX10_statement 0 = .ok (.aload_n 0, 1) := by decide +kernel
theorem dX10_statement_1 : decode cX10_statement 1 = .ok (.invokevirtual 292, 3) := by decide +kernel
theorem dX10_statement_4 : decode cX10_statement 4 = .ok (.aload_n 0, 1) := by decide +kernel
theorem dX10_statement_5 : decode cX10_statement 5 = .ok (.iload_n 1, 1) := by decide +kernel
theorem dX10_statement_6 : decode cX10_statement 6 = .ok (.invokevirtual 243, 3) := by decide +kernel
theorem dX10_statement_9 : decode cX10_statement 9 = .ok (.ifCond .eq 22, 3) := by decide +kernel
theorem dX10_statement_12 : decode cX10_statement 12 = .ok (.iload_n 2, 1) := by decide +kernel
theorem dX10_statement_13 : decode cX10_statement 13 = .ok (.iconst 0, 1) := by decide +kernel
theorem dX10_statement_14 : decode cX10_statement 14 = .ok (.bipush 6, 2) := by decide +kernel
theorem dX10_statement_16 : decode cX10_statement 16 = .ok (.invokestatic 135, 3) := by decide +kernel
theorem dX10_statement_19 : decode cX10_statement 19 = .ok (.ifCond .eq 12, 3) := by decide +kernel
theorem dX10_statement_22 : decode cX10_statement 22 = .ok (.aload_n 0, 1) := by decide +kernel
theorem dX10_statement_23 : decode cX10_statement 23 = .ok (.iload_n 1, 1) := by decide +kernel
theorem dX10_statement_24 : decode cX10_statement 24 = .ok (.iload_n 2, 1) := by decide +kernel
theorem dX10_statement_25 : decode cX10_statement 25 = .ok (.invokevirtual 356, 3) := by decide +kernel
theorem dX10_statement_28 : decode cX10_statement 28 = .ok (.goto 7, 3) := by decide +kernel
theorem dX10_statement_31 : decode cX10_statement 31 = .ok (.aload_n 0, 1) := by decide +kernel
theorem dX10_statement_32 : decode cX10_statement 32 = .ok (.invokevirtual 139, 3) := by decide +kernel
theorem dX10_statement_35 : decode cX10_statement 35 = .ok (.ireturn, 1) := by decide +kernel
set_option maxHeartbeats 4000000 in
set_option maxRecDepth 10000 in
theorem vX10_statement_0 {l : Launch} {M : sl_M} {Q : sl_R} {x1 x2 : Int} (H : sl_RM M → sl_rg x1 → sl_rg x2 → sl_RV l mX10_lays [vR 1 0] M (fun M1 => sl_RI l mX10_isStatement [vR 1 0, vI x1] M1 (fun y3 M2 => ((y3 = 0) → sl_RI l mX10_bad [vR 1 0] M2 (fun y6 M5 => Q (some (vI y6)) M5)) ∧ ((¬ (y3 = 0)) → ((¬ (0 ≤ x2 ∧ x2 ≤ 6)) → sl_RI l mX10_bad [vR 1 0] M2 (fun y9 M8 => Q (some (vI y9)) M8)) ∧ ((0 ≤ x2 ∧ x2 ≤ 6) → sl_RI l mX10_statementIs [vR 1 0, vI x1, vI x2] M2 (fun y11 M10 => Q (some (vI y11)) M10)))))) : sl_At l mX10_statement 0 [(0, vR 1 0), (1, vI x1), (2, vI x2)] [] M Q := by
  refine sl_At.in (fun hM hls => ?_)
  have g1 : sl_rg x1 := hls _ (List.mem_of_getElem? (i := 1) rfl)
  have g2 : sl_rg x2 := hls _ (List.mem_of_getElem? (i := 2) rfl)
  have H := H hM g1 g2
  refine r_aload_n (k := 0) rfl rfl dX10_statement_0 ?_
  refine r_callV (g := mX10_lays) ckX10 rfl rfl rfl rfl mkX10_lays mvX10_lays ml_X10_292 ⟨by decide, by decide⟩ rfl (Nat.le_of_ble_eq_true rfl) rfl ok_n dX10_statement_1 (sl_afterV (sl_RV.mono (fun M1 hM1 H => ?_) H))
  refine r_aload_n (k := 0) rfl rfl dX10_statement_4 ?_
  refine r_iload_n (k := 1) rfl rfl dX10_statement_5 ?_
  refine r_callV (g := mX10_isStatement) ckX10 rfl rfl rfl rfl mkX10_isStatement mvX10_isStatement ml_X10_243 ⟨by decide, by decide⟩ rfl (Nat.le_of_ble_eq_true rfl) rfl (ok_i g1 ok_n) dX10_statement_6 (sl_afterI (sl_RI.mono (fun y3 M2 gy3 hM2 H => ?_) H))
  refine r_if_eq (tgt := 31) gy3 dX10_statement_9 (by decide) (fun h4 => ?_) (fun h4 => ?_)
  · have H := H.1 h4
    refine r_aload_n (k := 0) rfl rfl dX10_statement_31 ?_
    refine r_callV (g := mX10_bad) ckX10 rfl rfl rfl rfl mkX10_bad mvX10_bad ml_X10_139 ⟨by decide, by decide⟩ rfl (Nat.le_of_ble_eq_true rfl) rfl ok_n dX10_statement_32 (sl_afterI (sl_RI.mono (fun y6 M5 gy6 hM5 H => ?_) H))
    refine r_iret rfl gy6 dX10_statement_35 ?_
    exact H
  · have H := H.2 h4
    refine r_iload_n (k := 2) rfl rfl dX10_statement_12 ?_
    refine r_iconst dX10_statement_13 ?_
    refine r_bipush dX10_statement_14 (by decide) ?_
    refine r_callS (g := mX10_in) rfl mkX10_in msX10_in ml_X10_135 ⟨by decide, by decide⟩ rfl (Nat.le_of_ble_eq_true rfl) rfl (ok_i g2 (ok_i ⟨by decide, by decide⟩ (ok_i ⟨by decide, by decide⟩ ok_n))) dX10_statement_16 (sl_afterI (sl_RI.by kX10_in ?_))
    refine r_if_eq (tgt := 31) rg_b dX10_statement_19 (by decide) (fun h7 => ?_) (fun h7 => ?_)
    · have H := H.1 (b_eq0.mp h7)
      refine r_aload_n (k := 0) rfl rfl dX10_statement_31 ?_
      refine r_callV (g := mX10_bad) ckX10 rfl rfl rfl rfl mkX10_bad mvX10_bad ml_X10_139 ⟨by decide, by decide⟩ rfl (Nat.le_of_ble_eq_true rfl) rfl ok_n dX10_statement_32 (sl_afterI (sl_RI.mono (fun y9 M8 gy9 hM8 H => ?_) H))
      refine r_iret rfl gy9 dX10_statement_35 ?_
      exact H
    · have H := H.2 (b_ne0.mp h7)
      refine r_aload_n (k := 0) rfl rfl dX10_statement_22 ?_
      refine r_iload_n (k := 1) rfl rfl dX10_statement_23 ?_
      refine r_iload_n (k := 2) rfl rfl dX10_statement_24 ?_
      refine r_callV (g := mX10_statementIs) ckX10 rfl rfl rfl rfl mkX10_statementIs mvX10_statementIs ml_X10_356 ⟨by decide, by decide⟩ rfl (Nat.le_of_ble_eq_true rfl) rfl (ok_i g1 (ok_i g2 ok_n)) dX10_statement_25 (sl_afterI (sl_RI.mono (fun y11 M10 gy11 hM10 H => ?_) H))
      refine r_goto (tgt := 35) dX10_statement_28 (by decide) ?_
      refine r_iret rfl gy11 dX10_statement_35 ?_
      exact H
theorem eX10_statement {l : Launch} {M : sl_M} {Q : sl_R} {x1 x2 : Int} (k : sl_At l mX10_statement 0 [(0, vR 1 0), (1, vI x1), (2, vI x2)] [] M Q) : sl_Runs l mX10_statement [vR 1 0, vI x1, vI x2] M Q := sl_Runs.of (ls := [(0, vR 1 0), (1, vI x1), (2, vI x2)]) rfl rfl (fun _ => rfl) (fun _ => Nat.le_of_ble_eq_true rfl) rfl (k)
theorem dX10_signOf_0 : decode cX10_signOf 0 = .ok (.aload_n 0, 1) := by decide +kernel
theorem dX10_signOf_1 : decode cX10_signOf 1 = .ok (.getfield 31, 3) := by decide +kernel
theorem dX10_signOf_4 : decode cX10_signOf 4 = .ok (.iload_n 1, 1) := by decide +kernel
theorem dX10_signOf_5 : decode cX10_signOf 5 = .ok (.iaload, 1) := by decide +kernel
theorem dX10_signOf_6 : decode cX10_signOf 6 = .ok (.bipush 7, 2) := by decide +kernel
theorem dX10_signOf_8 : decode cX10_signOf 8 = .ok (.if_icmp .eq 47, 3) := by decide +kernel
theorem dX10_signOf_11 : decode cX10_signOf 11 = .ok (.iload_n 2, 1) := by decide +kernel
theorem dX10_signOf_12 : decode cX10_signOf 12 = .ok (.aload_n 0, 1) := by decide +kernel
theorem dX10_signOf_13 : decode cX10_signOf 13 = .ok (.getfield 7, 3) := by decide +kernel
theorem dX10_signOf_16 : decode cX10_signOf 16 = .ok (.sipush 241, 3) := by decide +kernel
theorem dX10_signOf_19 : decode cX10_signOf 19 = .ok (.aload_n 0, 1) := by decide +kernel
theorem dX10_signOf_20 : decode cX10_signOf 20 = .ok (.getfield 43, 3) := by decide +kernel
theorem dX10_signOf_23 : decode cX10_signOf 23 = .ok (.iload_n 1, 1) := by decide +kernel
theorem dX10_signOf_24 : decode cX10_signOf 24 = .ok (.iaload, 1) := by decide +kernel
theorem dX10_signOf_25 : decode cX10_signOf 25 = .ok (.iadd, 1) := by decide +kernel
theorem dX10_signOf_26 : decode cX10_signOf 26 = .ok (.iaload, 1) := by decide +kernel
theorem dX10_signOf_27 : decode cX10_signOf 27 = .ok (.if_icmp .ge 26, 3) := by decide +kernel
theorem dX10_signOf_30 : decode cX10_signOf 30 = .ok (.aload_n 0, 1) := by decide +kernel
theorem dX10_signOf_31 : decode cX10_signOf 31 = .ok (.getfield 7, 3) := by decide +kernel
theorem dX10_signOf_34 : decode cX10_signOf 34 = .ok (.sipush 281, 3) := by decide +kernel
theorem dX10_signOf_37 : decode cX10_signOf 37 = .ok (.bipush 12, 2) := by decide +kernel
theorem dX10_signOf_39 : decode cX10_signOf 39 = .ok (.aload_n 0, 1) := by decide +kernel
theorem dX10_signOf_40 : decode cX10_signOf 40 = .ok (.getfield 43, 3) := by decide +kernel
theorem dX10_signOf_43 : decode cX10_signOf 43 = .ok (.iload_n 1, 1) := by decide +kernel
theorem dX10_signOf_44 : decode cX10_signOf 44 = .ok (.iaload, 1) := by decide +kernel
theorem dX10_signOf_45 : decode cX10_signOf 45 = .ok (.imul, 1) := by decide +kernel
theorem dX10_signOf_46 : decode cX10_signOf 46 = .ok (.iadd, 1) := by decide +kernel
theorem dX10_signOf_47 : decode cX10_signOf 47 = .ok (.iload_n 2, 1) := by decide +kernel
theorem dX10_signOf_48 : decode cX10_signOf 48 = .ok (.iadd, 1) := by decide +kernel
theorem dX10_signOf_49 : decode cX10_signOf 49 = .ok (.iaload, 1) := by decide +kernel
theorem dX10_signOf_50 : decode cX10_signOf 50 = .ok (.goto 4, 3) := by decide +kernel
theorem dX10_signOf_53 : decode cX10_signOf 53 = .ok (.iconst (-1), 1) := by decide +kernel
theorem dX10_signOf_54 : decode cX10_signOf 54 = .ok (.ireturn, 1) := by decide +kernel
theorem dX10_signOf_55 : decode cX10_signOf 55 = .ok (.aload_n 0, 1) := by decide +kernel
theorem dX10_signOf_56 : decode cX10_signOf 56 = .ok (.getfield 7, 3) := by decide +kernel
theorem dX10_signOf_59 : decode cX10_signOf 59 = .ok (.sipush 910, 3) := by decide +kernel
theorem dX10_signOf_62 : decode cX10_signOf 62 = .ok (.aload_n 0, 1) := by decide +kernel
theorem dX10_signOf_63 : decode cX10_signOf 63 = .ok (.getfield 46, 3) := by decide +kernel
theorem dX10_signOf_66 : decode cX10_signOf 66 = .ok (.iload_n 1, 1) := by decide +kernel
theorem dX10_signOf_67 : decode cX10_signOf 67 = .ok (.iaload, 1) := by decide +kernel
theorem dX10_signOf_68 : decode cX10_signOf 68 = .ok (.iadd, 1) := by decide +kernel
theorem dX10_signOf_69 : decode cX10_signOf 69 = .ok (.iaload, 1) := by decide +kernel
theorem dX10_signOf_70 : decode cX10_signOf 70 = .ok (.istore_n 3, 1) := by decide +kernel
theorem dX10_signOf_71 : decode cX10_signOf 71 = .ok (.aload_n 0, 1) := by decide +kernel
theorem dX10_signOf_72 : decode cX10_signOf 72 = .ok (.getfield 7, 3) := by decide +kernel
theorem dX10_signOf_75 : decode cX10_signOf 75 = .ok (.sipush 950, 3) := by decide +kernel
theorem dX10_signOf_78 : decode cX10_signOf 78 = .ok (.aload_n 0, 1) := by decide +kernel
theorem dX10_signOf_79 : decode cX10_signOf 79 = .ok (.getfield 46, 3) := by decide +kernel
theorem dX10_signOf_82 : decode cX10_signOf 82 = .ok (.iload_n 1, 1) := by decide +kernel
theorem dX10_signOf_83 : decode cX10_signOf 83 = .ok (.iaload, 1) := by decide +kernel
theorem dX10_signOf_84 : decode cX10_signOf 84 = .ok (.iadd, 1) := by decide +kernel
theorem dX10_signOf_85 : decode cX10_signOf 85 = .ok (.iaload, 1) := by decide +kernel
theorem dX10_signOf_86 : decode cX10_signOf 86 = .ok (.istore 4, 2) := by decide +kernel
theorem dX10_signOf_88 : decode cX10_signOf 88 = .ok (.iload_n 3, 1) := by decide +kernel
theorem dX10_signOf_89 : decode cX10_signOf 89 = .ok (.bipush 16, 2) := by decide +kernel
theorem dX10_signOf_91 : decode cX10_signOf 91 = .ok (.irem, 1) := by decide +kernel
theorem dX10_signOf_92 : decode cX10_signOf 92 = .ok (.istore 5, 2) := by decide +kernel
theorem dX10_signOf_94 : decode cX10_signOf 94 = .ok (.iload_n 2, 1) := by decide +kernel
theorem dX10_signOf_95 : decode cX10_signOf 95 = .ok (.iload 5, 2) := by decide +kernel
theorem dX10_signOf_97 : decode cX10_signOf 97 = .ok (.if_icmp .ge 17, 3) := by decide +kernel
theorem dX10_signOf_100 : decode cX10_signOf 100 = .ok (.bipush 97, 2) := by decide +kernel
theorem dX10_signOf_102 : decode cX10_signOf 102 = .ok (.iload_n 3, 1) := by decide +kernel
theorem dX10_signOf_103 : decode cX10_signOf 103 = .ok (.iconst 4, 1) := by decide +kernel
theorem dX10_signOf_104 : decode cX10_signOf 104 = .ok (.iconst 4, 1) := by decide +kernel
theorem dX10_signOf_105 : decode cX10_signOf 105 = .ok (.iload_n 2, 1) := by decide +kernel
theorem dX10_signOf_106 : decode cX10_signOf 106 = .ok (.imul, 1) := by decide +kernel
theorem dX10_signOf_107 : decode cX10_signOf 107 = .ok (.iadd, 1) := by decide +kernel
theorem dX10_signOf_108 : decode cX10_signOf 108 = .ok (.ishr, 1) := by decide +kernel
theorem dX10_signOf_109 : decode cX10_signOf 109 = .ok (.bipush 15, 2) := by decide +kernel
theorem dX10_signOf_111 : decode cX10_signOf 111 = .ok (.iand, 1) := by decide +kernel
theorem dX10_signOf_112 : decode cX10_signOf 112 = .ok (.iadd, 1) := by decide +kernel
theorem dX10_signOf_113 : decode cX10_signOf 113 = .ok (.ireturn, 1) := by decide +kernel
theorem dX10_signOf_114 : decode cX10_signOf 114 = .ok (.iload_n 2, 1) := by decide +kernel
theorem dX10_signOf_115 : decode cX10_signOf 115 = .ok (.iload 5, 2) := by decide +kernel
theorem dX10_signOf_117 : decode cX10_signOf 117 = .ok (.if_icmp .ne 8, 3) := by decide +kernel
theorem dX10_signOf_120 : decode cX10_signOf 120 = .ok (.bipush 62, 2) := by decide +kernel
theorem dX10_signOf_122 : decode cX10_signOf 122 = .ok (.goto 40, 3) := by decide +kernel
theorem dX10_signOf_125 : decode cX10_signOf 125 = .ok (.iload_n 2, 1) := by decide +kernel
theorem dX10_signOf_126 : decode cX10_signOf 126 = .ok (.iload 5, 2) := by decide +kernel
theorem dX10_signOf_128 : decode cX10_signOf 128 = .ok (.isub, 1) := by decide +kernel
theorem dX10_signOf_129 : decode cX10_signOf 129 = .ok (.iconst 1, 1) := by decide +kernel
theorem dX10_signOf_130 : decode cX10_signOf 130 = .ok (.isub, 1) := by decide +kernel
theorem dX10_signOf_131 : decode cX10_signOf 131 = .ok (.iload 4, 2) := by decide +kernel
theorem dX10_signOf_133 : decode cX10_signOf 133 = .ok (.bipush 16, 2) := by decide +kernel
theorem dX10_signOf_135 : decode cX10_signOf 135 = .ok (.irem, 1) := by decide +kernel
theorem dX10_signOf_136 : decode cX10_signOf 136 = .ok (.if_icmp .ge 25, 3) := by decide +kernel
theorem dX10_signOf_139 : decode cX10_signOf 139 = .ok (.bipush 97, 2) := by decide +kernel
theorem dX10_signOf_141 : decode cX10_signOf 141 = .ok (.iload 4, 2) := by decide +kernel
theorem dX10_signOf_143 : decode cX10_signOf 143 = .ok (.iconst 4, 1) := by decide +kernel
theorem dX10_signOf_144 : decode cX10_signOf 144 = .ok (.iconst 4, 1) := by decide +kernel
theorem dX10_signOf_145 : decode cX10_signOf 145 = .ok (.iload_n 2, 1) := by decide +kernel
theorem dX10_signOf_146 : decode cX10_signOf 146 = .ok (.iload 5, 2) := by decide +kernel
theorem dX10_signOf_148 : decode cX10_signOf 148 = .ok (.isub, 1) := by decide +kernel
theorem dX10_signOf_149 : decode cX10_signOf 149 = .ok (.iconst 1, 1) := by decide +kernel
theorem dX10_signOf_150 : decode cX10_signOf 150 = .ok (.isub, 1) := by decide +kernel
theorem dX10_signOf_151 : decode cX10_signOf 151 = .ok (.imul, 1) := by decide +kernel
theorem dX10_signOf_152 : decode cX10_signOf 152 = .ok (.iadd, 1) := by decide +kernel
theorem dX10_signOf_153 : decode cX10_signOf 153 = .ok (.ishr, 1) := by decide +kernel
theorem dX10_signOf_154 : decode cX10_signOf 154 = .ok (.bipush 15, 2) := by decide +kernel
theorem dX10_signOf_156 : decode cX10_signOf 156 = .ok (.iand, 1) := by decide +kernel
theorem dX10_signOf_157 : decode cX10_signOf 157 = .ok (.iadd, 1) := by decide +kernel
theorem dX10_signOf_158 : decode cX10_signOf 158 = .ok (.goto 4, 3) := by decide +kernel
theorem dX10_signOf_161 : decode cX10_signOf 161 = .ok (.iconst (-1), 1) := by decide +kernel
theorem dX10_signOf_162 : decode cX10_signOf 162 = .ok (.ireturn, 1) := by decide +kernel
set_option maxHeartbeats 4000000 in
set_option maxRecDepth 10000 in
theorem vX10_signOf_0 {l : Launch} {M : sl_M} {Q : sl_R} {x1 x2 : Int} (H : sl_RM M → sl_rg x1 → sl_rg x2 → (0 ≤ x1 ∧ x1 < 82) ∧ ((M 1 17 x1 = 7) → (0 ≤ 910 + (M 1 22 x1) ∧ 910 + (M 1 22 x1) < 990) ∧ (0 ≤ 950 + (M 1 22 x1) ∧ 950 + (M 1 22 x1) < 990) ∧ (∀ y5 : Int, y5 = irem (M 1 1 (910 + (M 1 22 x1))) 16 → ((y5 ≤ x2) → ((x2 ≠ y5) → ((sl_rg (x2 - y5 - 1))) ∧ (sl_rg (if irem (M 1 1 (950 + (M 1 22 x1))) 16 ≤ x2 - y5 - 1 then (-1) else 97 + (iand (ishr (M 1 1 (950 + (M 1 22 x1))) (4 + (4 * (x2 - y5 - 1)))) 15))) ∧ Q (some (vI (if irem (M 1 1 (950 + (M 1 22 x1))) 16 ≤ x2 - y5 - 1 then (-1) else 97 + (iand (ishr (M 1 1 (950 + (M 1 22 x1))) (4 + (4 * (x2 - y5 - 1)))) 15)))) M) ∧ ((¬ (x2 ≠ y5)) → Q (some (vI 62)) M)) ∧ ((¬ (y5 ≤ x2)) → (sl_rg (97 + (iand (ishr (M 1 1 (910 + (M 1 22 x1))) (4 + (4 * x2))) 15))) ∧ Q (some (vI (97 + (iand (ishr (M 1 1 (910 + (M 1 22 x1))) (4 + (4 * x2))) 15)))) M))) ∧ ((¬ (M 1 17 x1 = 7)) → (0 ≤ 241 + (M 1 21 x1) ∧ 241 + (M 1 21 x1) < 990) ∧ (((¬ (M 1 1 (241 + (M 1 21 x1)) ≤ x2)) → (0 ≤ (281 + (12 * (M 1 21 x1))) + x2 ∧ (281 + (12 * (M 1 21 x1))) + x2 < 990))) ∧ Q (some (vI (if M 1 1 (241 + (M 1 21 x1)) ≤ x2 then (-1) else M 1 1 ((281 + (12 * (M 1 21 x1))) + x2)))) M)) : sl_At l mX10_signOf 0 [(0, vR 1 0), (1, vI x1), (2, vI x2)] [] M Q := by
  refine sl_At.in (fun hM hls => ?_)
  have g1 : sl_rg x1 := hls _ (List.mem_of_getElem? (i := 1) rfl)
  have g2 : sl_rg x2 := hls _ (List.mem_of_getElem? (i := 2) rfl)
  have H := H hM g1 g2
  refine r_aload_n (k := 0) rfl rfl dX10_signOf_0 ?_
  refine r_getR (k := 16) (o' := 1) (i' := 17) ckX10 rfl rfl (by decide) rfl rfl rfl fl_X10_31 dX10_signOf_1 ?_
  refine r_iload_n (k := 1) rfl rfl dX10_signOf_4 ?_
  obtain ⟨c1, H⟩ := H
  refine r_iald rfl rfl rfl c1 dX10_signOf_5 ?_
  refine r_bipush dX10_signOf_6 (by decide) ?_
  refine r_icmp_eq (tgt := 55) (hM _ _ _) ⟨by decide, by decide⟩ dX10_signOf_8 (by decide) (fun h2 => ?_) (fun h2 => ?_)
  · have H := H.1 h2
    refine r_aload_n (k := 0) rfl rfl dX10_signOf_55 ?_
    refine r_getR (k := 0) (o' := 1) (i' := 1) ckX10 rfl rfl (by decide) rfl rfl rfl fl_X10_7 dX10_signOf_56 ?_
    refine r_sipush dX10_signOf_59 (by decide) ?_
    refine r_aload_n (k := 0) rfl rfl dX10_signOf_62 ?_
    refine r_getR (k := 21) (o' := 1) (i' := 22) ckX10 rfl rfl (by decide) rfl rfl rfl fl_X10_46 dX10_signOf_63 ?_
    refine r_iload_n (k := 1) rfl rfl dX10_signOf_66 ?_
    refine r_iald rfl rfl rfl c1 dX10_signOf_67 ?_
    refine r_iadd dX10_signOf_68 ?_
    obtain ⟨c3, H⟩ := H
    refine r_iald rfl rfl rfl c3 dX10_signOf_69 ?_
    refine r_istore_n (ls' := [(3, vI (M 1 1 (910 + (M 1 22 x1)))), (0, vR 1 0), (1, vI x1), (2, vI x2)]) (hM _ _ _) rfl (by decide) rfl dX10_signOf_70 ?_
    refine r_aload_n (k := 1) rfl rfl dX10_signOf_71 ?_
    refine r_getR (k := 0) (o' := 1) (i' := 1) ckX10 rfl rfl (by decide) rfl rfl rfl fl_X10_7 dX10_signOf_72 ?_
    refine r_sipush dX10_signOf_75 (by decide) ?_
    refine r_aload_n (k := 1) rfl rfl dX10_signOf_78 ?_
    refine r_getR (k := 21) (o' := 1) (i' := 22) ckX10 rfl rfl (by decide) rfl rfl rfl fl_X10_46 dX10_signOf_79 ?_
    refine r_iload_n (k := 2) rfl rfl dX10_signOf_82 ?_
    refine r_iald rfl rfl rfl c1 dX10_signOf_83 ?_
    refine r_iadd dX10_signOf_84 ?_
    obtain ⟨c4, H⟩ := H
    refine r_iald rfl rfl rfl c4 dX10_signOf_85 ?_
    refine r_istore (ls' := [(4, vI (M 1 1 (950 + (M 1 22 x1)))), (3, vI (M 1 1 (910 + (M 1 22 x1)))), (0, vR 1 0), (1, vI x1), (2, vI x2)]) (hM _ _ _) (by decide) rfl dX10_signOf_86 ?_
    refine r_iload_n (k := 1) rfl rfl dX10_signOf_88 ?_
    refine r_bipush dX10_signOf_89 (by decide) ?_
    refine r_irem ⟨by decide, by decide⟩ (by decide) dX10_signOf_91 ?_
    refine r_nm (fun y5 fy5 => ?_)
    have H := H y5 fy5
    have gy5 : sl_rg y5 := by rw [fy5]; exact (rg_irem _ _)
    refine r_istore (ls' := [(5, vI y5), (4, vI (M 1 1 (950 + (M 1 22 x1)))), (3, vI (M 1 1 (910 + (M 1 22 x1)))), (0, vR 1 0), (1, vI x1), (2, vI x2)]) gy5 (by decide) rfl dX10_signOf_92 ?_
    refine r_iload_n (k := 5) rfl rfl dX10_signOf_94 ?_
    refine r_iload (k := 0) rfl dX10_signOf_95 ?_
    refine r_icmp_ge (tgt := 114) g2 gy5 dX10_signOf_97 (by decide) (fun h6 => ?_) (fun h6 => ?_)
    · have H := H.1 h6
      refine r_iload_n (k := 5) rfl rfl dX10_signOf_114 ?_
      refine r_iload (k := 0) rfl dX10_signOf_115 ?_
      refine r_icmp_ne (tgt := 125) g2 gy5 dX10_signOf_117 (by decide) (fun h7 => ?_) (fun h7 => ?_)
      · have H := H.1 h7
        refine r_iload_n (k := 5) rfl rfl dX10_signOf_125 ?_
        refine r_iload (k := 0) rfl dX10_signOf_126 ?_
        refine r_isub dX10_signOf_128 ?_
        refine r_iconst dX10_signOf_129 ?_
        refine r_isub dX10_signOf_130 ?_
        refine r_iload (k := 1) rfl dX10_signOf_131 ?_
        refine r_bipush dX10_signOf_133 (by decide) ?_
        refine r_irem ⟨by decide, by decide⟩ (by decide) dX10_signOf_135 ?_
        obtain ⟨K, H⟩ := H
        have J : sl_At l mX10_signOf 162 [(5, vI y5), (4, vI (M 1 1 (950 + (M 1 22 x1)))), (3, vI (M 1 1 (910 + (M 1 22 x1)))), (0, vR 1 0), (1, vI x1), (2, vI x2)] [vI (if irem (M 1 1 (950 + (M 1 22 x1))) 16 ≤ x2 - y5 - 1 then (-1) else 97 + (iand (ishr (M 1 1 (950 + (M 1 22 x1))) (4 + (4 * (x2 - y5 - 1)))) 15))] M Q := by
          obtain ⟨c10, H⟩ := H
          refine r_iret rfl c10 dX10_signOf_162 ?_
          exact H
        have c8 := K
        refine r_icmp_ge (tgt := 161) c8 (rg_irem _ _) dX10_signOf_136 (by decide) (fun h9 => ?_) (fun h9 => ?_)
        · refine r_iconst dX10_signOf_161 ?_
          rw [if_pos h9] at J
          exact J
        · refine r_bipush dX10_signOf_139 (by decide) ?_
          refine r_iload (k := 1) rfl dX10_signOf_141 ?_
          refine r_iconst dX10_signOf_143 ?_
          refine r_iconst dX10_signOf_144 ?_
          refine r_iload_n (k := 5) rfl rfl dX10_signOf_145 ?_
          refine r_iload (k := 0) rfl dX10_signOf_146 ?_
          refine r_isub dX10_signOf_148 ?_
          refine r_iconst dX10_signOf_149 ?_
          refine r_isub dX10_signOf_150 ?_
          refine r_imul dX10_signOf_151 ?_
          refine r_iadd dX10_signOf_152 ?_
          refine r_ishr dX10_signOf_153 ?_
          refine r_bipush dX10_signOf_154 (by decide) ?_
          refine r_iand dX10_signOf_156 ?_
          refine r_iadd dX10_signOf_157 ?_
          refine r_goto (tgt := 162) dX10_signOf_158 (by decide) ?_
          rw [if_neg h9] at J
          exact J
      · have H := H.2 h7
        refine r_bipush dX10_signOf_120 (by decide) ?_
        refine r_goto (tgt := 162) dX10_signOf_122 (by decide) ?_
        refine r_iret rfl ⟨by decide, by decide⟩ dX10_signOf_162 ?_
        exact H
    · have H := H.2 h6
      refine r_bipush dX10_signOf_100 (by decide) ?_
      refine r_iload_n (k := 2) rfl rfl dX10_signOf_102 ?_
      refine r_iconst dX10_signOf_103 ?_
      refine r_iconst dX10_signOf_104 ?_
      refine r_iload_n (k := 5) rfl rfl dX10_signOf_105 ?_
      refine r_imul dX10_signOf_106 ?_
      refine r_iadd dX10_signOf_107 ?_
      refine r_ishr dX10_signOf_108 ?_
      refine r_bipush dX10_signOf_109 (by decide) ?_
      refine r_iand dX10_signOf_111 ?_
      refine r_iadd dX10_signOf_112 ?_
      obtain ⟨c11, H⟩ := H
      refine r_iret rfl c11 dX10_signOf_113 ?_
      exact H
  · have H := H.2 h2
    refine r_iload_n (k := 2) rfl rfl dX10_signOf_11 ?_
    refine r_aload_n (k := 0) rfl rfl dX10_signOf_12 ?_
    refine r_getR (k := 0) (o' := 1) (i' := 1) ckX10 rfl rfl (by decide) rfl rfl rfl fl_X10_7 dX10_signOf_13 ?_
    refine r_sipush dX10_signOf_16 (by decide) ?_
    refine r_aload_n (k := 0) rfl rfl dX10_signOf_19 ?_
    refine r_getR (k := 20) (o' := 1) (i' := 21) ckX10 rfl rfl (by decide) rfl rfl rfl fl_X10_43 dX10_signOf_20 ?_
    refine r_iload_n (k := 1) rfl rfl dX10_signOf_23 ?_
    refine r_iald rfl rfl rfl c1 dX10_signOf_24 ?_
    refine r_iadd dX10_signOf_25 ?_
    obtain ⟨c12, H⟩ := H
    refine r_iald rfl rfl rfl c12 dX10_signOf_26 ?_
    obtain ⟨K, H⟩ := H
    have J : sl_At l mX10_signOf 54 [(0, vR 1 0), (1, vI x1), (2, vI x2)] [vI (if M 1 1 (241 + (M 1 21 x1)) ≤ x2 then (-1) else M 1 1 ((281 + (12 * (M 1 21 x1))) + x2))] M Q := by
      refine r_iret rfl (sl_rgite ⟨by decide, by decide⟩ (hM _ _ _)) dX10_signOf_54 ?_
      exact H
    refine r_icmp_ge (tgt := 53) g2 (hM _ _ _) dX10_signOf_27 (by decide) (fun h14 => ?_) (fun h14 => ?_)
    · refine r_iconst dX10_signOf_53 ?_
      rw [if_pos h14] at J
      exact J
    · replace K := K h14
      have c13 := K
      refine r_aload_n (k := 0) rfl rfl dX10_signOf_30 ?_
      refine r_getR (k := 0) (o' := 1) (i' := 1) ckX10 rfl rfl (by decide) rfl rfl rfl fl_X10_7 dX10_signOf_31 ?_
      refine r_sipush dX10_signOf_34 (by decide) ?_
      refine r_bipush dX10_signOf_37 (by decide) ?_
      refine r_aload_n (k := 0) rfl rfl dX10_signOf_39 ?_
      refine r_getR (k := 20) (o' := 1) (i' := 21) ckX10 rfl rfl (by decide) rfl rfl rfl fl_X10_43 dX10_signOf_40 ?_
      refine r_iload_n (k := 1) rfl rfl dX10_signOf_43 ?_
      refine r_iald rfl rfl rfl c1 dX10_signOf_44 ?_
      refine r_imul dX10_signOf_45 ?_
      refine r_iadd dX10_signOf_46 ?_
      refine r_iload_n (k := 2) rfl rfl dX10_signOf_47 ?_
      refine r_iadd dX10_signOf_48 ?_
      refine r_iald rfl rfl rfl c13 dX10_signOf_49 ?_
      refine r_goto (tgt := 54) dX10_signOf_50 (by decide) ?_
      rw [if_neg h14] at J
      exact J
theorem eX10_signOf {l : Launch} {M : sl_M} {Q : sl_R} {x1 x2 : Int} (k : sl_At l mX10_signOf 0 [(0, vR 1 0), (1, vI x1), (2, vI x2)] [] M Q) : sl_Runs l mX10_signOf [vR 1 0, vI x1, vI x2] M Q := sl_Runs.of (ls := [(0, vR 1 0), (1, vI x1), (2, vI x2)]) rfl rfl (fun _ => rfl) (fun _ => Nat.le_of_ble_eq_true rfl) rfl (k)
theorem dX10_sign_0 : decode cX10_sign 0 = .ok (.aload_n 0, 1) := by decide +kernel
theorem dX10_sign_1 : decode cX10_sign 1 = .ok (.invokevirtual 292, 3) := by decide +kernel
theorem dX10_sign_4 : decode cX10_sign 4 = .ok (.aload_n 0, 1) := by decide +kernel
theorem dX10_sign_5 : decode cX10_sign 5 = .ok (.iload_n 1, 1) := by decide +kernel
theorem dX10_sign_6 : decode cX10_sign 6 = .ok (.invokevirtual 243, 3) := by decide +kernel
theorem dX10_sign_9 : decode cX10_sign 9 = .ok (.ifCond .eq 16, 3) := by decide +kernel
theorem dX10_sign_12 : decode cX10_sign 12 = .ok (.iload_n 2, 1) := by decide +kernel
theorem dX10_sign_13 : decode cX10_sign 13 = .ok (.ifCond .lt 12, 3) := by decide +kernel
theorem dX10_sign_16 : decode cX10_sign 16 = .ok (.aload_n 0, 1) := by decide +kernel
theorem dX10_sign_17 : decode cX10_sign 17 = .ok (.iload_n 1, 1) := by decide +kernel
theorem dX10_sign_18 : decode cX10_sign 18 = .ok (.iload_n 2, 1) := by decide +kernel
theorem dX10_sign_19 : decode cX10_sign 19 = .ok (.invokevirtual 359, 3) := by decide +kernel
theorem dX10_sign_22 : decode cX10_sign 22 = .ok (.goto 7, 3) := by decide +kernel
theorem dX10_sign_25 : decode cX10_sign 25 = .ok (.aload_n 0, 1) := by decide +kernel
theorem dX10_sign_26 : decode cX10_sign 26 = .ok (.invokevirtual 139, 3) := by decide +kernel
theorem dX10_sign_29 : decode cX10_sign 29 = .ok (.ireturn, 1) := by decide +kernel
set_option maxHeartbeats 4000000 in
set_option maxRecDepth 10000 in
theorem vX10_sign_0 {l : Launch} {M : sl_M} {Q : sl_R} {x1 x2 : Int} (H : sl_RM M → sl_rg x1 → sl_rg x2 → sl_RV l mX10_lays [vR 1 0] M (fun M1 => sl_RI l mX10_isStatement [vR 1 0, vI x1] M1 (fun y3 M2 => ((y3 = 0) → sl_RI l mX10_bad [vR 1 0] M2 (fun y6 M5 => Q (some (vI y6)) M5)) ∧ ((¬ (y3 = 0)) → ((x2 < 0) → sl_RI l mX10_bad [vR 1 0] M2 (fun y9 M8 => Q (some (vI y9)) M8)) ∧ ((¬ (x2 < 0)) → sl_RI l mX10_signOf [vR 1 0, vI x1, vI x2] M2 (fun y11 M10 => Q (some (vI y11)) M10)))))) : sl_At l mX10_sign 0 [(0, vR 1 0), (1, vI x1), (2, vI x2)] [] M Q := by
  refine sl_At.in (fun hM hls => ?_)
  have g1 : sl_rg x1 := hls _ (List.mem_of_getElem? (i := 1) rfl)
  have g2 : sl_rg x2 := hls _ (List.mem_of_getElem? (i := 2) rfl)
  have H := H hM g1 g2
  refine r_aload_n (k := 0) rfl rfl dX10_sign_0 ?_
  refine r_callV (g := mX10_lays) ckX10 rfl rfl rfl rfl mkX10_lays mvX10_lays ml_X10_292 ⟨by decide, by decide⟩ rfl (Nat.le_of_ble_eq_true rfl) rfl ok_n dX10_sign_1 (sl_afterV (sl_RV.mono (fun M1 hM1 H => ?_) H))
  refine r_aload_n (k := 0) rfl rfl dX10_sign_4 ?_
  refine r_iload_n (k := 1) rfl rfl dX10_sign_5 ?_
  refine r_callV (g := mX10_isStatement) ckX10 rfl rfl rfl rfl mkX10_isStatement mvX10_isStatement ml_X10_243 ⟨by decide, by decide⟩ rfl (Nat.le_of_ble_eq_true rfl) rfl (ok_i g1 ok_n) dX10_sign_6 (sl_afterI (sl_RI.mono (fun y3 M2 gy3 hM2 H => ?_) H))
  refine r_if_eq (tgt := 25) gy3 dX10_sign_9 (by decide) (fun h4 => ?_) (fun h4 => ?_)
  · have H := H.1 h4
    refine r_aload_n (k := 0) rfl rfl dX10_sign_25 ?_
    refine r_callV (g := mX10_bad) ckX10 rfl rfl rfl rfl mkX10_bad mvX10_bad ml_X10_139 ⟨by decide, by decide⟩ rfl (Nat.le_of_ble_eq_true rfl) rfl ok_n dX10_sign_26 (sl_afterI (sl_RI.mono (fun y6 M5 gy6 hM5 H => ?_) H))
    refine r_iret rfl gy6 dX10_sign_29 ?_
    exact H
  · have H := H.2 h4
    refine r_iload_n (k := 2) rfl rfl dX10_sign_12 ?_
    refine r_if_lt (tgt := 25) g2 dX10_sign_13 (by decide) (fun h7 => ?_) (fun h7 => ?_)
    · have H := H.1 h7
      refine r_aload_n (k := 0) rfl rfl dX10_sign_25 ?_
      refine r_callV (g := mX10_bad) ckX10 rfl rfl rfl rfl mkX10_bad mvX10_bad ml_X10_139 ⟨by decide, by decide⟩ rfl (Nat.le_of_ble_eq_true rfl) rfl ok_n dX10_sign_26 (sl_afterI (sl_RI.mono (fun y9 M8 gy9 hM8 H => ?_) H))
      refine r_iret rfl gy9 dX10_sign_29 ?_
      exact H
    · have H := H.2 h7
      refine r_aload_n (k := 0) rfl rfl dX10_sign_16 ?_
      refine r_iload_n (k := 1) rfl rfl dX10_sign_17 ?_
      refine r_iload_n (k := 2) rfl rfl dX10_sign_18 ?_
      refine r_callV (g := mX10_signOf) ckX10 rfl rfl rfl rfl mkX10_signOf mvX10_signOf ml_X10_359 ⟨by decide, by decide⟩ rfl (Nat.le_of_ble_eq_true rfl) rfl (ok_i g1 (ok_i g2 ok_n)) dX10_sign_19 (sl_afterI (sl_RI.mono (fun y11 M10 gy11 hM10 H => ?_) H))
      refine r_goto (tgt := 29) dX10_sign_22 (by decide) ?_
      refine r_iret rfl gy11 dX10_sign_29 ?_
      exact H
theorem eX10_sign {l : Launch} {M : sl_M} {Q : sl_R} {x1 x2 : Int} (k : sl_At l mX10_sign 0 [(0, vR 1 0), (1, vI x1), (2, vI x2)] [] M Q) : sl_Runs l mX10_sign [vR 1 0, vI x1, vI x2] M Q := sl_Runs.of (ls := [(0, vR 1 0), (1, vI x1), (2, vI x2)]) rfl rfl (fun _ => rfl) (fun _ => Nat.le_of_ble_eq_true rfl) rfl (k)
