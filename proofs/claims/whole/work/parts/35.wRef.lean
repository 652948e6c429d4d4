theorem dX10_works_0 : decode cX10_works 0 = .ok (.iconst 0, 1) := by decide +kernel
theorem dX10_works_1 : decode cX10_works 1 = .ok (.istore_n 3, 1) := by decide +kernel
theorem dX10_works_2 : decode cX10_works 2 = .ok (.iconst 0, 1) := by decide +kernel
theorem dX10_works_3 : decode cX10_works 3 = .ok (.istore 4, 2) := by decide +kernel
theorem dX10_works_5 : decode cX10_works 5 = .ok (.aload_n 0, 1) := by decide +kernel
theorem dX10_works_6 : decode cX10_works 6 = .ok (.iconst 0, 1) := by decide +kernel
theorem dX10_works_7 : decode cX10_works 7 = .ok (.putfield 362, 3) := by decide +kernel
theorem dX10_works_10 : decode cX10_works 10 = .ok (.iconst 0, 1) := by decide +kernel
theorem dX10_works_11 : decode cX10_works 11 = .ok (.istore 5, 2) := by decide +kernel
theorem dX10_works_13 : decode cX10_works 13 = .ok (.iconst 0, 1) := by decide +kernel
theorem dX10_works_14 : decode cX10_works 14 = .ok (.istore 6, 2) := by decide +kernel
theorem dX10_works_16 : decode cX10_works 16 = .ok (.iload 6, 2) := by decide +kernel
theorem dX10_works_18 : decode cX10_works 18 = .ok (.aload_n 0, 1) := by decide +kernel
theorem dX10_works_19 : decode cX10_works 19 = .ok (.getfield 7, 3) := by decide +kernel
theorem dX10_works_22 : decode cX10_works 22 = .ok (.sipush 241, 3) := by decide +kernel
theorem dX10_works_25 : decode cX10_works 25 = .ok (.iload_n 1, 1) := by decide +kernel
theorem dX10_works_26 : decode cX10_works 26 = .ok (.iadd, 1) := by decide +kernel
theorem dX10_works_27 : decode cX10_works 27 = .ok (.iaload, 1) := by decide +kernel
theorem dX10_works_28 : decode cX10_works 28 = .ok (.if_icmp .ge 257, 3) := by decide +kernel
theorem dX10_works_31 : decode cX10_works 31 = .ok (.aload_n 0, 1) := by decide +kernel
theorem dX10_works_32 : decode cX10_works 32 = .ok (.getfield 7, 3) := by decide +kernel
theorem dX10_works_35 : decode cX10_works 35 = .ok (.sipush 281, 3) := by decide +kernel
theorem dX10_works_38 : decode cX10_works 38 = .ok (.bipush 12, 2) := by decide +kernel
theorem dX10_works_40 : decode cX10_works 40 = .ok (.iload_n 1, 1) := by decide +kernel
theorem dX10_works_41 : decode cX10_works 41 = .ok (.imul, 1) := by decide +kernel
theorem dX10_works_42 : decode cX10_works 42 = .ok (.iadd, 1) := by decide +kernel
theorem dX10_works_43 : decode cX10_works 43 = .ok (.iload 6, 2) := by decide +kernel
theorem dX10_works_45 : decode cX10_works 45 = .ok (.iadd, 1) := by decide +kernel
theorem dX10_works_46 : decode cX10_works 46 = .ok (.iaload, 1) := by decide +kernel
theorem dX10_works_47 : decode cX10_works 47 = .ok (.istore 7, 2) := by decide +kernel
theorem dX10_works_49 : decode cX10_works 49 = .ok (.iload 7, 2) := by decide +kernel
theorem dX10_works_51 : decode cX10_works 51 = .ok (.invokestatic 161, 3) := by decide +kernel
theorem dX10_works_54 : decode cX10_works 54 = .ok (.ifCond .eq 26, 3) := by decide +kernel
theorem dX10_works_57 : decode cX10_works 57 = .ok (.aload_n 0, 1) := by decide +kernel
theorem dX10_works_58 : decode cX10_works 58 = .ok (.getfield 113, 3) := by decide +kernel
theorem dX10_works_61 : decode cX10_works 61 = .ok (.iload 5, 2) := by decide +kernel
theorem dX10_works_63 : decode cX10_works 63 = .ok (.iload 7, 2) := by decide +kernel
theorem dX10_works_65 : decode cX10_works 65 = .ok (.iastore, 1) := by decide +kernel
theorem dX10_works_66 : decode cX10_works 66 = .ok (.aload_n 0, 1) := by decide +kernel
theorem dX10_works_67 : decode cX10_works 67 = .ok (.getfield 116, 3) := by decide +kernel
theorem dX10_works_70 : decode cX10_works 70 = .ok (.iload 5, 2) := by decide +kernel
theorem dX10_works_72 : decode cX10_works 72 = .ok (.iconst 0, 1) := by decide +kernel
theorem dX10_works_73 : decode cX10_works 73 = .ok (.iastore, 1) := by decide +kernel
theorem dX10_works_74 : decode cX10_works 74 = .ok (.iinc 5 1, 3) := by decide +kernel
theorem dX10_works_77 : decode cX10_works 77 = .ok (.goto 202, 3) := by decide +kernel
theorem dX10_works_80 : decode cX10_works 80 = .ok (.iload 7, 2) := by decide +kernel
theorem dX10_works_82 : decode cX10_works 82 = .ok (.bipush 48, 2) := by decide +kernel
theorem dX10_works_84 : decode cX10_works 84 = .ok (.isub, 1) := by decide +kernel
theorem dX10_works_85 : decode cX10_works 85 = .ok (.istore 8, 2) := by decide +kernel
theorem dX10_works_87 : decode cX10_works 87 = .ok (.iload 7, 2) := by decide +kernel
theorem dX10_works_89 : decode cX10_works 89 = .ok (.bipush 97, 2) := by decide +kernel
theorem dX10_works_91 : decode cX10_works 91 = .ok (.bipush 104, 2) := by decide +kernel
theorem dX10_works_93 : decode cX10_works 93 = .ok (.invokestatic 135, 3) := by decide +kernel
theorem dX10_works_96 : decode cX10_works 96 = .ok (.ifCond .eq 64, 3) := by decide +kernel
theorem dX10_works_99 : decode cX10_works 99 = .ok (.iload_n 2, 1) := by decide +kernel
theorem dX10_works_100 : decode cX10_works 100 = .ok (.ifCond .eq 10, 3) := by decide +kernel
theorem dX10_works_103 : decode cX10_works 103 = .ok (.aload_n 0, 1) := by decide +kernel
theorem dX10_works_104 : decode cX10_works 104 = .ok (.getfield 365, 3) := by decide +kernel
theorem dX10_works_107 : decode cX10_works 107 = .ok (.goto 7, 3) := by decide +kernel
theorem dX10_works_110 : decode cX10_works 110 = .ok (.aload_n 0, 1) := by decide +kernel
theorem dX10_works_111 : decode cX10_works 111 = .ok (.getfield 368, 3) := by decide +kernel
theorem dX10_works_114 : decode cX10_works 114 = .ok (.iload 7, 2) := by decide +kernel
theorem dX10_works_116 : decode cX10_works 116 = .ok (.bipush 97, 2) := by decide +kernel
theorem dX10_works_118 : decode cX10_works 118 = .ok (.isub, 1) := by decide +kernel
theorem dX10_works_119 : decode cX10_works 119 = .ok (.invokestatic 218, 3) := by decide +kernel
theorem dX10_works_122 : decode cX10_works 122 = .ok (.ifCond .ne 9, 3) := by decide +kernel
theorem dX10_works_125 : decode cX10_works 125 = .ok (.aload_n 0, 1) := by decide +kernel
theorem dX10_works_126 : decode cX10_works 126 = .ok (.iconst 3, 1) := by decide +kernel
theorem dX10_works_127 : decode cX10_works 127 = .ok (.putfield 362, 3) := by decide +kernel
theorem dX10_works_130 : decode cX10_works 130 = .ok (.return_, 1) := by decide +kernel
theorem dX10_works_131 : decode cX10_works 131 = .ok (.iload_n 2, 1) := by decide +kernel
theorem dX10_works_132 : decode cX10_works 132 = .ok (.ifCond .eq 16, 3) := by decide +kernel
theorem dX10_works_135 : decode cX10_works 135 = .ok (.aload_n 0, 1) := by decide +kernel
theorem dX10_works_136 : decode cX10_works 136 = .ok (.getfield 104, 3) := by decide +kernel
theorem dX10_works_139 : decode cX10_works 139 = .ok (.iload 7, 2) := by decide +kernel
theorem dX10_works_141 : decode cX10_works 141 = .ok (.bipush 97, 2) := by decide +kernel
theorem dX10_works_143 : decode cX10_works 143 = .ok (.isub, 1) := by decide +kernel
theorem dX10_works_144 : decode cX10_works 144 = .ok (.iaload, 1) := by decide +kernel
theorem dX10_works_145 : decode cX10_works 145 = .ok (.goto 13, 3) := by decide +kernel
theorem dX10_works_148 : decode cX10_works 148 = .ok (.aload_n 0, 1) := by decide +kernel
theorem dX10_works_149 : decode cX10_works 149 = .ok (.getfield 101, 3) := by decide +kernel
theorem dX10_works_152 : decode cX10_works 152 = .ok (.iload 7, 2) := by decide +kernel
theorem dX10_works_154 : decode cX10_works 154 = .ok (.bipush 97, 2) := by decide +kernel
theorem dX10_works_156 : decode cX10_works 156 = .ok (.isub, 1) := by decide +kernel
theorem dX10_works_157 : decode cX10_works 157 = .ok (.iaload, 1) := by decide +kernel
theorem dX10_works_158 : decode cX10_works 158 = .ok (.istore 8, 2) := by decide +kernel
theorem dX10_works_160 : decode cX10_works 160 = .ok (.aload_n 0, 1) := by decide +kernel
theorem dX10_works_161 : decode cX10_works 161 = .ok (.getfield 110, 3) := by decide +kernel
theorem dX10_works_164 : decode cX10_works 164 = .ok (.iload_n 3, 1) := by decide +kernel
theorem dX10_works_165 : decode cX10_works 165 = .ok (.iload 8, 2) := by decide +kernel
theorem dX10_works_167 : decode cX10_works 167 = .ok (.iastore, 1) := by decide +kernel
theorem dX10_works_168 : decode cX10_works 168 = .ok (.iinc 3 1, 3) := by decide +kernel
theorem dX10_works_171 : decode cX10_works 171 = .ok (.iload 5, 2) := by decide +kernel
theorem dX10_works_173 : decode cX10_works 173 = .ok (.ifCond .le 106, 3) := by decide +kernel
theorem dX10_works_176 : decode cX10_works 176 = .ok (.aload_n 0, 1) := by decide +kernel
theorem dX10_works_177 : decode cX10_works 177 = .ok (.getfield 116, 3) := by decide +kernel
theorem dX10_works_180 : decode cX10_works 180 = .ok (.iload 5, 2) := by decide +kernel
theorem dX10_works_182 : decode cX10_works 182 = .ok (.iconst 1, 1) := by decide +kernel
theorem dX10_works_183 : decode cX10_works 183 = .ok (.isub, 1) := by decide +kernel
theorem dX10_works_184 : decode cX10_works 184 = .ok (.dup2, 1) := by decide +kernel
theorem dX10_works_185 : decode cX10_works 185 = .ok (.iaload, 1) := by decide +kernel
theorem dX10_works_186 : decode cX10_works 186 = .ok (.iconst 1, 1) := by decide +kernel
theorem dX10_works_187 : decode cX10_works 187 = .ok (.iadd, 1) := by decide +kernel
theorem dX10_works_188 : decode cX10_works 188 = .ok (.iastore, 1) := by decide +kernel
theorem dX10_works_189 : decode cX10_works 189 = .ok (.aload_n 0, 1) := by decide +kernel
theorem dX10_works_190 : decode cX10_works 190 = .ok (.getfield 116, 3) := by decide +kernel
theorem dX10_works_193 : decode cX10_works 193 = .ok (.iload 5, 2) := by decide +kernel
theorem dX10_works_195 : decode cX10_works 195 = .ok (.iconst 1, 1) := by decide +kernel
theorem dX10_works_196 : decode cX10_works 196 = .ok (.isub, 1) := by decide +kernel
theorem dX10_works_197 : decode cX10_works 197 = .ok (.iaload, 1) := by decide +kernel
theorem dX10_works_198 : decode cX10_works 198 = .ok (.iconst 2, 1) := by decide +kernel
theorem dX10_works_199 : decode cX10_works 199 = .ok (.if_icmp .ge 6, 3) := by decide +kernel
theorem dX10_works_202 : decode cX10_works 202 = .ok (.goto 77, 3) := by decide +kernel
theorem dX10_works_205 : decode cX10_works 205 = .ok (.iinc 5 (-1), 3) := by decide +kernel
theorem dX10_works_208 : decode cX10_works 208 = .ok (.iinc 3 (-1), 3) := by decide +kernel
theorem dX10_works_211 : decode cX10_works 211 = .ok (.aload_n 0, 1) := by decide +kernel
theorem dX10_works_212 : decode cX10_works 212 = .ok (.getfield 113, 3) := by decide +kernel
theorem dX10_works_215 : decode cX10_works 215 = .ok (.iload 5, 2) := by decide +kernel
theorem dX10_works_217 : decode cX10_works 217 = .ok (.iaload, 1) := by decide +kernel
theorem dX10_works_218 : decode cX10_works 218 = .ok (.istore 4, 2) := by decide +kernel
theorem dX10_works_220 : decode cX10_works 220 = .ok (.iload 4, 2) := by decide +kernel
theorem dX10_works_222 : decode cX10_works 222 = .ok (.bipush 47, 2) := by decide +kernel
theorem dX10_works_224 : decode cX10_works 224 = .ok (.if_icmp .eq 10, 3) := by decide +kernel
theorem dX10_works_227 : decode cX10_works 227 = .ok (.iload 4, 2) := by decide +kernel
theorem dX10_works_229 : decode cX10_works 229 = .ok (.bipush 37, 2) := by decide +kernel
theorem dX10_works_231 : decode cX10_works 231 = .ok (.if_icmp .ne 18, 3) := by decide +kernel
theorem dX10_works_234 : decode cX10_works 234 = .ok (.aload_n 0, 1) := by decide +kernel
theorem dX10_works_235 : decode cX10_works 235 = .ok (.getfield 110, 3) := by decide +kernel
theorem dX10_works_238 : decode cX10_works 238 = .ok (.iload_n 3, 1) := by decide +kernel
theorem dX10_works_239 : decode cX10_works 239 = .ok (.iaload, 1) := by decide +kernel
theorem dX10_works_240 : decode cX10_works 240 = .ok (.ifCond .ne 9, 3) := by decide +kernel
theorem dX10_works_243 : decode cX10_works 243 = .ok (.aload_n 0, 1) := by decide +kernel
theorem dX10_works_244 : decode cX10_works 244 = .ok (.iconst 2, 1) := by decide +kernel
theorem dX10_works_245 : decode cX10_works 245 = .ok (.putfield 362, 3) := by decide +kernel
theorem dX10_works_248 : decode cX10_works 248 = .ok (.return_, 1) := by decide +kernel
theorem dX10_works_249 : decode cX10_works 249 = .ok (.aload_n 0, 1) := by decide +kernel
theorem dX10_works_250 : decode cX10_works 250 = .ok (.getfield 110, 3) := by decide +kernel
theorem dX10_works_253 : decode cX10_works 253 = .ok (.iload_n 3, 1) := by decide +kernel
theorem dX10_works_254 : decode cX10_works 254 = .ok (.iconst 1, 1) := by decide +kernel
theorem dX10_works_255 : decode cX10_works 255 = .ok (.isub, 1) := by decide +kernel
theorem dX10_works_256 : decode cX10_works 256 = .ok (.iload 4, 2) := by decide +kernel
theorem dX10_works_258 : decode cX10_works 258 = .ok (.aload_n 0, 1) := by decide +kernel
theorem dX10_works_259 : decode cX10_works 259 = .ok (.getfield 110, 3) := by decide +kernel
theorem dX10_works_262 : decode cX10_works 262 = .ok (.iload_n 3, 1) := by decide +kernel
theorem dX10_works_263 : decode cX10_works 263 = .ok (.iconst 1, 1) := by decide +kernel
theorem dX10_works_264 : decode cX10_works 264 = .ok (.isub, 1) := by decide +kernel
theorem dX10_works_265 : decode cX10_works 265 = .ok (.iaload, 1) := by decide +kernel
theorem dX10_works_266 : decode cX10_works 266 = .ok (.aload_n 0, 1) := by decide +kernel
theorem dX10_works_267 : decode cX10_works 267 = .ok (.getfield 110, 3) := by decide +kernel
theorem dX10_works_270 : decode cX10_works 270 = .ok (.iload_n 3, 1) := by decide +kernel
theorem dX10_works_271 : decode cX10_works 271 = .ok (.iaload, 1) := by decide +kernel
theorem dX10_works_272 : decode cX10_works 272 = .ok (.invokestatic 371, 3) := by decide +kernel
theorem dX10_works_275 : decode cX10_works 275 = .ok (.iastore, 1) := by decide +kernel
theorem dX10_works_276 : decode cX10_works 276 = .ok (.goto (-105), 3) := by decide +kernel
theorem dX10_works_279 : decode cX10_works 279 = .ok (.iinc 6 1, 3) := by decide +kernel
theorem dX10_works_282 : decode cX10_works 282 = .ok (.goto (-266), 3) := by decide +kernel
theorem dX10_works_285 : decode cX10_works 285 = .ok (.aload_n 0, 1) := by decide +kernel
theorem dX10_works_286 : decode cX10_works 286 = .ok (.aload_n 0, 1) := by decide +kernel
theorem dX10_works_287 : decode cX10_works 287 = .ok (.getfield 110, 3) := by decide +kernel
theorem dX10_works_290 : decode cX10_works 290 = .ok (.iconst 0, 1) := by decide +kernel
theorem dX10_works_291 : decode cX10_works 291 = .ok (.iaload, 1) := by decide +kernel
theorem dX10_works_292 : decode cX10_works 292 = .ok (.putfield 374, 3) := by decide +kernel
theorem dX10_works_295 : decode cX10_works 295 = .ok (.return_, 1) := by decide +kernel
set_option maxHeartbeats 4000000 in
set_option maxRecDepth 10000 in
theorem vX10_works_0 {l : Launch} {M : sl_M} {Q : sl_R} {x1 x2 : Int} (H : sl_RM M → sl_rg x1 → sl_rg x2 → (∀ M1, M1 = sl_wr M 1 0 59 0 → sl_At l mX10_works 16 [(0, vR 1 0), (1, vI x1), (2, vI x2), (3, vI 0), (5, vI 0), (6, vI 0)] [] M1 Q)) : sl_At l mX10_works 0 [(0, vR 1 0), (1, vI x1), (2, vI x2)] [] M Q := by
  refine sl_At.in (fun hM hls => ?_)
  have g1 : sl_rg x1 := hls _ (List.mem_of_getElem? (i := 1) rfl)
  have g2 : sl_rg x2 := hls _ (List.mem_of_getElem? (i := 2) rfl)
  have H := H hM g1 g2
  refine r_iconst dX10_works_0 ?_
  refine r_istore_n (ls' := [(3, vI 0), (0, vR 1 0), (1, vI x1), (2, vI x2)]) ⟨by decide, by decide⟩ rfl (by decide) rfl dX10_works_1 ?_
  refine r_iconst dX10_works_2 ?_
  refine r_istore (ls' := [(4, vI 0), (3, vI 0), (0, vR 1 0), (1, vI x1), (2, vI x2)]) ⟨by decide, by decide⟩ (by decide) rfl dX10_works_3 ?_
  refine r_aload_n (k := 2) rfl rfl dX10_works_5 ?_
  refine r_iconst dX10_works_6 ?_
  refine r_pI (k := 59) (kz := 59) rfl ckX10 rfl rfl (by decide) rfl rfl rfl rfl fl_X10_362 ⟨by decide, by decide⟩ dX10_works_7 ?_
  refine r_mm (fun M1 e1 => ?_)
  have H := H M1 e1
  have hM1 : sl_RM M1 := by rw [e1]; exact sl_wr_RM hM ⟨by decide, by decide⟩
  refine r_iconst dX10_works_10 ?_
  refine r_istore (ls' := [(5, vI 0), (4, vI 0), (3, vI 0), (0, vR 1 0), (1, vI x1), (2, vI x2)]) ⟨by decide, by decide⟩ (by decide) rfl dX10_works_11 ?_
  refine r_iconst dX10_works_13 ?_
  refine r_istore (ls' := [(6, vI 0), (5, vI 0), (4, vI 0), (3, vI 0), (0, vR 1 0), (1, vI x1), (2, vI x2)]) ⟨by decide, by decide⟩ (by decide) rfl dX10_works_14 ?_
  exact sl_At.sub [4, 5, 6, 3, 1, 0] rfl H
set_option maxHeartbeats 4000000 in
set_option maxRecDepth 10000 in
theorem vX10_works_16 {l : Launch} {M : sl_M} {Q : sl_R} {x1 x2 x3 x5 x6 : Int} (H : sl_RM M → sl_rg x1 → sl_rg x2 → sl_rg x3 → sl_rg x5 → sl_rg x6 → (0 ≤ 241 + x1 ∧ 241 + x1 < 990) ∧ ((M 1 1 (241 + x1) ≤ x6) → (∀ M3, M3 = sl_wr M 1 0 60 (M 1 62 0) → Q none M3)) ∧ ((¬ (M 1 1 (241 + x1) ≤ x6)) → (0 ≤ (281 + (12 * x1)) + x6 ∧ (281 + (12 * x1)) + x6 < 990) ∧ ((¬ (sp_op (M 1 1 ((281 + (12 * x1)) + x6)))) → (sl_rg ((M 1 1 ((281 + (12 * x1)) + x6)) - 48)) ∧ (∀ y7 : Int, y7 = (M 1 1 ((281 + (12 * x1)) + x6)) - 48 → ((¬ (97 ≤ (M 1 1 ((281 + (12 * x1)) + x6)) ∧ (M 1 1 ((281 + (12 * x1)) + x6)) ≤ 104)) → (0 ≤ x3 ∧ x3 < 12) ∧ (∀ M10, M10 = sl_wr M 1 62 x3 y7 → (sl_rg (x3 + 1)) ∧ sl_At l mX10_works 171 [(0, vR 1 0), (1, vI x1), (2, vI x2), (3, vI (x3 + 1)), (5, vI x5), (6, vI x6)] [] M10 Q)) ∧ ((97 ≤ (M 1 1 ((281 + (12 * x1)) + x6)) ∧ (M 1 1 ((281 + (12 * x1)) + x6)) ≤ 104) → (sl_rg ((M 1 1 ((281 + (12 * x1)) + x6)) - 97)) ∧ ((iand (ishr (if x2 = 0 then M 1 0 51 else M 1 0 53) ((M 1 1 ((281 + (12 * x1)) + x6)) - 97)) 1 = 1) → (((x2 = 0) → (0 ≤ (M 1 1 ((281 + (12 * x1)) + x6)) - 97 ∧ (M 1 1 ((281 + (12 * x1)) + x6)) - 97 < 8)) ∧ ((¬ (x2 = 0)) → (0 ≤ (M 1 1 ((281 + (12 * x1)) + x6)) - 97 ∧ (M 1 1 ((281 + (12 * x1)) + x6)) - 97 < 8))) ∧ (∀ y18 : Int, y18 = (if x2 = 0 then M 1 51 ((M 1 1 ((281 + (12 * x1)) + x6)) - 97) else M 1 53 ((M 1 1 ((281 + (12 * x1)) + x6)) - 97)) → (0 ≤ x3 ∧ x3 < 12) ∧ (∀ M20, M20 = sl_wr M 1 62 x3 y18 → (sl_rg (x3 + 1)) ∧ sl_At l mX10_works 171 [(0, vR 1 0), (1, vI x1), (2, vI x2), (3, vI (x3 + 1)), (5, vI x5), (6, vI x6)] [] M20 Q))) ∧ ((¬ (iand (ishr (if x2 = 0 then M 1 0 51 else M 1 0 53) ((M 1 1 ((281 + (12 * x1)) + x6)) - 97)) 1 = 1)) → (∀ M22, M22 = sl_wr M 1 0 59 3 → Q none M22))))) ∧ ((sp_op (M 1 1 ((281 + (12 * x1)) + x6))) → (0 ≤ x5 ∧ x5 < 12) ∧ (∀ M24, M24 = sl_wr M 1 63 x5 (M 1 1 ((281 + (12 * x1)) + x6)) → (∀ M25, M25 = sl_wr M24 1 64 x5 0 → (sl_rg (x5 + 1)) ∧ (sl_rg (x6 + 1)) ∧ sl_At l mX10_works 16 [(0, vR 1 0), (1, vI x1), (2, vI x2), (3, vI x3), (5, vI (x5 + 1)), (6, vI (x6 + 1))] [] M25 Q))))) : sl_At l mX10_works 16 [(0, vR 1 0), (1, vI x1), (2, vI x2), (3, vI x3), (5, vI x5), (6, vI x6)] [] M Q := by
  refine sl_At.in (fun hM hls => ?_)
  have g1 : sl_rg x1 := hls _ (List.mem_of_getElem? (i := 1) rfl)
  have g2 : sl_rg x2 := hls _ (List.mem_of_getElem? (i := 2) rfl)
  have g3 : sl_rg x3 := hls _ (List.mem_of_getElem? (i := 3) rfl)
  have g5 : sl_rg x5 := hls _ (List.mem_of_getElem? (i := 4) rfl)
  have g6 : sl_rg x6 := hls _ (List.mem_of_getElem? (i := 5) rfl)
  have H := H hM g1 g2 g3 g5 g6
  refine r_iload (k := 5) rfl dX10_works_16 ?_
  refine r_aload_n (k := 0) rfl rfl dX10_works_18 ?_
  refine r_getR (k := 0) (o' := 1) (i' := 1) ckX10 rfl rfl (by decide) rfl rfl rfl fl_X10_7 dX10_works_19 ?_
  refine r_sipush dX10_works_22 (by decide) ?_
  refine r_iload_n (k := 1) rfl rfl dX10_works_25 ?_
  refine r_iadd dX10_works_26 ?_
  obtain ⟨c1, H⟩ := H
  refine r_iald rfl rfl rfl c1 dX10_works_27 ?_
  refine r_icmp_ge (tgt := 285) g6 (hM _ _ _) dX10_works_28 (by decide) (fun h2 => ?_) (fun h2 => ?_)
  · have H := H.1 h2
    refine r_aload_n (k := 0) rfl rfl dX10_works_285 ?_
    refine r_aload_n (k := 0) rfl rfl dX10_works_286 ?_
    refine r_getR (k := 61) (o' := 1) (i' := 62) ckX10 rfl rfl (by decide) rfl rfl rfl fl_X10_110 dX10_works_287 ?_
    refine r_iconst dX10_works_290 ?_
    refine r_iald rfl rfl rfl ⟨by decide, by decide⟩ dX10_works_291 ?_
    refine r_pI (k := 60) (kz := 60) rfl ckX10 rfl rfl (by decide) rfl rfl rfl rfl fl_X10_374 (hM _ _ _) dX10_works_292 ?_
    refine r_mm (fun M3 e3 => ?_)
    have H := H M3 e3
    have hM3 : sl_RM M3 := by rw [e3]; exact sl_wr_RM hM (hM _ _ _)
    refine r_vret rfl dX10_works_295 ?_
    exact H
  · have H := H.2 h2
    refine r_aload_n (k := 0) rfl rfl dX10_works_31 ?_
    refine r_getR (k := 0) (o' := 1) (i' := 1) ckX10 rfl rfl (by decide) rfl rfl rfl fl_X10_7 dX10_works_32 ?_
    refine r_sipush dX10_works_35 (by decide) ?_
    refine r_bipush dX10_works_38 (by decide) ?_
    refine r_iload_n (k := 1) rfl rfl dX10_works_40 ?_
    refine r_imul dX10_works_41 ?_
    refine r_iadd dX10_works_42 ?_
    refine r_iload (k := 5) rfl dX10_works_43 ?_
    refine r_iadd dX10_works_45 ?_
    obtain ⟨c4, H⟩ := H
    refine r_iald rfl rfl rfl c4 dX10_works_46 ?_
    refine r_istore (ls' := [(7, vI (M 1 1 ((281 + (12 * x1)) + x6))), (0, vR 1 0), (1, vI x1), (2, vI x2), (3, vI x3), (5, vI x5), (6, vI x6)]) (hM _ _ _) (by decide) rfl dX10_works_47 ?_
    refine r_iload (k := 0) rfl dX10_works_49 ?_
    refine r_callS (g := mX10_isAct) rfl mkX10_isAct msX10_isAct ml_X10_161 ⟨by decide, by decide⟩ rfl (Nat.le_of_ble_eq_true rfl) rfl (ok_i (hM _ _ _) ok_n) dX10_works_51 (sl_afterI (sl_RI.by kX10_isAct ?_))
    refine r_if_eq (tgt := 80) rg_b dX10_works_54 (by decide) (fun h5 => ?_) (fun h5 => ?_)
    · have H := H.1 (b_eq0.mp h5)
      refine r_iload (k := 0) rfl dX10_works_80 ?_
      refine r_bipush dX10_works_82 (by decide) ?_
      refine r_isub dX10_works_84 ?_
      obtain ⟨c6, H⟩ := H
      refine r_nm (fun y7 fy7 => ?_)
      have H := H y7 fy7
      have gy7 : sl_rg y7 := by rw [fy7]; exact c6
      refine r_istore (ls' := [(8, vI y7), (7, vI (M 1 1 ((281 + (12 * x1)) + x6))), (0, vR 1 0), (1, vI x1), (2, vI x2), (3, vI x3), (5, vI x5), (6, vI x6)]) gy7 (by decide) rfl dX10_works_85 ?_
      refine r_iload (k := 1) rfl dX10_works_87 ?_
      refine r_bipush dX10_works_89 (by decide) ?_
      refine r_bipush dX10_works_91 (by decide) ?_
      refine r_callS (g := mX10_in) rfl mkX10_in msX10_in ml_X10_135 ⟨by decide, by decide⟩ rfl (Nat.le_of_ble_eq_true rfl) rfl (ok_i (hM _ _ _) (ok_i ⟨by decide, by decide⟩ (ok_i ⟨by decide, by decide⟩ ok_n))) dX10_works_93 (sl_afterI (sl_RI.by kX10_in ?_))
      refine r_if_eq (tgt := 160) rg_b dX10_works_96 (by decide) (fun h8 => ?_) (fun h8 => ?_)
      · have H := H.1 (b_eq0.mp h8)
        refine r_aload_n (k := 2) rfl rfl dX10_works_160 ?_
        refine r_getR (k := 61) (o' := 1) (i' := 62) ckX10 rfl rfl (by decide) rfl rfl rfl fl_X10_110 dX10_works_161 ?_
        refine r_iload_n (k := 5) rfl rfl dX10_works_164 ?_
        refine r_iload (k := 0) rfl dX10_works_165 ?_
        obtain ⟨c9, H⟩ := H
        refine r_iast rfl rfl rfl c9 gy7 dX10_works_167 ?_
        refine r_mm (fun M10 e10 => ?_)
        have H := H M10 e10
        have hM10 : sl_RM M10 := by rw [e10]; exact sl_wr_RM hM gy7
        obtain ⟨c11, H⟩ := H
        refine r_iinc (k := 5) (ls' := [(3, vI (x3 + 1)), (8, vI y7), (7, vI (M 1 1 ((281 + (12 * x1)) + x6))), (0, vR 1 0), (1, vI x1), (2, vI x2), (5, vI x5), (6, vI x6)]) rfl c11 (by decide) rfl dX10_works_168 ?_
        exact sl_At.sub [3, 4, 5, 0, 6, 7] rfl H
      · have H := H.2 (b_ne0.mp h8)
        refine r_iload_n (k := 4) rfl rfl dX10_works_99 ?_
        have J : sl_At l mX10_works 114 [(8, vI y7), (7, vI (M 1 1 ((281 + (12 * x1)) + x6))), (0, vR 1 0), (1, vI x1), (2, vI x2), (3, vI x3), (5, vI x5), (6, vI x6)] [vI (if x2 = 0 then M 1 0 51 else M 1 0 53)] M Q := by
          refine r_iload (k := 1) rfl dX10_works_114 ?_
          refine r_bipush dX10_works_116 (by decide) ?_
          refine r_isub dX10_works_118 ?_
          obtain ⟨c13, H⟩ := H
          refine r_callS (g := mX10_has) rfl mkX10_has msX10_has ml_X10_218 ⟨by decide, by decide⟩ rfl (Nat.le_of_ble_eq_true rfl) rfl (ok_i (sl_rgite (hM _ _ _) (hM _ _ _)) (ok_i c13 ok_n)) dX10_works_119 (sl_afterI (sl_RI.by kX10_has ?_))
          refine r_if_ne (tgt := 131) rg_b dX10_works_122 (by decide) (fun h14 => ?_) (fun h14 => ?_)
          · have H := H.1 (b_ne0.mp h14)
            refine r_iload_n (k := 4) rfl rfl dX10_works_131 ?_
            obtain ⟨K, H⟩ := H
            have J : sl_At l mX10_works 158 [(8, vI y7), (7, vI (M 1 1 ((281 + (12 * x1)) + x6))), (0, vR 1 0), (1, vI x1), (2, vI x2), (3, vI x3), (5, vI x5), (6, vI x6)] [vI (if x2 = 0 then M 1 51 ((M 1 1 ((281 + (12 * x1)) + x6)) - 97) else M 1 53 ((M 1 1 ((281 + (12 * x1)) + x6)) - 97))] M Q := by
              refine r_nm (fun y18 fy18 => ?_)
              have H := H y18 fy18
              have gy18 : sl_rg y18 := by rw [fy18]; exact (sl_rgite (hM _ _ _) (hM _ _ _))
              refine r_istore (ls' := [(8, vI y18), (7, vI (M 1 1 ((281 + (12 * x1)) + x6))), (0, vR 1 0), (1, vI x1), (2, vI x2), (3, vI x3), (5, vI x5), (6, vI x6)]) gy18 (by decide) rfl dX10_works_158 ?_
              refine r_aload_n (k := 2) rfl rfl dX10_works_160 ?_
              refine r_getR (k := 61) (o' := 1) (i' := 62) ckX10 rfl rfl (by decide) rfl rfl rfl fl_X10_110 dX10_works_161 ?_
              refine r_iload_n (k := 5) rfl rfl dX10_works_164 ?_
              refine r_iload (k := 0) rfl dX10_works_165 ?_
              obtain ⟨c19, H⟩ := H
              refine r_iast rfl rfl rfl c19 gy18 dX10_works_167 ?_
              refine r_mm (fun M20 e20 => ?_)
              have H := H M20 e20
              have hM20 : sl_RM M20 := by rw [e20]; exact sl_wr_RM hM gy18
              obtain ⟨c21, H⟩ := H
              refine r_iinc (k := 5) (ls' := [(3, vI (x3 + 1)), (8, vI y18), (7, vI (M 1 1 ((281 + (12 * x1)) + x6))), (0, vR 1 0), (1, vI x1), (2, vI x2), (5, vI x5), (6, vI x6)]) rfl c21 (by decide) rfl dX10_works_168 ?_
              exact sl_At.sub [3, 4, 5, 0, 6, 7] rfl H
            refine r_if_eq (tgt := 148) g2 dX10_works_132 (by decide) (fun h17 => ?_) (fun h17 => ?_)
            · replace K := K.1 h17
              have c15 := K
              refine r_aload_n (k := 2) rfl rfl dX10_works_148 ?_
              refine r_getR (k := 50) (o' := 1) (i' := 51) ckX10 rfl rfl (by decide) rfl rfl rfl fl_X10_101 dX10_works_149 ?_
              refine r_iload (k := 1) rfl dX10_works_152 ?_
              refine r_bipush dX10_works_154 (by decide) ?_
              refine r_isub dX10_works_156 ?_
              refine r_iald rfl rfl rfl c15 dX10_works_157 ?_
              rw [if_pos h17] at J
              exact J
            · replace K := K.2 h17
              have c16 := K
              refine r_aload_n (k := 2) rfl rfl dX10_works_135 ?_
              refine r_getR (k := 52) (o' := 1) (i' := 53) ckX10 rfl rfl (by decide) rfl rfl rfl fl_X10_104 dX10_works_136 ?_
              refine r_iload (k := 1) rfl dX10_works_139 ?_
              refine r_bipush dX10_works_141 (by decide) ?_
              refine r_isub dX10_works_143 ?_
              refine r_iald rfl rfl rfl c16 dX10_works_144 ?_
              refine r_goto (tgt := 158) dX10_works_145 (by decide) ?_
              rw [if_neg h17] at J
              exact J
          · have H := H.2 (b_eq0.mp (Decidable.of_not_not h14))
            refine r_aload_n (k := 2) rfl rfl dX10_works_125 ?_
            refine r_iconst dX10_works_126 ?_
            refine r_pI (k := 59) (kz := 59) rfl ckX10 rfl rfl (by decide) rfl rfl rfl rfl fl_X10_362 ⟨by decide, by decide⟩ dX10_works_127 ?_
            refine r_mm (fun M22 e22 => ?_)
            have H := H M22 e22
            have hM22 : sl_RM M22 := by rw [e22]; exact sl_wr_RM hM ⟨by decide, by decide⟩
            refine r_vret rfl dX10_works_130 ?_
            exact H
        refine r_if_eq (tgt := 110) g2 dX10_works_100 (by decide) (fun h12 => ?_) (fun h12 => ?_)
        · refine r_aload_n (k := 2) rfl rfl dX10_works_110 ?_
          refine r_gI (k := 51) (kz := 51) rfl ckX10 rfl rfl (by decide) rfl rfl fl_X10_368 dX10_works_111 ?_
          rw [if_pos h12] at J
          exact J
        · refine r_aload_n (k := 2) rfl rfl dX10_works_103 ?_
          refine r_gI (k := 53) (kz := 53) rfl ckX10 rfl rfl (by decide) rfl rfl fl_X10_365 dX10_works_104 ?_
          refine r_goto (tgt := 114) dX10_works_107 (by decide) ?_
          rw [if_neg h12] at J
          exact J
    · have H := H.2 (b_ne0.mp h5)
      refine r_aload_n (k := 1) rfl rfl dX10_works_57 ?_
      refine r_getR (k := 62) (o' := 1) (i' := 63) ckX10 rfl rfl (by decide) rfl rfl rfl fl_X10_113 dX10_works_58 ?_
      refine r_iload (k := 5) rfl dX10_works_61 ?_
      refine r_iload (k := 0) rfl dX10_works_63 ?_
      obtain ⟨c23, H⟩ := H
      refine r_iast rfl rfl rfl c23 (hM _ _ _) dX10_works_65 ?_
      refine r_mm (fun M24 e24 => ?_)
      have H := H M24 e24
      have hM24 : sl_RM M24 := by rw [e24]; exact sl_wr_RM hM (hM _ _ _)
      refine r_aload_n (k := 1) rfl rfl dX10_works_66 ?_
      refine r_getR (k := 63) (o' := 1) (i' := 64) ckX10 rfl rfl (by decide) rfl rfl rfl fl_X10_116 dX10_works_67 ?_
      refine r_iload (k := 5) rfl dX10_works_70 ?_
      refine r_iconst dX10_works_72 ?_
      refine r_iast rfl rfl rfl c23 ⟨by decide, by decide⟩ dX10_works_73 ?_
      refine r_mm (fun M25 e25 => ?_)
      have H := H M25 e25
      have hM25 : sl_RM M25 := by rw [e25]; exact sl_wr_RM hM24 ⟨by decide, by decide⟩
      obtain ⟨c26, H⟩ := H
      refine r_iinc (k := 5) (ls' := [(5, vI (x5 + 1)), (7, vI (M 1 1 ((281 + (12 * x1)) + x6))), (0, vR 1 0), (1, vI x1), (2, vI x2), (3, vI x3), (6, vI x6)]) rfl c26 (by decide) rfl dX10_works_74 ?_
      refine r_goto (tgt := 279) dX10_works_77 (by decide) ?_
      obtain ⟨c27, H⟩ := H
      refine r_iinc (k := 6) (ls' := [(6, vI (x6 + 1)), (5, vI (x5 + 1)), (7, vI (M 1 1 ((281 + (12 * x1)) + x6))), (0, vR 1 0), (1, vI x1), (2, vI x2), (3, vI x3)]) rfl c27 (by decide) rfl dX10_works_279 ?_
      refine r_goto (tgt := 16) dX10_works_282 (by decide) ?_
      exact sl_At.sub [3, 4, 5, 6, 1, 0] rfl H
set_option maxHeartbeats 4000000 in
set_option maxRecDepth 10000 in
theorem vX10_works_171 {l : Launch} {M : sl_M} {Q : sl_R} {x1 x2 x3 x5 x6 : Int} (H : sl_RM M → sl_rg x1 → sl_rg x2 → sl_rg x3 → sl_rg x5 → sl_rg x6 → ((x5 ≤ 0) → (sl_rg (x6 + 1)) ∧ sl_At l mX10_works 16 [(0, vR 1 0), (1, vI x1), (2, vI x2), (3, vI x3), (5, vI x5), (6, vI (x6 + 1))] [] M Q) ∧ ((¬ (x5 ≤ 0)) → (0 ≤ x5 - 1 ∧ x5 - 1 < 12) ∧ (sl_rg (M 1 64 (x5 - 1) + 1)) ∧ (∀ M5, M5 = sl_wr M 1 64 (x5 - 1) (M 1 64 (x5 - 1) + 1) → ((2 ≤ M5 1 64 (x5 - 1)) → (sl_rg (x5 + (-1))) ∧ (sl_rg (x3 + (-1))) ∧ (0 ≤ x5 + (-1) ∧ x5 + (-1) < 12) ∧ ((M5 1 63 (x5 + (-1)) = 47) → (0 ≤ x3 + (-1) ∧ x3 + (-1) < 12) ∧ ((M5 1 62 (x3 + (-1)) ≠ 0) → sl_At l mX10_works 249 [(0, vR 1 0), (1, vI x1), (2, vI x2), (3, vI (x3 + (-1))), (4, vI (M5 1 63 (x5 + (-1)))), (5, vI (x5 + (-1))), (6, vI x6)] [] M5 Q) ∧ ((¬ (M5 1 62 (x3 + (-1)) ≠ 0)) → (∀ M13, M13 = sl_wr M5 1 0 59 2 → Q none M13))) ∧ ((¬ (M5 1 63 (x5 + (-1)) = 47)) → ((M5 1 63 (x5 + (-1)) ≠ 37) → sl_At l mX10_works 249 [(0, vR 1 0), (1, vI x1), (2, vI x2), (3, vI (x3 + (-1))), (4, vI (M5 1 63 (x5 + (-1)))), (5, vI (x5 + (-1))), (6, vI x6)] [] M5 Q) ∧ ((¬ (M5 1 63 (x5 + (-1)) ≠ 37)) → (0 ≤ x3 + (-1) ∧ x3 + (-1) < 12) ∧ ((M5 1 62 (x3 + (-1)) ≠ 0) → sl_At l mX10_works 249 [(0, vR 1 0), (1, vI x1), (2, vI x2), (3, vI (x3 + (-1))), (4, vI (M5 1 63 (x5 + (-1)))), (5, vI (x5 + (-1))), (6, vI x6)] [] M5 Q) ∧ ((¬ (M5 1 62 (x3 + (-1)) ≠ 0)) → (∀ M17, M17 = sl_wr M5 1 0 59 2 → Q none M17))))) ∧ ((¬ (2 ≤ M5 1 64 (x5 - 1))) → (sl_rg (x6 + 1)) ∧ sl_At l mX10_works 16 [(0, vR 1 0), (1, vI x1), (2, vI x2), (3, vI x3), (5, vI x5), (6, vI (x6 + 1))] [] M5 Q)))) : sl_At l mX10_works 171 [(0, vR 1 0), (1, vI x1), (2, vI x2), (3, vI x3), (5, vI x5), (6, vI x6)] [] M Q := by
  refine sl_At.in (fun hM hls => ?_)
  have g1 : sl_rg x1 := hls _ (List.mem_of_getElem? (i := 1) rfl)
  have g2 : sl_rg x2 := hls _ (List.mem_of_getElem? (i := 2) rfl)
  have g3 : sl_rg x3 := hls _ (List.mem_of_getElem? (i := 3) rfl)
  have g5 : sl_rg x5 := hls _ (List.mem_of_getElem? (i := 4) rfl)
  have g6 : sl_rg x6 := hls _ (List.mem_of_getElem? (i := 5) rfl)
  have H := H hM g1 g2 g3 g5 g6
  refine r_iload (k := 4) rfl dX10_works_171 ?_
  refine r_if_le (tgt := 279) g5 dX10_works_173 (by decide) (fun h1 => ?_) (fun h1 => ?_)
  · have H := H.1 h1
    obtain ⟨c2, H⟩ := H
    refine r_iinc (k := 5) (ls' := [(6, vI (x6 + 1)), (0, vR 1 0), (1, vI x1), (2, vI x2), (3, vI x3), (5, vI x5)]) rfl c2 (by decide) rfl dX10_works_279 ?_
    refine r_goto (tgt := 16) dX10_works_282 (by decide) ?_
    exact sl_At.sub [1, 2, 3, 4, 5, 0] rfl H
  · have H := H.2 h1
    refine r_aload_n (k := 0) rfl rfl dX10_works_176 ?_
    refine r_getR (k := 63) (o' := 1) (i' := 64) ckX10 rfl rfl (by decide) rfl rfl rfl fl_X10_116 dX10_works_177 ?_
    refine r_iload (k := 4) rfl dX10_works_180 ?_
    refine r_iconst dX10_works_182 ?_
    refine r_isub dX10_works_183 ?_
    refine r_dup2 rfl rfl dX10_works_184 ?_
    obtain ⟨c3, H⟩ := H
    refine r_iald rfl rfl rfl c3 dX10_works_185 ?_
    refine r_iconst dX10_works_186 ?_
    refine r_iadd dX10_works_187 ?_
    obtain ⟨c4, H⟩ := H
    refine r_iast rfl rfl rfl c3 c4 dX10_works_188 ?_
    refine r_mm (fun M5 e5 => ?_)
    have H := H M5 e5
    have hM5 : sl_RM M5 := by rw [e5]; exact sl_wr_RM hM c4
    refine r_aload_n (k := 0) rfl rfl dX10_works_189 ?_
    refine r_getR (k := 63) (o' := 1) (i' := 64) ckX10 rfl rfl (by decide) rfl rfl rfl fl_X10_116 dX10_works_190 ?_
    refine r_iload (k := 4) rfl dX10_works_193 ?_
    refine r_iconst dX10_works_195 ?_
    refine r_isub dX10_works_196 ?_
    refine r_iald rfl rfl rfl c3 dX10_works_197 ?_
    refine r_iconst dX10_works_198 ?_
    refine r_icmp_ge (tgt := 205) (hM5 _ _ _) ⟨by decide, by decide⟩ dX10_works_199 (by decide) (fun h6 => ?_) (fun h6 => ?_)
    · have H := H.1 h6
      obtain ⟨c7, H⟩ := H
      refine r_iinc (k := 4) (ls' := [(5, vI (x5 + (-1))), (0, vR 1 0), (1, vI x1), (2, vI x2), (3, vI x3), (6, vI x6)]) rfl c7 (by decide) rfl dX10_works_205 ?_
      obtain ⟨c8, H⟩ := H
      refine r_iinc (k := 4) (ls' := [(3, vI (x3 + (-1))), (5, vI (x5 + (-1))), (0, vR 1 0), (1, vI x1), (2, vI x2), (6, vI x6)]) rfl c8 (by decide) rfl dX10_works_208 ?_
      refine r_aload_n (k := 2) rfl rfl dX10_works_211 ?_
      refine r_getR (k := 62) (o' := 1) (i' := 63) ckX10 rfl rfl (by decide) rfl rfl rfl fl_X10_113 dX10_works_212 ?_
      refine r_iload (k := 1) rfl dX10_works_215 ?_
      obtain ⟨c9, H⟩ := H
      refine r_iald rfl rfl rfl c9 dX10_works_217 ?_
      refine r_istore (ls' := [(4, vI (M5 1 63 (x5 + (-1)))), (3, vI (x3 + (-1))), (5, vI (x5 + (-1))), (0, vR 1 0), (1, vI x1), (2, vI x2), (6, vI x6)]) (hM5 _ _ _) (by decide) rfl dX10_works_218 ?_
      refine r_iload (k := 0) rfl dX10_works_220 ?_
      refine r_bipush dX10_works_222 (by decide) ?_
      refine r_icmp_eq (tgt := 234) (hM5 _ _ _) ⟨by decide, by decide⟩ dX10_works_224 (by decide) (fun h10 => ?_) (fun h10 => ?_)
      · have H := H.1 h10
        refine r_aload_n (k := 3) rfl rfl dX10_works_234 ?_
        refine r_getR (k := 61) (o' := 1) (i' := 62) ckX10 rfl rfl (by decide) rfl rfl rfl fl_X10_110 dX10_works_235 ?_
        refine r_iload_n (k := 1) rfl rfl dX10_works_238 ?_
        obtain ⟨c11, H⟩ := H
        refine r_iald rfl rfl rfl c11 dX10_works_239 ?_
        refine r_if_ne (tgt := 249) (hM5 _ _ _) dX10_works_240 (by decide) (fun h12 => ?_) (fun h12 => ?_)
        · have H := H.1 h12
          exact sl_At.sub [3, 4, 5, 1, 0, 2, 6] rfl H
        · have H := H.2 h12
          refine r_aload_n (k := 3) rfl rfl dX10_works_243 ?_
          refine r_iconst dX10_works_244 ?_
          refine r_pI (k := 59) (kz := 59) rfl ckX10 rfl rfl (by decide) rfl rfl rfl rfl fl_X10_362 ⟨by decide, by decide⟩ dX10_works_245 ?_
          refine r_mm (fun M13 e13 => ?_)
          have H := H M13 e13
          have hM13 : sl_RM M13 := by rw [e13]; exact sl_wr_RM hM5 ⟨by decide, by decide⟩
          refine r_vret rfl dX10_works_248 ?_
          exact H
      · have H := H.2 h10
        refine r_iload (k := 0) rfl dX10_works_227 ?_
        refine r_bipush dX10_works_229 (by decide) ?_
        refine r_icmp_ne (tgt := 249) (hM5 _ _ _) ⟨by decide, by decide⟩ dX10_works_231 (by decide) (fun h14 => ?_) (fun h14 => ?_)
        · have H := H.1 h14
          exact sl_At.sub [3, 4, 5, 1, 0, 2, 6] rfl H
        · have H := H.2 h14
          refine r_aload_n (k := 3) rfl rfl dX10_works_234 ?_
          refine r_getR (k := 61) (o' := 1) (i' := 62) ckX10 rfl rfl (by decide) rfl rfl rfl fl_X10_110 dX10_works_235 ?_
          refine r_iload_n (k := 1) rfl rfl dX10_works_238 ?_
          obtain ⟨c15, H⟩ := H
          refine r_iald rfl rfl rfl c15 dX10_works_239 ?_
          refine r_if_ne (tgt := 249) (hM5 _ _ _) dX10_works_240 (by decide) (fun h16 => ?_) (fun h16 => ?_)
          · have H := H.1 h16
            exact sl_At.sub [3, 4, 5, 1, 0, 2, 6] rfl H
          · have H := H.2 h16
            refine r_aload_n (k := 3) rfl rfl dX10_works_243 ?_
            refine r_iconst dX10_works_244 ?_
            refine r_pI (k := 59) (kz := 59) rfl ckX10 rfl rfl (by decide) rfl rfl rfl rfl fl_X10_362 ⟨by decide, by decide⟩ dX10_works_245 ?_
            refine r_mm (fun M17 e17 => ?_)
            have H := H M17 e17
            have hM17 : sl_RM M17 := by rw [e17]; exact sl_wr_RM hM5 ⟨by decide, by decide⟩
            refine r_vret rfl dX10_works_248 ?_
            exact H
    · have H := H.2 h6
      refine r_goto (tgt := 279) dX10_works_202 (by decide) ?_
      obtain ⟨c18, H⟩ := H
      refine r_iinc (k := 5) (ls' := [(6, vI (x6 + 1)), (0, vR 1 0), (1, vI x1), (2, vI x2), (3, vI x3), (5, vI x5)]) rfl c18 (by decide) rfl dX10_works_279 ?_
      refine r_goto (tgt := 16) dX10_works_282 (by decide) ?_
      exact sl_At.sub [1, 2, 3, 4, 5, 0] rfl H
set_option maxHeartbeats 4000000 in
set_option maxRecDepth 10000 in
theorem vX10_works_249 {l : Launch} {M : sl_M} {Q : sl_R} {x1 x2 x3 x4 x5 x6 : Int} (H : sl_RM M → sl_rg x1 → sl_rg x2 → sl_rg x3 → sl_rg x4 → sl_rg x5 → sl_rg x6 → (0 ≤ x3 - 1 ∧ x3 - 1 < 12) ∧ (0 ≤ x3 ∧ x3 < 12) ∧ sl_RI l mX10_done [vI x4, vI (M 1 62 (x3 - 1)), vI (M 1 62 x3)] M (fun y4 M3 => (∀ M5, M5 = sl_wr M3 1 62 (x3 - 1) y4 → sl_At l mX10_works 171 [(0, vR 1 0), (1, vI x1), (2, vI x2), (3, vI x3), (5, vI x5), (6, vI x6)] [] M5 Q))) : sl_At l mX10_works 249 [(0, vR 1 0), (1, vI x1), (2, vI x2), (3, vI x3), (4, vI x4), (5, vI x5), (6, vI x6)] [] M Q := by
  refine sl_At.in (fun hM hls => ?_)
  have g1 : sl_rg x1 := hls _ (List.mem_of_getElem? (i := 1) rfl)
  have g2 : sl_rg x2 := hls _ (List.mem_of_getElem? (i := 2) rfl)
  have g3 : sl_rg x3 := hls _ (List.mem_of_getElem? (i := 3) rfl)
  have g4 : sl_rg x4 := hls _ (List.mem_of_getElem? (i := 4) rfl)
  have g5 : sl_rg x5 := hls _ (List.mem_of_getElem? (i := 5) rfl)
  have g6 : sl_rg x6 := hls _ (List.mem_of_getElem? (i := 6) rfl)
  have H := H hM g1 g2 g3 g4 g5 g6
  refine r_aload_n (k := 0) rfl rfl dX10_works_249 ?_
  refine r_getR (k := 61) (o' := 1) (i' := 62) ckX10 rfl rfl (by decide) rfl rfl rfl fl_X10_110 dX10_works_250 ?_
  refine r_iload_n (k := 3) rfl rfl dX10_works_253 ?_
  refine r_iconst dX10_works_254 ?_
  refine r_isub dX10_works_255 ?_
  refine r_iload (k := 4) rfl dX10_works_256 ?_
  refine r_aload_n (k := 0) rfl rfl dX10_works_258 ?_
  refine r_getR (k := 61) (o' := 1) (i' := 62) ckX10 rfl rfl (by decide) rfl rfl rfl fl_X10_110 dX10_works_259 ?_
  refine r_iload_n (k := 3) rfl rfl dX10_works_262 ?_
  refine r_iconst dX10_works_263 ?_
  refine r_isub dX10_works_264 ?_
  obtain ⟨c1, H⟩ := H
  refine r_iald rfl rfl rfl c1 dX10_works_265 ?_
  refine r_aload_n (k := 0) rfl rfl dX10_works_266 ?_
  refine r_getR (k := 61) (o' := 1) (i' := 62) ckX10 rfl rfl (by decide) rfl rfl rfl fl_X10_110 dX10_works_267 ?_
  refine r_iload_n (k := 3) rfl rfl dX10_works_270 ?_
  obtain ⟨c2, H⟩ := H
  refine r_iald rfl rfl rfl c2 dX10_works_271 ?_
  refine r_callS (g := mX10_done) rfl mkX10_done msX10_done ml_X10_371 ⟨by decide, by decide⟩ rfl (Nat.le_of_ble_eq_true rfl) rfl (ok_i g4 (ok_i (hM _ _ _) (ok_i (hM _ _ _) ok_n))) dX10_works_272 (sl_afterI (sl_RI.mono (fun y4 M3 gy4 hM3 H => ?_) H))
  refine r_iast rfl rfl rfl c1 gy4 dX10_works_275 ?_
  refine r_mm (fun M5 e5 => ?_)
  have H := H M5 e5
  have hM5 : sl_RM M5 := by rw [e5]; exact sl_wr_RM hM3 gy4
  refine r_goto (tgt := 171) dX10_works_276 (by decide) ?_
  exact sl_At.sub [0, 1, 2, 3, 5, 6] rfl H
theorem eX10_works {l : Launch} {M : sl_M} {Q : sl_R} {x1 x2 : Int} (k : sl_At l mX10_works 0 [(0, vR 1 0), (1, vI x1), (2, vI x2)] [] M Q) : sl_Runs l mX10_works [vR 1 0, vI x1, vI x2] M Q := sl_Runs.of (ls := [(0, vR 1 0), (1, vI x1), (2, vI x2)]) rfl rfl (fun _ => rfl) (fun _ => Nat.le_of_ble_eq_true rfl) rfl (k)
theorem dX10_done_0 : decode cX10_done 0 = .ok (.iload_n 0, 1) := by decide +kernel
theorem dX10_done_1 : decode cX10_done 1 = .ok (.lookupswitch 90 #[(37, 75), (42, 67), (43, 59), (45, 63), (47, 71), (60, 79)], 59) := by decide +kernel
theorem dX10_done_60 : decode cX10_done 60 = .ok (.iload_n 1, 1) := by decide +kernel
theorem dX10_done_61 : decode cX10_done 61 = .ok (.iload_n 2, 1) := by decide +kernel
theorem dX10_done_62 : decode cX10_done 62 = .ok (.iadd, 1) := by decide +kernel
theorem dX10_done_63 : decode cX10_done 63 = .ok (.ireturn, 1) := by decide +kernel
theorem dX10_done_64 : decode cX10_done 64 = .ok (.iload_n 1, 1) := by decide +kernel
theorem dX10_done_65 : decode cX10_done 65 = .ok (.iload_n 2, 1) := by decide +kernel
theorem dX10_done_66 : decode cX10_done 66 = .ok (.isub, 1) := by decide +kernel
theorem dX10_done_67 : decode cX10_done 67 = .ok (.ireturn, 1) := by decide +kernel
theorem dX10_done_68 : decode cX10_done 68 = .ok (.iload_n 1, 1) := by decide +kernel
theorem dX10_done_69 : decode cX10_done 69 = .ok (.iload_n 2, 1) := by decide +kernel
theorem dX10_done_70 : decode cX10_done 70 = .ok (.imul, 1) := by decide +kernel
theorem dX10_done_71 : decode cX10_done 71 = .ok (.ireturn, 1) := by decide +kernel
theorem dX10_done_72 : decode cX10_done 72 = .ok (.iload_n 1, 1) := by decide +kernel
theorem dX10_done_73 : decode cX10_done 73 = .ok (.iload_n 2, 1) := by decide +kernel
theorem dX10_done_74 : decode cX10_done 74 = .ok (.idiv, 1) := by decide +kernel
theorem dX10_done_75 : decode cX10_done 75 = .ok (.ireturn, 1) := by decide +kernel
theorem dX10_done_76 : decode cX10_done 76 = .ok (.iload_n 1, 1) := by decide +kernel
theorem dX10_done_77 : decode cX10_done 77 = .ok (.iload_n 2, 1) := by decide +kernel
theorem dX10_done_78 : decode cX10_done 78 = .ok (.irem, 1) := by decide +kernel
theorem dX10_done_79 : decode cX10_done 79 = .ok (.ireturn, 1) := by decide +kernel
theorem dX10_done_80 : decode cX10_done 80 = .ok (.iload_n 1, 1) := by decide +kernel
theorem dX10_done_81 : decode cX10_done 81 = .ok (.iload_n 2, 1) := by decide +kernel
theorem dX10_done_82 : decode cX10_done 82 = .ok (.if_icmp .ge 7, 3) := by decide +kernel
theorem dX10_done_85 : decode cX10_done 85 = .ok (.iconst 1, 1) := by decide +kernel
theorem dX10_done_86 : decode cX10_done 86 = .ok (.goto 4, 3) := by decide +kernel
theorem dX10_done_89 : decode cX10_done 89 = .ok (.iconst 0, 1) := by decide +kernel
theorem dX10_done_90 : decode cX10_done 90 = .ok (.ireturn, 1) := by decide +kernel
theorem dX10_done_91 : decode cX10_done 91 = .ok (.iload_n 1, 1) := by decide +kernel
theorem dX10_done_92 : decode cX10_done 92 = .ok (.iload_n 2, 1) := by decide +kernel
theorem dX10_done_93 : decode cX10_done 93 = .ok (.if_icmp .ne 7, 3) := by decide +kernel
theorem dX10_done_96 : decode cX10_done 96 = .ok (.iconst 1, 1) := by decide +kernel
theorem dX10_done_97 : decode cX10_done 97 = .ok (.goto 4, 3) := by decide +kernel
theorem dX10_done_100 : decode cX10_done 100 = .ok (.iconst 0, 1) := by decide +kernel
theorem dX10_done_101 : decode cX10_done 101 = .ok (.ireturn, 1) := by decide +kernel
set_option maxHeartbeats 4000000 in
set_option maxRecDepth 10000 in
theorem vX10_done_0 {l : Launch} {M : sl_M} {Q : sl_R} {x0 x1 x2 : Int} (H : sl_RM M → sl_rg x0 → sl_rg x1 → sl_rg x2 → ((x0 = 37) → (x2 ≠ 0) ∧ Q (some (vI (irem x1 x2))) M) ∧ ((x0 = 42) → (sl_rg (x1 * x2)) ∧ Q (some (vI (x1 * x2))) M) ∧ ((x0 = 43) → (sl_rg (x1 + x2)) ∧ Q (some (vI (x1 + x2))) M) ∧ ((x0 = 45) → (sl_rg (x1 - x2)) ∧ Q (some (vI (x1 - x2))) M) ∧ ((x0 = 47) → (x2 ≠ 0) ∧ Q (some (vI (idiv x1 x2))) M) ∧ ((x0 = 60) → Q (some (vI (if ¬ (x2 ≤ x1) then 1 else 0))) M) ∧ ((¬ (x0 = 37) ∧ ¬ (x0 = 42) ∧ ¬ (x0 = 43) ∧ ¬ (x0 = 45) ∧ ¬ (x0 = 47) ∧ ¬ (x0 = 60)) → Q (some (vI (if ¬ (x1 ≠ x2) then 1 else 0))) M)) : sl_At l mX10_done 0 [(0, vI x0), (1, vI x1), (2, vI x2)] [] M Q := by
  refine sl_At.in (fun hM hls => ?_)
  have g0 : sl_rg x0 := hls _ (List.mem_of_getElem? (i := 0) rfl)
  have g1 : sl_rg x1 := hls _ (List.mem_of_getElem? (i := 1) rfl)
  have g2 : sl_rg x2 := hls _ (List.mem_of_getElem? (i := 2) rfl)
  have H := H hM g0 g1 g2
  refine r_iload_n (k := 0) rfl rfl dX10_done_0 ?_
  by_cases h1 : x0 = 37
  · refine r_ls (tgt := 76) (off := 75) g0 dX10_done_1 (by decide) (by rw [h1]; decide +kernel) (by decide) ?_
    have H := H.1 h1
    refine r_iload_n (k := 1) rfl rfl dX10_done_76 ?_
    refine r_iload_n (k := 2) rfl rfl dX10_done_77 ?_
    obtain ⟨c2, H⟩ := H
    refine r_irem g2 c2 dX10_done_78 ?_
    refine r_iret rfl (rg_irem _ _) dX10_done_79 ?_
    exact H
  replace H := H.2
  by_cases h3 : x0 = 42
  · refine r_ls (tgt := 68) (off := 67) g0 dX10_done_1 (by decide) (by rw [h3]; decide +kernel) (by decide) ?_
    have H := H.1 h3
    refine r_iload_n (k := 1) rfl rfl dX10_done_68 ?_
    refine r_iload_n (k := 2) rfl rfl dX10_done_69 ?_
    refine r_imul dX10_done_70 ?_
    obtain ⟨c4, H⟩ := H
    refine r_iret rfl c4 dX10_done_71 ?_
    exact H
  replace H := H.2
  by_cases h5 : x0 = 43
  · refine r_ls (tgt := 60) (off := 59) g0 dX10_done_1 (by decide) (by rw [h5]; decide +kernel) (by decide) ?_
    have H := H.1 h5
    refine r_iload_n (k := 1) rfl rfl dX10_done_60 ?_
    refine r_iload_n (k := 2) rfl rfl dX10_done_61 ?_
    refine r_iadd dX10_done_62 ?_
    obtain ⟨c6, H⟩ := H
    refine r_iret rfl c6 dX10_done_63 ?_
    exact H
  replace H := H.2
  by_cases h7 : x0 = 45
  · refine r_ls (tgt := 64) (off := 63) g0 dX10_done_1 (by decide) (by rw [h7]; decide +kernel) (by decide) ?_
    have H := H.1 h7
    refine r_iload_n (k := 1) rfl rfl dX10_done_64 ?_
    refine r_iload_n (k := 2) rfl rfl dX10_done_65 ?_
    refine r_isub dX10_done_66 ?_
    obtain ⟨c8, H⟩ := H
    refine r_iret rfl c8 dX10_done_67 ?_
    exact H
  replace H := H.2
  by_cases h9 : x0 = 47
  · refine r_ls (tgt := 72) (off := 71) g0 dX10_done_1 (by decide) (by rw [h9]; decide +kernel) (by decide) ?_
    have H := H.1 h9
    refine r_iload_n (k := 1) rfl rfl dX10_done_72 ?_
    refine r_iload_n (k := 2) rfl rfl dX10_done_73 ?_
    obtain ⟨c10, H⟩ := H
    refine r_idiv g2 c10 dX10_done_74 ?_
    refine r_iret rfl (rg_idiv _ _) dX10_done_75 ?_
    exact H
  replace H := H.2
  by_cases h11 : x0 = 60
  · refine r_ls (tgt := 80) (off := 79) g0 dX10_done_1 (by decide) (by rw [h11]; decide +kernel) (by decide) ?_
    have H := H.1 h11
    refine r_iload_n (k := 1) rfl rfl dX10_done_80 ?_
    refine r_iload_n (k := 2) rfl rfl dX10_done_81 ?_
    have J : sl_At l mX10_done 90 [(0, vI x0), (1, vI x1), (2, vI x2)] [vI (if ¬ (x2 ≤ x1) then 1 else 0)] M Q := by
      refine r_iret rfl rg_b dX10_done_90 ?_
      exact H
    refine r_icmp_ge (tgt := 89) g1 g2 dX10_done_82 (by decide) (fun h12 => ?_) (fun h12 => ?_)
    · refine r_iconst dX10_done_89 ?_
      rw [if_neg (show ¬ (¬ (x2 ≤ x1)) by omega)] at J
      exact J
    · refine r_iconst dX10_done_85 ?_
      refine r_goto (tgt := 90) dX10_done_86 (by decide) ?_
      rw [if_pos (show ¬ (x2 ≤ x1) by omega)] at J
      exact J
  replace H := H.2
  refine r_ls (tgt := 91) (off := 90) g0 dX10_done_1 (by decide) ?_ (by decide) ?_
  · show Op.lookupswitch.offset [(37, 75), (42, 67), (43, 59), (45, 63), (47, 71), (60, 79)] _ _ = _
    rw [sl_osw h1, sl_osw h3, sl_osw h5, sl_osw h7, sl_osw h9, sl_osw h11]; rfl
  · have H := H ⟨h1, h3, h5, h7, h9, h11⟩
    refine r_iload_n (k := 1) rfl rfl dX10_done_91 ?_
    refine r_iload_n (k := 2) rfl rfl dX10_done_92 ?_
    have J : sl_At l mX10_done 101 [(0, vI x0), (1, vI x1), (2, vI x2)] [vI (if ¬ (x1 ≠ x2) then 1 else 0)] M Q := by
      refine r_iret rfl rg_b dX10_done_101 ?_
      exact H
    refine r_icmp_ne (tgt := 100) g1 g2 dX10_done_93 (by decide) (fun h13 => ?_) (fun h13 => ?_)
    · refine r_iconst dX10_done_100 ?_
      rw [if_neg (show ¬ (¬ (x1 ≠ x2)) by omega)] at J
      exact J
    · refine r_iconst dX10_done_96 ?_
      refine r_goto (tgt := 101) dX10_done_97 (by decide) ?_
      rw [if_pos (show ¬ (x1 ≠ x2) by omega)] at J
      exact J
theorem eX10_done {l : Launch} {M : sl_M} {Q : sl_R} {x0 x1 x2 : Int} (k : sl_At l mX10_done 0 [(0, vI x0), (1, vI x1), (2, vI x2)] [] M Q) : sl_Runs l mX10_done [vI x0, vI x1, vI x2] M Q := sl_Runs.of (ls := [(0, vI x0), (1, vI x1), (2, vI x2)]) rfl rfl (fun _ => rfl) (fun _ => Nat.le_of_ble_eq_true rfl) rfl (k)
theorem dX10_sets_0 : decode cX10_sets 0 = .ok (.iload_n 3, 1) := by decide +kernel
theorem dX10_sets_1 : decode cX10_sets 1 = .ok (.ifCond .eq 25, 3) := by decide +kernel
theorem dX10_sets_4 : decode cX10_sets 4 = .ok (.aload_n 0, 1) := by decide +kernel
theorem dX10_sets_5 : decode cX10_sets 5 = .ok (.getfield 104, 3) := by decide +kernel
theorem dX10_sets_8 : decode cX10_sets 8 = .ok (.iload_n 1, 1) := by decide +kernel
theorem dX10_sets_9 : decode cX10_sets 9 = .ok (.iload_n 2, 1) := by decide +kernel
theorem dX10_sets_10 : decode cX10_sets 10 = .ok (.iastore, 1) := by decide +kernel
theorem dX10_sets_11 : decode cX10_sets 11 = .ok (.aload_n 0, 1) := by decide +kernel
theorem dX10_sets_12 : decode cX10_sets 12 = .ok (.dup, 1) := by decide +kernel
theorem dX10_sets_13 : decode cX10_sets 13 = .ok (.getfield 365, 3) := by decide +kernel
theorem dX10_sets_16 : decode cX10_sets 16 = .ok (.iconst 1, 1) := by decide +kernel
theorem dX10_sets_17 : decode cX10_sets 17 = .ok (.iload_n 1, 1) := by decide +kernel
theorem dX10_sets_18 : decode cX10_sets 18 = .ok (.ishl, 1) := by decide +kernel
theorem dX10_sets_19 : decode cX10_sets 19 = .ok (.ior, 1) := by decide +kernel
theorem dX10_sets_20 : decode cX10_sets 20 = .ok (.putfield 365, 3) := by decide +kernel
theorem dX10_sets_23 : decode cX10_sets 23 = .ok (.goto 22, 3) := by decide +kernel
theorem dX10_sets_26 : decode cX10_sets 26 = .ok (.aload_n 0, 1) := by decide +kernel
theorem dX10_sets_27 : decode cX10_sets 27 = .ok (.getfield 101, 3) := by decide +kernel
theorem dX10_sets_30 : decode cX10_sets 30 = .ok (.iload_n 1, 1) := by decide +kernel
theorem dX10_sets_31 : decode cX10_sets 31 = .ok (.iload_n 2, 1) := by decide +kernel
theorem dX10_sets_32 : decode cX10_sets 32 = .ok (.iastore, 1) := by decide +kernel
theorem dX10_sets_33 : decode cX10_sets 33 = .ok (.aload_n 0, 1) := by decide +kernel
theorem dX10_sets_34 : decode cX10_sets 34 = .ok (.dup, 1) := by decide +kernel
theorem dX10_sets_35 : decode cX10_sets 35 = .ok (.getfield 368, 3) := by decide +kernel
theorem dX10_sets_38 : decode cX10_sets 38 = .ok (.iconst 1, 1) := by decide +kernel
theorem dX10_sets_39 : decode cX10_sets 39 = .ok (.iload_n 1, 1) := by decide +kernel
theorem dX10_sets_40 : decode cX10_sets 40 = .ok (.ishl, 1) := by decide +kernel
theorem dX10_sets_41 : decode cX10_sets 41 = .ok (.ior, 1) := by decide +kernel
theorem dX10_sets_42 : decode cX10_sets 42 = .ok (.putfield 368, 3) := by decide +kernel
theorem dX10_sets_45 : decode cX10_sets 45 = .ok (.return_, 1) := by decide +kernel
set_option maxHeartbeats 4000000 in
set_option maxRecDepth 10000 in
theorem vX10_sets_0 {l : Launch} {M : sl_M} {Q : sl_R} {x1 x2 x3 : Int} (H : sl_RM M → sl_rg x1 → sl_rg x2 → sl_rg x3 → ((x3 = 0) → (0 ≤ x1 ∧ x1 < 8) ∧ (∀ M3, M3 = sl_wr M 1 51 x1 x2 → (∀ M4, M4 = sl_wr M3 1 0 51 (ior (M3 1 0 51) (ishl 1 x1)) → Q none M4))) ∧ ((¬ (x3 = 0)) → (0 ≤ x1 ∧ x1 < 8) ∧ (∀ M6, M6 = sl_wr M 1 53 x1 x2 → (∀ M7, M7 = sl_wr M6 1 0 53 (ior (M6 1 0 53) (ishl 1 x1)) → Q none M7)))) : sl_At l mX10_sets 0 [(0, vR 1 0), (1, vI x1), (2, vI x2), (3, vI x3)] [] M Q := by
  refine sl_At.in (fun hM hls => ?_)
  have g1 : sl_rg x1 := hls _ (List.mem_of_getElem? (i := 1) rfl)
  have g2 : sl_rg x2 := hls _ (List.mem_of_getElem? (i := 2) rfl)
  have g3 : sl_rg x3 := hls _ (List.mem_of_getElem? (i := 3) rfl)
  have H := H hM g1 g2 g3
  refine r_iload_n (k := 3) rfl rfl dX10_sets_0 ?_
  refine r_if_eq (tgt := 26) g3 dX10_sets_1 (by decide) (fun h1 => ?_) (fun h1 => ?_)
  · have H := H.1 h1
    refine r_aload_n (k := 0) rfl rfl dX10_sets_26 ?_
    refine r_getR (k := 50) (o' := 1) (i' := 51) ckX10 rfl rfl (by decide) rfl rfl rfl fl_X10_101 dX10_sets_27 ?_
    refine r_iload_n (k := 1) rfl rfl dX10_sets_30 ?_
    refine r_iload_n (k := 2) rfl rfl dX10_sets_31 ?_
    obtain ⟨c2, H⟩ := H
    refine r_iast rfl rfl rfl c2 g2 dX10_sets_32 ?_
    refine r_mm (fun M3 e3 => ?_)
    have H := H M3 e3
    have hM3 : sl_RM M3 := by rw [e3]; exact sl_wr_RM hM g2
    refine r_aload_n (k := 0) rfl rfl dX10_sets_33 ?_
    refine r_dup rfl dX10_sets_34 ?_
    refine r_gI (k := 51) (kz := 51) rfl ckX10 rfl rfl (by decide) rfl rfl fl_X10_368 dX10_sets_35 ?_
    refine r_iconst dX10_sets_38 ?_
    refine r_iload_n (k := 1) rfl rfl dX10_sets_39 ?_
    refine r_ishl dX10_sets_40 ?_
    refine r_ior dX10_sets_41 ?_
    refine r_pI (k := 51) (kz := 51) rfl ckX10 rfl rfl (by decide) rfl rfl rfl rfl fl_X10_368 (rg_ior _ _) dX10_sets_42 ?_
    refine r_mm (fun M4 e4 => ?_)
    have H := H M4 e4
    have hM4 : sl_RM M4 := by rw [e4]; exact sl_wr_RM hM3 (rg_ior _ _)
    refine r_vret rfl dX10_sets_45 ?_
    exact H
  · have H := H.2 h1
    refine r_aload_n (k := 0) rfl rfl dX10_sets_4 ?_
    refine r_getR (k := 52) (o' := 1) (i' := 53) ckX10 rfl rfl (by decide) rfl rfl rfl fl_X10_104 dX10_sets_5 ?_
    refine r_iload_n (k := 1) rfl rfl dX10_sets_8 ?_
    refine r_iload_n (k := 2) rfl rfl dX10_sets_9 ?_
    obtain ⟨c5, H⟩ := H
    refine r_iast rfl rfl rfl c5 g2 dX10_sets_10 ?_
    refine r_mm (fun M6 e6 => ?_)
    have H := H M6 e6
    have hM6 : sl_RM M6 := by rw [e6]; exact sl_wr_RM hM g2
    refine r_aload_n (k := 0) rfl rfl dX10_sets_11 ?_
    refine r_dup rfl dX10_sets_12 ?_
    refine r_gI (k := 53) (kz := 53) rfl ckX10 rfl rfl (by decide) rfl rfl fl_X10_365 dX10_sets_13 ?_
    refine r_iconst dX10_sets_16 ?_
    refine r_iload_n (k := 1) rfl rfl dX10_sets_17 ?_
    refine r_ishl dX10_sets_18 ?_
    refine r_ior dX10_sets_19 ?_
    refine r_pI (k := 53) (kz := 53) rfl ckX10 rfl rfl (by decide) rfl rfl rfl rfl fl_X10_365 (rg_ior _ _) dX10_sets_20 ?_
    refine r_mm (fun M7 e7 => ?_)
    have H := H M7 e7
    have hM7 : sl_RM M7 := by rw [e7]; exact sl_wr_RM hM6 (rg_ior _ _)
    refine r_goto (tgt := 45) dX10_sets_23 (by decide) ?_
    refine r_vret rfl dX10_sets_45 ?_
    exact H
theorem eX10_sets {l : Launch} {M : sl_M} {Q : sl_R} {x1 x2 x3 : Int} (k : sl_At l mX10_sets 0 [(0, vR 1 0), (1, vI x1), (2, vI x2), (3, vI x3)] [] M Q) : sl_Runs l mX10_sets [vR 1 0, vI x1, vI x2, vI x3] M Q := sl_Runs.of (ls := [(0, vR 1 0), (1, vI x1), (2, vI x2), (3, vI x3)]) rfl rfl (fun _ => rfl) (fun _ => Nat.le_of_ble_eq_true rfl) rfl (k)
theorem dX10_steps_0 : decode cX10_steps 0 = .ok (.aload_n 0, 1) := by decide +kernel
theorem dX10_steps_1 : decode cX10_steps 1 = .ok (.getfield 377, 3) := by decide +kernel
theorem dX10_steps_4 : decode cX10_steps 4 = .ok (.sipush 400, 3) := by decide +kernel
theorem dX10_steps_7 : decode cX10_steps 7 = .ok (.if_icmp .ne 10, 3) := by decide +kernel
theorem dX10_steps_10 : decode cX10_steps 10 = .ok (.aload_n 0, 1) := by decide +kernel
theorem dX10_steps_11 : decode cX10_steps 11 = .ok (.iconst 4, 1) := by decide +kernel
theorem dX10_steps_12 : decode cX10_steps 12 = .ok (.putfield 362, 3) := by decide +kernel
theorem dX10_steps_15 : decode cX10_steps 15 = .ok (.iconst (-1), 1) := by decide +kernel
theorem dX10_steps_16 : decode cX10_steps 16 = .ok (.ireturn, 1) := by decide +kernel
theorem dX10_steps_17 : decode cX10_steps 17 = .ok (.aload_n 0, 1) := by decide +kernel
theorem dX10_steps_18 : decode cX10_steps 18 = .ok (.dup, 1) := by decide +kernel
theorem dX10_steps_19 : decode cX10_steps 19 = .ok (.getfield 377, 3) := by decide +kernel
theorem dX10_steps_22 : decode cX10_steps 22 = .ok (.iconst 1, 1) := by decide +kernel
theorem dX10_steps_23 : decode cX10_steps 23 = .ok (.iadd, 1) := by decide +kernel
theorem dX10_steps_24 : decode cX10_steps 24 = .ok (.putfield 377, 3) := by decide +kernel
theorem dX10_steps_27 : decode cX10_steps 27 = .ok (.aload_n 0, 1) := by decide +kernel
theorem dX10_steps_28 : decode cX10_steps 28 = .ok (.iconst 0, 1) := by decide +kernel
theorem dX10_steps_29 : decode cX10_steps 29 = .ok (.putfield 362, 3) := by decide +kernel
theorem dX10_steps_32 : decode cX10_steps 32 = .ok (.aload_n 0, 1) := by decide +kernel
theorem dX10_steps_33 : decode cX10_steps 33 = .ok (.getfield 43, 3) := by decide +kernel
theorem dX10_steps_36 : decode cX10_steps 36 = .ok (.iload_n 1, 1) := by decide +kernel
theorem dX10_steps_37 : decode cX10_steps 37 = .ok (.iload_n 2, 1) := by decide +kernel
theorem dX10_steps_38 : decode cX10_steps 38 = .ok (.iadd, 1) := by decide +kernel
theorem dX10_steps_39 : decode cX10_steps 39 = .ok (.iaload, 1) := by decide +kernel
theorem dX10_steps_40 : decode cX10_steps 40 = .ok (.istore 4, 2) := by decide +kernel
theorem dX10_steps_42 : decode cX10_steps 42 = .ok (.aload_n 0, 1) := by decide +kernel
theorem dX10_steps_43 : decode cX10_steps 43 = .ok (.getfield 7, 3) := by decide +kernel
theorem dX10_steps_46 : decode cX10_steps 46 = .ok (.sipush 241, 3) := by decide +kernel
theorem dX10_steps_49 : decode cX10_steps 49 = .ok (.iload 4, 2) := by decide +kernel
theorem dX10_steps_51 : decode cX10_steps 51 = .ok (.iadd, 1) := by decide +kernel
theorem dX10_steps_52 : decode cX10_steps 52 = .ok (.iaload, 1) := by decide +kernel
theorem dX10_steps_53 : decode cX10_steps 53 = .ok (.ifCond .le 10, 3) := by decide +kernel
theorem dX10_steps_56 : decode cX10_steps 56 = .ok (.aload_n 0, 1) := by decide +kernel
theorem dX10_steps_57 : decode cX10_steps 57 = .ok (.iload 4, 2) := by decide +kernel
theorem dX10_steps_59 : decode cX10_steps 59 = .ok (.iload_n 3, 1) := by decide +kernel
theorem dX10_steps_60 : decode cX10_steps 60 = .ok (.invokevirtual 380, 3) := by decide +kernel
theorem dX10_steps_63 : decode cX10_steps 63 = .ok (.aload_n 0, 1) := by decide +kernel
theorem dX10_steps_64 : decode cX10_steps 64 = .ok (.getfield 362, 3) := by decide +kernel
theorem dX10_steps_67 : decode cX10_steps 67 = .ok (.ifCond .eq 5, 3) := by decide +kernel
theorem dX10_steps_70 : decode cX10_steps 70 = .ok (.iconst (-1), 1) := by decide +kernel
theorem dX10_steps_71 : decode cX10_steps 71 = .ok (.ireturn, 1) := by decide +kernel
theorem dX10_steps_72 : decode cX10_steps 72 = .ok (.aload_n 0, 1) := by decide +kernel
theorem dX10_steps_73 : decode cX10_steps 73 = .ok (.getfield 31, 3) := by decide +kernel
theorem dX10_steps_76 : decode cX10_steps 76 = .ok (.iload_n 1, 1) := by decide +kernel
theorem dX10_steps_77 : decode cX10_steps 77 = .ok (.iload_n 2, 1) := by decide +kernel
theorem dX10_steps_78 : decode cX10_steps 78 = .ok (.iadd, 1) := by decide +kernel
theorem dX10_steps_79 : decode cX10_steps 79 = .ok (.iaload, 1) := by decide +kernel
theorem dX10_steps_80 : decode cX10_steps 80 = .ok (.tableswitch 114 0 6 #[44, 66, 91, 114, 114, 101, 101], 44) := by decide +kernel
theorem dX10_steps_124 : decode cX10_steps 124 = .ok (.aload_n 0, 1) := by decide +kernel
theorem dX10_steps_125 : decode cX10_steps 125 = .ok (.aload_n 0, 1) := by decide +kernel
theorem dX10_steps_126 : decode cX10_steps 126 = .ok (.getfield 7, 3) := by decide +kernel
theorem dX10_steps_129 : decode cX10_steps 129 = .ok (.sipush 201, 3) := by decide +kernel
theorem dX10_steps_132 : decode cX10_steps 132 = .ok (.iload 4, 2) := by decide +kernel
theorem dX10_steps_134 : decode cX10_steps 134 = .ok (.iadd, 1) := by decide +kernel
theorem dX10_steps_135 : decode cX10_steps 135 = .ok (.iaload, 1) := by decide +kernel
theorem dX10_steps_136 : decode cX10_steps 136 = .ok (.aload_n 0, 1) := by decide +kernel
theorem dX10_steps_137 : decode cX10_steps 137 = .ok (.getfield 374, 3) := by decide +kernel
theorem dX10_steps_140 : decode cX10_steps 140 = .ok (.iload_n 3, 1) := by decide +kernel
theorem dX10_steps_141 : decode cX10_steps 141 = .ok (.invokevirtual 384, 3) := by decide +kernel
theorem dX10_steps_144 : decode cX10_steps 144 = .ok (.iconst 0, 1) := by decide +kernel
theorem dX10_steps_145 : decode cX10_steps 145 = .ok (.ireturn, 1) := by decide +kernel
theorem dX10_steps_146 : decode cX10_steps 146 = .ok (.aload_n 0, 1) := by decide +kernel
theorem dX10_steps_147 : decode cX10_steps 147 = .ok (.getfield 107, 3) := by decide +kernel
theorem dX10_steps_150 : decode cX10_steps 150 = .ok (.aload_n 0, 1) := by decide +kernel
theorem dX10_steps_151 : decode cX10_steps 151 = .ok (.getfield 388, 3) := by decide +kernel
theorem dX10_steps_154 : decode cX10_steps 154 = .ok (.aload_n 0, 1) := by decide +kernel
theorem dX10_steps_155 : decode cX10_steps 155 = .ok (.getfield 374, 3) := by decide +kernel
theorem dX10_steps_158 : decode cX10_steps 158 = .ok (.iastore, 1) := by decide +kernel
theorem dX10_steps_159 : decode cX10_steps 159 = .ok (.aload_n 0, 1) := by decide +kernel
theorem dX10_steps_160 : decode cX10_steps 160 = .ok (.dup, 1) := by decide +kernel
theorem dX10_steps_161 : decode cX10_steps 161 = .ok (.getfield 388, 3) := by decide +kernel
theorem dX10_steps_164 : decode cX10_steps 164 = .ok (.iconst 1, 1) := by decide +kernel
theorem dX10_steps_165 : decode cX10_steps 165 = .ok (.iadd, 1) := by decide +kernel
theorem dX10_steps_166 : decode cX10_steps 166 = .ok (.putfield 388, 3) := by decide +kernel
theorem dX10_steps_169 : decode cX10_steps 169 = .ok (.iconst 0, 1) := by decide +kernel
theorem dX10_steps_170 : decode cX10_steps 170 = .ok (.ireturn, 1) := by decide +kernel
theorem dX10_steps_171 : decode cX10_steps 171 = .ok (.aload_n 0, 1) := by decide +kernel
theorem dX10_steps_172 : decode cX10_steps 172 = .ok (.aload_n 0, 1) := by decide +kernel
theorem dX10_steps_173 : decode cX10_steps 173 = .ok (.getfield 374, 3) := by decide +kernel
theorem dX10_steps_176 : decode cX10_steps 176 = .ok (.putfield 391, 3) := by decide +kernel
theorem dX10_steps_179 : decode cX10_steps 179 = .ok (.iconst 0, 1) := by decide +kernel
theorem dX10_steps_180 : decode cX10_steps 180 = .ok (.ireturn, 1) := by decide +kernel
theorem dX10_steps_181 : decode cX10_steps 181 = .ok (.aload_n 0, 1) := by decide +kernel
theorem dX10_steps_182 : decode cX10_steps 182 = .ok (.getfield 374, 3) := by decide +kernel
theorem dX10_steps_185 : decode cX10_steps 185 = .ok (.ifCond .eq 7, 3) := by decide +kernel
theorem dX10_steps_188 : decode cX10_steps 188 = .ok (.iconst 0, 1) := by decide +kernel
theorem dX10_steps_189 : decode cX10_steps 189 = .ok (.goto 4, 3) := by decide +kernel
theorem dX10_steps_192 : decode cX10_steps 192 = .ok (.iconst 1, 1) := by decide +kernel
theorem dX10_steps_193 : decode cX10_steps 193 = .ok (.ireturn, 1) := by decide +kernel
theorem dX10_steps_194 : decode cX10_steps 194 = .ok (.iconst 0, 1) := by decide +kernel
theorem dX10_steps_195 : decode cX10_steps 195 = .ok (.ireturn, 1) := by decide +kernel
set_option maxHeartbeats 4000000 in
set_option maxRecDepth 10000 in
theorem vX10_steps_0 {l : Launch} {M : sl_M} {Q : sl_R} {x1 x2 x3 : Int} (H : sl_RM M → sl_rg x1 → sl_rg x2 → sl_rg x3 → ((M 1 0 55 ≠ 400) → (sl_rg (M 1 0 55 + 1)) ∧ (∀ M3, M3 = sl_wr M 1 0 55 (M 1 0 55 + 1) → (∀ M4, M4 = sl_wr M3 1 0 59 0 → (0 ≤ x1 + x2 ∧ x1 + x2 < 82) ∧ (0 ≤ 241 + (M4 1 21 (x1 + x2)) ∧ 241 + (M4 1 21 (x1 + x2)) < 990) ∧ ((M4 1 1 (241 + (M4 1 21 (x1 + x2))) ≤ 0) → sl_At l mX10_steps 63 [(0, vR 1 0), (1, vI x1), (2, vI x2), (3, vI x3), (4, vI (M4 1 21 (x1 + x2)))] [] M4 Q) ∧ ((¬ (M4 1 1 (241 + (M4 1 21 (x1 + x2))) ≤ 0)) → sl_RV l mX10_works [vR 1 0, vI (M4 1 21 (x1 + x2)), vI x3] M4 (fun M8 => sl_At l mX10_steps 63 [(0, vR 1 0), (1, vI x1), (2, vI x2), (3, vI x3), (4, vI (M4 1 21 (x1 + x2)))] [] M8 Q))))) ∧ ((¬ (M 1 0 55 ≠ 400)) → (∀ M9, M9 = sl_wr M 1 0 59 4 → Q (some (vI (-1))) M9))) : sl_At l mX10_steps 0 [(0, vR 1 0), (1, vI x1), (2, vI x2), (3, vI x3)] [] M Q := by
  refine sl_At.in (fun hM hls => ?_)
  have g1 : sl_rg x1 := hls _ (List.mem_of_getElem? (i := 1) rfl)
  have g2 : sl_rg x2 := hls _ (List.mem_of_getElem? (i := 2) rfl)
  have g3 : sl_rg x3 := hls _ (List.mem_of_getElem? (i := 3) rfl)
  have H := H hM g1 g2 g3
  refine r_aload_n (k := 0) rfl rfl dX10_steps_0 ?_
  refine r_gI (k := 55) (kz := 55) rfl ckX10 rfl rfl (by decide) rfl rfl fl_X10_377 dX10_steps_1 ?_
  refine r_sipush dX10_steps_4 (by decide) ?_
  refine r_icmp_ne (tgt := 17) (hM _ _ _) ⟨by decide, by decide⟩ dX10_steps_7 (by decide) (fun h1 => ?_) (fun h1 => ?_)
  · have H := H.1 h1
    refine r_aload_n (k := 0) rfl rfl dX10_steps_17 ?_
    refine r_dup rfl dX10_steps_18 ?_
    refine r_gI (k := 55) (kz := 55) rfl ckX10 rfl rfl (by decide) rfl rfl fl_X10_377 dX10_steps_19 ?_
    refine r_iconst dX10_steps_22 ?_
    refine r_iadd dX10_steps_23 ?_
    obtain ⟨c2, H⟩ := H
    refine r_pI (k := 55) (kz := 55) rfl ckX10 rfl rfl (by decide) rfl rfl rfl rfl fl_X10_377 c2 dX10_steps_24 ?_
    refine r_mm (fun M3 e3 => ?_)
    have H := H M3 e3
    have hM3 : sl_RM M3 := by rw [e3]; exact sl_wr_RM hM c2
    refine r_aload_n (k := 0) rfl rfl dX10_steps_27 ?_
    refine r_iconst dX10_steps_28 ?_
    refine r_pI (k := 59) (kz := 59) rfl ckX10 rfl rfl (by decide) rfl rfl rfl rfl fl_X10_362 ⟨by decide, by decide⟩ dX10_steps_29 ?_
    refine r_mm (fun M4 e4 => ?_)
    have H := H M4 e4
    have hM4 : sl_RM M4 := by rw [e4]; exact sl_wr_RM hM3 ⟨by decide, by decide⟩
    refine r_aload_n (k := 0) rfl rfl dX10_steps_32 ?_
    refine r_getR (k := 20) (o' := 1) (i' := 21) ckX10 rfl rfl (by decide) rfl rfl rfl fl_X10_43 dX10_steps_33 ?_
    refine r_iload_n (k := 1) rfl rfl dX10_steps_36 ?_
    refine r_iload_n (k := 2) rfl rfl dX10_steps_37 ?_
    refine r_iadd dX10_steps_38 ?_
    obtain ⟨c5, H⟩ := H
    refine r_iald rfl rfl rfl c5 dX10_steps_39 ?_
    refine r_istore (ls' := [(4, vI (M4 1 21 (x1 + x2))), (0, vR 1 0), (1, vI x1), (2, vI x2), (3, vI x3)]) (hM4 _ _ _) (by decide) rfl dX10_steps_40 ?_
    refine r_aload_n (k := 1) rfl rfl dX10_steps_42 ?_
    refine r_getR (k := 0) (o' := 1) (i' := 1) ckX10 rfl rfl (by decide) rfl rfl rfl fl_X10_7 dX10_steps_43 ?_
    refine r_sipush dX10_steps_46 (by decide) ?_
    refine r_iload (k := 0) rfl dX10_steps_49 ?_
    refine r_iadd dX10_steps_51 ?_
    obtain ⟨c6, H⟩ := H
    refine r_iald rfl rfl rfl c6 dX10_steps_52 ?_
    refine r_if_le (tgt := 63) (hM4 _ _ _) dX10_steps_53 (by decide) (fun h7 => ?_) (fun h7 => ?_)
    · have H := H.1 h7
      exact sl_At.sub [1, 2, 3, 4, 0] rfl H
    · have H := H.2 h7
      refine r_aload_n (k := 1) rfl rfl dX10_steps_56 ?_
      refine r_iload (k := 0) rfl dX10_steps_57 ?_
      refine r_iload_n (k := 4) rfl rfl dX10_steps_59 ?_
      refine r_callV (g := mX10_works) ckX10 rfl rfl rfl rfl mkX10_works mvX10_works ml_X10_380 ⟨by decide, by decide⟩ rfl (Nat.le_of_ble_eq_true rfl) rfl (ok_i (hM4 _ _ _) (ok_i g3 ok_n)) dX10_steps_60 (sl_afterV (sl_RV.mono (fun M8 hM8 H => ?_) H))
      exact sl_At.sub [1, 2, 3, 4, 0] rfl H
  · have H := H.2 h1
    refine r_aload_n (k := 0) rfl rfl dX10_steps_10 ?_
    refine r_iconst dX10_steps_11 ?_
    refine r_pI (k := 59) (kz := 59) rfl ckX10 rfl rfl (by decide) rfl rfl rfl rfl fl_X10_362 ⟨by decide, by decide⟩ dX10_steps_12 ?_
    refine r_mm (fun M9 e9 => ?_)
    have H := H M9 e9
    have hM9 : sl_RM M9 := by rw [e9]; exact sl_wr_RM hM ⟨by decide, by decide⟩
    refine r_iconst dX10_steps_15 ?_
    refine r_iret rfl ⟨by decide, by decide⟩ dX10_steps_16 ?_
    exact H
set_option maxHeartbeats 4000000 in
set_option maxRecDepth 10000 in
theorem vX10_steps_63 {l : Launch} {M : sl_M} {Q : sl_R} {x1 x2 x3 x4 : Int} (H : sl_RM M → sl_rg x1 → sl_rg x2 → sl_rg x3 → sl_rg x4 → ((M 1 0 59 = 0) → (0 ≤ x1 + x2 ∧ x1 + x2 < 82) ∧ ((M 1 17 (x1 + x2) = 0) → (0 ≤ 201 + x4 ∧ 201 + x4 < 990) ∧ sl_RV l mX10_sets [vR 1 0, vI (M 1 1 (201 + x4)), vI (M 1 0 60), vI x3] M (fun M4 => Q (some (vI 0)) M4)) ∧ ((M 1 17 (x1 + x2) = 1) → (0 ≤ M 1 0 56 ∧ M 1 0 56 < 400) ∧ (∀ M6, M6 = sl_wr M 1 58 (M 1 0 56) (M 1 0 60) → (sl_rg (M6 1 0 56 + 1)) ∧ (∀ M8, M8 = sl_wr M6 1 0 56 (M6 1 0 56 + 1) → Q (some (vI 0)) M8))) ∧ ((M 1 17 (x1 + x2) = 2) → (∀ M9, M9 = sl_wr M 1 0 54 (M 1 0 60) → Q (some (vI 0)) M9)) ∧ ((M 1 17 (x1 + x2) = 5 ∨ M 1 17 (x1 + x2) = 6) → Q (some (vI (if M 1 0 60 = 0 then 1 else 0))) M) ∧ ((¬ (M 1 17 (x1 + x2) = 0) ∧ ¬ (M 1 17 (x1 + x2) = 1) ∧ ¬ (M 1 17 (x1 + x2) = 2) ∧ ¬ (M 1 17 (x1 + x2) = 5) ∧ ¬ (M 1 17 (x1 + x2) = 6)) → Q (some (vI 0)) M)) ∧ ((¬ (M 1 0 59 = 0)) → Q (some (vI (-1))) M)) : sl_At l mX10_steps 63 [(0, vR 1 0), (1, vI x1), (2, vI x2), (3, vI x3), (4, vI x4)] [] M Q := by
  refine sl_At.in (fun hM hls => ?_)
  have g1 : sl_rg x1 := hls _ (List.mem_of_getElem? (i := 1) rfl)
  have g2 : sl_rg x2 := hls _ (List.mem_of_getElem? (i := 2) rfl)
  have g3 : sl_rg x3 := hls _ (List.mem_of_getElem? (i := 3) rfl)
  have g4 : sl_rg x4 := hls _ (List.mem_of_getElem? (i := 4) rfl)
  have H := H hM g1 g2 g3 g4
  refine r_aload_n (k := 0) rfl rfl dX10_steps_63 ?_
  refine r_gI (k := 59) (kz := 59) rfl ckX10 rfl rfl (by decide) rfl rfl fl_X10_362 dX10_steps_64 ?_
  refine r_if_eq (tgt := 72) (hM _ _ _) dX10_steps_67 (by decide) (fun h1 => ?_) (fun h1 => ?_)
  · have H := H.1 h1
    refine r_aload_n (k := 0) rfl rfl dX10_steps_72 ?_
    refine r_getR (k := 16) (o' := 1) (i' := 17) ckX10 rfl rfl (by decide) rfl rfl rfl fl_X10_31 dX10_steps_73 ?_
    refine r_iload_n (k := 1) rfl rfl dX10_steps_76 ?_
    refine r_iload_n (k := 2) rfl rfl dX10_steps_77 ?_
    refine r_iadd dX10_steps_78 ?_
    obtain ⟨c2, H⟩ := H
    refine r_iald rfl rfl rfl c2 dX10_steps_79 ?_
    by_cases h11 : M 1 17 (x1 + x2) = 0
    · refine r_tsIn (tgt := 124) 0 (hM _ _ _) dX10_steps_80 (by omega) (by decide) rfl (by decide) ?_
      have H := H.1 (by omega)
      refine r_aload_n (k := 0) rfl rfl dX10_steps_124 ?_
      refine r_aload_n (k := 0) rfl rfl dX10_steps_125 ?_
      refine r_getR (k := 0) (o' := 1) (i' := 1) ckX10 rfl rfl (by decide) rfl rfl rfl fl_X10_7 dX10_steps_126 ?_
      refine r_sipush dX10_steps_129 (by decide) ?_
      refine r_iload (k := 4) rfl dX10_steps_132 ?_
      refine r_iadd dX10_steps_134 ?_
      obtain ⟨c3, H⟩ := H
      refine r_iald rfl rfl rfl c3 dX10_steps_135 ?_
      refine r_aload_n (k := 0) rfl rfl dX10_steps_136 ?_
      refine r_gI (k := 60) (kz := 60) rfl ckX10 rfl rfl (by decide) rfl rfl fl_X10_374 dX10_steps_137 ?_
      refine r_iload_n (k := 3) rfl rfl dX10_steps_140 ?_
      refine r_callV (g := mX10_sets) ckX10 rfl rfl rfl rfl mkX10_sets mvX10_sets ml_X10_384 ⟨by decide, by decide⟩ rfl (Nat.le_of_ble_eq_true rfl) rfl (ok_i (hM _ _ _) (ok_i (hM _ _ _) (ok_i g3 ok_n))) dX10_steps_141 (sl_afterV (sl_RV.mono (fun M4 hM4 H => ?_) H))
      refine r_iconst dX10_steps_144 ?_
      refine r_iret rfl ⟨by decide, by decide⟩ dX10_steps_145 ?_
      exact H
    by_cases h12 : M 1 17 (x1 + x2) = 1
    · refine r_tsIn (tgt := 146) 1 (hM _ _ _) dX10_steps_80 (by omega) (by decide) rfl (by decide) ?_
      have H := H.2.1 (by omega)
      refine r_aload_n (k := 0) rfl rfl dX10_steps_146 ?_
      refine r_getR (k := 57) (o' := 1) (i' := 58) ckX10 rfl rfl (by decide) rfl rfl rfl fl_X10_107 dX10_steps_147 ?_
      refine r_aload_n (k := 0) rfl rfl dX10_steps_150 ?_
      refine r_gI (k := 56) (kz := 56) rfl ckX10 rfl rfl (by decide) rfl rfl fl_X10_388 dX10_steps_151 ?_
      refine r_aload_n (k := 0) rfl rfl dX10_steps_154 ?_
      refine r_gI (k := 60) (kz := 60) rfl ckX10 rfl rfl (by decide) rfl rfl fl_X10_374 dX10_steps_155 ?_
      obtain ⟨c5, H⟩ := H
      refine r_iast rfl rfl rfl c5 (hM _ _ _) dX10_steps_158 ?_
      refine r_mm (fun M6 e6 => ?_)
      have H := H M6 e6
      have hM6 : sl_RM M6 := by rw [e6]; exact sl_wr_RM hM (hM _ _ _)
      refine r_aload_n (k := 0) rfl rfl dX10_steps_159 ?_
      refine r_dup rfl dX10_steps_160 ?_
      refine r_gI (k := 56) (kz := 56) rfl ckX10 rfl rfl (by decide) rfl rfl fl_X10_388 dX10_steps_161 ?_
      refine r_iconst dX10_steps_164 ?_
      refine r_iadd dX10_steps_165 ?_
      obtain ⟨c7, H⟩ := H
      refine r_pI (k := 56) (kz := 56) rfl ckX10 rfl rfl (by decide) rfl rfl rfl rfl fl_X10_388 c7 dX10_steps_166 ?_
      refine r_mm (fun M8 e8 => ?_)
      have H := H M8 e8
      have hM8 : sl_RM M8 := by rw [e8]; exact sl_wr_RM hM6 c7
      refine r_iconst dX10_steps_169 ?_
      refine r_iret rfl ⟨by decide, by decide⟩ dX10_steps_170 ?_
      exact H
    by_cases h13 : M 1 17 (x1 + x2) = 2
    · refine r_tsIn (tgt := 171) 2 (hM _ _ _) dX10_steps_80 (by omega) (by decide) rfl (by decide) ?_
      have H := H.2.2.1 (by omega)
      refine r_aload_n (k := 0) rfl rfl dX10_steps_171 ?_
      refine r_aload_n (k := 0) rfl rfl dX10_steps_172 ?_
      refine r_gI (k := 60) (kz := 60) rfl ckX10 rfl rfl (by decide) rfl rfl fl_X10_374 dX10_steps_173 ?_
      refine r_pI (k := 54) (kz := 54) rfl ckX10 rfl rfl (by decide) rfl rfl rfl rfl fl_X10_391 (hM _ _ _) dX10_steps_176 ?_
      refine r_mm (fun M9 e9 => ?_)
      have H := H M9 e9
      have hM9 : sl_RM M9 := by rw [e9]; exact sl_wr_RM hM (hM _ _ _)
      refine r_iconst dX10_steps_179 ?_
      refine r_iret rfl ⟨by decide, by decide⟩ dX10_steps_180 ?_
      exact H
    by_cases h14 : M 1 17 (x1 + x2) = 3
    · refine r_tsIn (tgt := 194) 3 (hM _ _ _) dX10_steps_80 (by omega) (by decide) rfl (by decide) ?_
      have H := H.2.2.2.2 (by omega)
      refine r_iconst dX10_steps_194 ?_
      refine r_iret rfl ⟨by decide, by decide⟩ dX10_steps_195 ?_
      exact H
    by_cases h15 : M 1 17 (x1 + x2) = 4
    · refine r_tsIn (tgt := 194) 4 (hM _ _ _) dX10_steps_80 (by omega) (by decide) rfl (by decide) ?_
      have H := H.2.2.2.2 (by omega)
      refine r_iconst dX10_steps_194 ?_
      refine r_iret rfl ⟨by decide, by decide⟩ dX10_steps_195 ?_
      exact H
    by_cases h16 : M 1 17 (x1 + x2) = 5
    · refine r_tsIn (tgt := 181) 5 (hM _ _ _) dX10_steps_80 (by omega) (by decide) rfl (by decide) ?_
      have H := H.2.2.2.1 (by omega)
      refine r_aload_n (k := 0) rfl rfl dX10_steps_181 ?_
      refine r_gI (k := 60) (kz := 60) rfl ckX10 rfl rfl (by decide) rfl rfl fl_X10_374 dX10_steps_182 ?_
      have J : sl_At l mX10_steps 193 [(0, vR 1 0), (1, vI x1), (2, vI x2), (3, vI x3), (4, vI x4)] [vI (if M 1 0 60 = 0 then 1 else 0)] M Q := by
        refine r_iret rfl rg_b dX10_steps_193 ?_
        exact H
      refine r_if_eq (tgt := 192) (hM _ _ _) dX10_steps_185 (by decide) (fun h10 => ?_) (fun h10 => ?_)
      · refine r_iconst dX10_steps_192 ?_
        rw [if_pos (show M 1 0 60 = 0 by omega)] at J
        exact J
      · refine r_iconst dX10_steps_188 ?_
        refine r_goto (tgt := 193) dX10_steps_189 (by decide) ?_
        rw [if_neg (show ¬ (M 1 0 60 = 0) by omega)] at J
        exact J
    by_cases h17 : M 1 17 (x1 + x2) = 6
    · refine r_tsIn (tgt := 181) 6 (hM _ _ _) dX10_steps_80 (by omega) (by decide) rfl (by decide) ?_
      have H := H.2.2.2.1 (by omega)
      refine r_aload_n (k := 0) rfl rfl dX10_steps_181 ?_
      refine r_gI (k := 60) (kz := 60) rfl ckX10 rfl rfl (by decide) rfl rfl fl_X10_374 dX10_steps_182 ?_
      have J : sl_At l mX10_steps 193 [(0, vR 1 0), (1, vI x1), (2, vI x2), (3, vI x3), (4, vI x4)] [vI (if M 1 0 60 = 0 then 1 else 0)] M Q := by
        refine r_iret rfl rg_b dX10_steps_193 ?_
        exact H
      refine r_if_eq (tgt := 192) (hM _ _ _) dX10_steps_185 (by decide) (fun h10 => ?_) (fun h10 => ?_)
      · refine r_iconst dX10_steps_192 ?_
        rw [if_pos (show M 1 0 60 = 0 by omega)] at J
        exact J
      · refine r_iconst dX10_steps_188 ?_
        refine r_goto (tgt := 193) dX10_steps_189 (by decide) ?_
        rw [if_neg (show ¬ (M 1 0 60 = 0) by omega)] at J
        exact J
    refine r_tsOut (tgt := 194) (hM _ _ _) dX10_steps_80 (by omega) (by decide) ?_
    have H := H.2.2.2.2 (by omega)
    refine r_iconst dX10_steps_194 ?_
    refine r_iret rfl ⟨by decide, by decide⟩ dX10_steps_195 ?_
    exact H
  · have H := H.2 h1
    refine r_iconst dX10_steps_70 ?_
    refine r_iret rfl ⟨by decide, by decide⟩ dX10_steps_71 ?_
    exact H
theorem eX10_steps {l : Launch} {M : sl_M} {Q : sl_R} {x1 x2 x3 : Int} (k : sl_At l mX10_steps 0 [(0, vR 1 0), (1, vI x1), (2, vI x2), (3, vI x3)] [] M Q) : sl_Runs l mX10_steps [vR 1 0, vI x1, vI x2, vI x3] M Q := sl_Runs.of (ls := [(0, vR 1 0), (1, vI x1), (2, vI x2), (3, vI x3)]) rfl rfl (fun _ => rfl) (fun _ => Nat.le_of_ble_eq_true rfl) rfl (k)
theorem dX10_goesThrough_0 : decode cX10_goesThrough 0 = .ok (.aload_n 0, 1) := by decide +kernel
theorem dX10_goesThrough_1 : decode cX10_goesThrough 1 = .ok (.getfield 7, 3) := by decide +kernel
theorem dX10_goesThrough_4 : decode cX10_goesThrough 4 = .ok (.sipush 870, 3) := by decide +kernel
theorem dX10_goesThrough_7 : decode cX10_goesThrough 7 = .ok (.iload_n 1, 1) := by decide +kernel
theorem dX10_goesThrough_8 : decode cX10_goesThrough 8 = .ok (.iadd, 1) := by decide +kernel
theorem dX10_goesThrough_9 : decode cX10_goesThrough 9 = .ok (.iaload, 1) := by decide +kernel
theorem dX10_goesThrough_10 : decode cX10_goesThrough 10 = .ok (.istore_n 2, 1) := by decide +kernel
theorem dX10_goesThrough_11 : decode cX10_goesThrough 11 = .ok (.aload_n 0, 1) := by decide +kernel
theorem dX10_goesThrough_12 : decode cX10_goesThrough 12 = .ok (.iconst 0, 1) := by decide +kernel
theorem dX10_goesThrough_13 : decode cX10_goesThrough 13 = .ok (.putfield 365, 3) := by decide +kernel
theorem dX10_goesThrough_16 : decode cX10_goesThrough 16 = .ok (.iconst 0, 1) := by decide +kernel
theorem dX10_goesThrough_17 : decode cX10_goesThrough 17 = .ok (.istore_n 3, 1) := by decide +kernel
theorem dX10_goesThrough_18 : decode cX10_goesThrough 18 = .ok (.iload_n 3, 1) := by decide +kernel
theorem dX10_goesThrough_19 : decode cX10_goesThrough 19 = .ok (.aload_n 0, 1) := by decide +kernel
theorem dX10_goesThrough_20 : decode cX10_goesThrough 20 = .ok (.getfield 7, 3) := by decide +kernel
theorem dX10_goesThrough_23 : decode cX10_goesThrough 23 = .ok (.sipush 771, 3) := by decide +kernel
theorem dX10_goesThrough_26 : decode cX10_goesThrough 26 = .ok (.iload_n 2, 1) := by decide +kernel
theorem dX10_goesThrough_27 : decode cX10_goesThrough 27 = .ok (.iadd, 1) := by decide +kernel
theorem dX10_goesThrough_28 : decode cX10_goesThrough 28 = .ok (.iaload, 1) := by decide +kernel
theorem dX10_goesThrough_29 : decode cX10_goesThrough 29 = .ok (.bipush 16, 2) := by decide +kernel
theorem dX10_goesThrough_31 : decode cX10_goesThrough 31 = .ok (.irem, 1) := by decide +kernel
theorem dX10_goesThrough_32 : decode cX10_goesThrough 32 = .ok (.if_icmp .ge 57, 3) := by decide +kernel
theorem dX10_goesThrough_35 : decode cX10_goesThrough 35 = .ok (.aload_n 0, 1) := by decide +kernel
theorem dX10_goesThrough_36 : decode cX10_goesThrough 36 = .ok (.aload_n 0, 1) := by decide +kernel
theorem dX10_goesThrough_37 : decode cX10_goesThrough 37 = .ok (.getfield 7, 3) := by decide +kernel
theorem dX10_goesThrough_40 : decode cX10_goesThrough 40 = .ok (.sipush 771, 3) := by decide +kernel
theorem dX10_goesThrough_43 : decode cX10_goesThrough 43 = .ok (.iload_n 2, 1) := by decide +kernel
theorem dX10_goesThrough_44 : decode cX10_goesThrough 44 = .ok (.iadd, 1) := by decide +kernel
theorem dX10_goesThrough_45 : decode cX10_goesThrough 45 = .ok (.iaload, 1) := by decide +kernel
theorem dX10_goesThrough_46 : decode cX10_goesThrough 46 = .ok (.iconst 4, 1) := by decide +kernel
theorem dX10_goesThrough_47 : decode cX10_goesThrough 47 = .ok (.iconst 4, 1) := by decide +kernel
theorem dX10_goesThrough_48 : decode cX10_goesThrough 48 = .ok (.iload_n 3, 1) := by decide +kernel
theorem dX10_goesThrough_49 : decode cX10_goesThrough 49 = .ok (.imul, 1) := by decide +kernel
theorem dX10_goesThrough_50 : decode cX10_goesThrough 50 = .ok (.iadd, 1) := by decide +kernel
theorem dX10_goesThrough_51 : decode cX10_goesThrough 51 = .ok (.ishr, 1) := by decide +kernel
theorem dX10_goesThrough_52 : decode cX10_goesThrough 52 = .ok (.bipush 15, 2) := by decide +kernel
theorem dX10_goesThrough_54 : decode cX10_goesThrough 54 = .ok (.iand, 1) := by decide +kernel
theorem dX10_goesThrough_55 : decode cX10_goesThrough 55 = .ok (.aload_n 0, 1) := by decide +kernel
theorem dX10_goesThrough_56 : decode cX10_goesThrough 56 = .ok (.getfield 101, 3) := by decide +kernel
theorem dX10_goesThrough_59 : decode cX10_goesThrough 59 = .ok (.aload_n 0, 1) := by decide +kernel
theorem dX10_goesThrough_60 : decode cX10_goesThrough 60 = .ok (.getfield 7, 3) := by decide +kernel
theorem dX10_goesThrough_63 : decode cX10_goesThrough 63 = .ok (.sipush 910, 3) := by decide +kernel
theorem dX10_goesThrough_66 : decode cX10_goesThrough 66 = .ok (.iload_n 1, 1) := by decide +kernel
theorem dX10_goesThrough_67 : decode cX10_goesThrough 67 = .ok (.iadd, 1) := by decide +kernel
theorem dX10_goesThrough_68 : decode cX10_goesThrough 68 = .ok (.iaload, 1) := by decide +kernel
theorem dX10_goesThrough_69 : decode cX10_goesThrough 69 = .ok (.iconst 4, 1) := by decide +kernel
theorem dX10_goesThrough_70 : decode cX10_goesThrough 70 = .ok (.iconst 4, 1) := by decide +kernel
theorem dX10_goesThrough_71 : decode cX10_goesThrough 71 = .ok (.iload_n 3, 1) := by decide +kernel
theorem dX10_goesThrough_72 : decode cX10_goesThrough 72 = .ok (.imul, 1) := by decide +kernel
theorem dX10_goesThrough_73 : decode cX10_goesThrough 73 = .ok (.iadd, 1) := by decide +kernel
theorem dX10_goesThrough_74 : decode cX10_goesThrough 74 = .ok (.ishr, 1) := by decide +kernel
theorem dX10_goesThrough_75 : decode cX10_goesThrough 75 = .ok (.bipush 15, 2) := by decide +kernel
theorem dX10_goesThrough_77 : decode cX10_goesThrough 77 = .ok (.iand, 1) := by decide +kernel
theorem dX10_goesThrough_78 : decode cX10_goesThrough 78 = .ok (.iaload, 1) := by decide +kernel
theorem dX10_goesThrough_79 : decode cX10_goesThrough 79 = .ok (.iconst 1, 1) := by decide +kernel
theorem dX10_goesThrough_80 : decode cX10_goesThrough 80 = .ok (.invokevirtual 384, 3) := by decide +kernel
theorem dX10_goesThrough_83 : decode cX10_goesThrough 83 = .ok (.iinc 3 1, 3) := by decide +kernel
theorem dX10_goesThrough_86 : decode cX10_goesThrough 86 = .ok (.goto (-68), 3) := by decide +kernel
theorem dX10_goesThrough_89 : decode cX10_goesThrough 89 = .ok (.aload_n 0, 1) := by decide +kernel
theorem dX10_goesThrough_90 : decode cX10_goesThrough 90 = .ok (.aload_n 0, 1) := by decide +kernel
theorem dX10_goesThrough_91 : decode cX10_goesThrough 91 = .ok (.getfield 7, 3) := by decide +kernel
theorem dX10_goesThrough_94 : decode cX10_goesThrough 94 = .ok (.sipush 762, 3) := by decide +kernel
theorem dX10_goesThrough_97 : decode cX10_goesThrough 97 = .ok (.iload_n 2, 1) := by decide +kernel
theorem dX10_goesThrough_98 : decode cX10_goesThrough 98 = .ok (.iadd, 1) := by decide +kernel
theorem dX10_goesThrough_99 : decode cX10_goesThrough 99 = .ok (.iaload, 1) := by decide +kernel
theorem dX10_goesThrough_100 : decode cX10_goesThrough 100 = .ok (.putfield 246, 3) := by decide +kernel
theorem dX10_goesThrough_103 : decode cX10_goesThrough 103 = .ok (.aload_n 0, 1) := by decide +kernel
theorem dX10_goesThrough_104 : decode cX10_goesThrough 104 = .ok (.aload_n 0, 1) := by decide +kernel
theorem dX10_goesThrough_105 : decode cX10_goesThrough 105 = .ok (.iload_n 2, 1) := by decide +kernel
theorem dX10_goesThrough_106 : decode cX10_goesThrough 106 = .ok (.invokevirtual 344, 3) := by decide +kernel
theorem dX10_goesThrough_109 : decode cX10_goesThrough 109 = .ok (.putfield 249, 3) := by decide +kernel
theorem dX10_goesThrough_112 : decode cX10_goesThrough 112 = .ok (.aload_n 0, 1) := by decide +kernel
theorem dX10_goesThrough_113 : decode cX10_goesThrough 113 = .ok (.getfield 246, 3) := by decide +kernel
theorem dX10_goesThrough_116 : decode cX10_goesThrough 116 = .ok (.istore_n 3, 1) := by decide +kernel
theorem dX10_goesThrough_117 : decode cX10_goesThrough 117 = .ok (.aload_n 0, 1) := by decide +kernel
theorem dX10_goesThrough_118 : decode cX10_goesThrough 118 = .ok (.bipush 41, 2) := by decide +kernel
theorem dX10_goesThrough_120 : decode cX10_goesThrough 120 = .ok (.iload_n 3, 1) := by decide +kernel
theorem dX10_goesThrough_121 : decode cX10_goesThrough 121 = .ok (.iconst 1, 1) := by decide +kernel
theorem dX10_goesThrough_122 : decode cX10_goesThrough 122 = .ok (.invokevirtual 394, 3) := by decide +kernel
theorem dX10_goesThrough_125 : decode cX10_goesThrough 125 = .ok (.istore 4, 2) := by decide +kernel
theorem dX10_goesThrough_127 : decode cX10_goesThrough 127 = .ok (.iload 4, 2) := by decide +kernel
theorem dX10_goesThrough_129 : decode cX10_goesThrough 129 = .ok (.ifCond .ge 5, 3) := by decide +kernel
theorem dX10_goesThrough_132 : decode cX10_goesThrough 132 = .ok (.iconst 0, 1) := by decide +kernel
theorem dX10_goesThrough_133 : decode cX10_goesThrough 133 = .ok (.ireturn, 1) := by decide +kernel
theorem dX10_goesThrough_134 : decode cX10_goesThrough 134 = .ok (.iconst 4, 1) := by decide +kernel
theorem dX10_goesThrough_135 : decode cX10_goesThrough 135 = .ok (.bipush 41, 2) := by decide +kernel
theorem dX10_goesThrough_137 : decode cX10_goesThrough 137 = .ok (.iload_n 3, 1) := by decide +kernel
theorem dX10_goesThrough_138 : decode cX10_goesThrough 138 = .ok (.iadd, 1) := by decide +kernel
theorem dX10_goesThrough_139 : decode cX10_goesThrough 139 = .ok (.imul, 1) := by decide +kernel
theorem dX10_goesThrough_140 : decode cX10_goesThrough 140 = .ok (.iload 4, 2) := by decide +kernel
theorem dX10_goesThrough_142 : decode cX10_goesThrough 142 = .ok (.iadd, 1) := by decide +kernel
theorem dX10_goesThrough_143 : decode cX10_goesThrough 143 = .ok (.istore 5, 2) := by decide +kernel
theorem dX10_goesThrough_145 : decode cX10_goesThrough 145 = .ok (.aload_n 0, 1) := by decide +kernel
theorem dX10_goesThrough_146 : decode cX10_goesThrough 146 = .ok (.bipush 41, 2) := by decide +kernel
theorem dX10_goesThrough_148 : decode cX10_goesThrough 148 = .ok (.iload 5, 2) := by decide +kernel
theorem dX10_goesThrough_150 : decode cX10_goesThrough 150 = .ok (.invokevirtual 255, 3) := by decide +kernel
theorem dX10_goesThrough_153 : decode cX10_goesThrough 153 = .ok (.istore 6, 2) := by decide +kernel
theorem dX10_goesThrough_155 : decode cX10_goesThrough 155 = .ok (.iload 6, 2) := by decide +kernel
theorem dX10_goesThrough_157 : decode cX10_goesThrough 157 = .ok (.ifCond .eq 6, 3) := by decide +kernel
theorem dX10_goesThrough_160 : decode cX10_goesThrough 160 = .ok (.iload 6, 2) := by decide +kernel
theorem dX10_goesThrough_162 : decode cX10_goesThrough 162 = .ok (.ireturn, 1) := by decide +kernel
theorem dX10_goesThrough_163 : decode cX10_goesThrough 163 = .ok (.aload_n 0, 1) := by decide +kernel
theorem dX10_goesThrough_164 : decode cX10_goesThrough 164 = .ok (.getfield 58, 3) := by decide +kernel
theorem dX10_goesThrough_167 : decode cX10_goesThrough 167 = .ok (.iload 5, 2) := by decide +kernel
theorem dX10_goesThrough_169 : decode cX10_goesThrough 169 = .ok (.iaload, 1) := by decide +kernel
theorem dX10_goesThrough_170 : decode cX10_goesThrough 170 = .ok (.istore_n 3, 1) := by decide +kernel
theorem dX10_goesThrough_171 : decode cX10_goesThrough 171 = .ok (.goto (-54), 3) := by decide +kernel
set_option maxHeartbeats 4000000 in
set_option maxRecDepth 10000 in
theorem vX10_goesThrough_0 {l : Launch} {M : sl_M} {Q : sl_R} {x1 : Int} (H : sl_RM M → sl_rg x1 → (0 ≤ 870 + x1 ∧ 870 + x1 < 990) ∧ (∀ M2, M2 = sl_wr M 1 0 53 0 → sl_At l mX10_goesThrough 18 [(0, vR 1 0), (1, vI x1), (2, vI (M 1 1 (870 + x1))), (3, vI 0)] [] M2 Q)) : sl_At l mX10_goesThrough 0 [(0, vR 1 0), (1, vI x1)] [] M Q := by
  refine sl_At.in (fun hM hls => ?_)
  have g1 : sl_rg x1 := hls _ (List.mem_of_getElem? (i := 1) rfl)
  have H := H hM g1
  refine r_aload_n (k := 0) rfl rfl dX10_goesThrough_0 ?_
  refine r_getR (k := 0) (o' := 1) (i' := 1) ckX10 rfl rfl (by decide) rfl rfl rfl fl_X10_7 dX10_goesThrough_1 ?_
  refine r_sipush dX10_goesThrough_4 (by decide) ?_
  refine r_iload_n (k := 1) rfl rfl dX10_goesThrough_7 ?_
  refine r_iadd dX10_goesThrough_8 ?_
  obtain ⟨c1, H⟩ := H
  refine r_iald rfl rfl rfl c1 dX10_goesThrough_9 ?_
  refine r_istore_n (ls' := [(2, vI (M 1 1 (870 + x1))), (0, vR 1 0), (1, vI x1)]) (hM _ _ _) rfl (by decide) rfl dX10_goesThrough_10 ?_
  refine r_aload_n (k := 1) rfl rfl dX10_goesThrough_11 ?_
  refine r_iconst dX10_goesThrough_12 ?_
  refine r_pI (k := 53) (kz := 53) rfl ckX10 rfl rfl (by decide) rfl rfl rfl rfl fl_X10_365 ⟨by decide, by decide⟩ dX10_goesThrough_13 ?_
  refine r_mm (fun M2 e2 => ?_)
  have H := H M2 e2
  have hM2 : sl_RM M2 := by rw [e2]; exact sl_wr_RM hM ⟨by decide, by decide⟩
  refine r_iconst dX10_goesThrough_16 ?_
  refine r_istore_n (ls' := [(3, vI 0), (2, vI (M 1 1 (870 + x1))), (0, vR 1 0), (1, vI x1)]) ⟨by decide, by decide⟩ rfl (by decide) rfl dX10_goesThrough_17 ?_
  exact sl_At.sub [2, 3, 1, 0] rfl H
set_option maxHeartbeats 4000000 in
set_option maxRecDepth 10000 in
theorem vX10_goesThrough_18 {l : Launch} {M : sl_M} {Q : sl_R} {x1 x2 x3 : Int} (H : sl_RM M → sl_rg x1 → sl_rg x2 → sl_rg x3 → (0 ≤ 771 + x2 ∧ 771 + x2 < 990) ∧ ((irem (M 1 1 (771 + x2)) 16 ≤ x3) → (0 ≤ 762 + x2 ∧ 762 + x2 < 990) ∧ (∀ M4, M4 = sl_wr M 1 0 31 (M 1 1 (762 + x2)) → sl_RI l mX10_endOf [vR 1 0, vI x2] M4 (fun y6 M5 => (∀ M7, M7 = sl_wr M5 1 0 32 y6 → sl_At l mX10_goesThrough 117 [(0, vR 1 0), (3, vI (M7 1 0 31))] [] M7 Q)))) ∧ ((¬ (irem (M 1 1 (771 + x2)) 16 ≤ x3)) → (0 ≤ 910 + x1 ∧ 910 + x1 < 990) ∧ (0 ≤ iand (ishr (M 1 1 (910 + x1)) (4 + (4 * x3))) 15 ∧ iand (ishr (M 1 1 (910 + x1)) (4 + (4 * x3))) 15 < 8) ∧ sl_RV l mX10_sets [vR 1 0, vI (iand (ishr (M 1 1 (771 + x2)) (4 + (4 * x3))) 15), vI (M 1 51 (iand (ishr (M 1 1 (910 + x1)) (4 + (4 * x3))) 15)), vI 1] M (fun M10 => (sl_rg (x3 + 1)) ∧ sl_At l mX10_goesThrough 18 [(0, vR 1 0), (1, vI x1), (2, vI x2), (3, vI (x3 + 1))] [] M10 Q))) : sl_At l mX10_goesThrough 18 [(0, vR 1 0), (1, vI x1), (2, vI x2), (3, vI x3)] [] M Q := by
  refine sl_At.in (fun hM hls => ?_)
  have g1 : sl_rg x1 := hls _ (List.mem_of_getElem? (i := 1) rfl)
  have g2 : sl_rg x2 := hls _ (List.mem_of_getElem? (i := 2) rfl)
  have g3 : sl_rg x3 := hls _ (List.mem_of_getElem? (i := 3) rfl)
  have H := H hM g1 g2 g3
  refine r_iload_n (k := 3) rfl rfl dX10_goesThrough_18 ?_
  refine r_aload_n (k := 0) rfl rfl dX10_goesThrough_19 ?_
  refine r_getR (k := 0) (o' := 1) (i' := 1) ckX10 rfl rfl (by decide) rfl rfl rfl fl_X10_7 dX10_goesThrough_20 ?_
  refine r_sipush dX10_goesThrough_23 (by decide) ?_
  refine r_iload_n (k := 2) rfl rfl dX10_goesThrough_26 ?_
  refine r_iadd dX10_goesThrough_27 ?_
  obtain ⟨c1, H⟩ := H
  refine r_iald rfl rfl rfl c1 dX10_goesThrough_28 ?_
  refine r_bipush dX10_goesThrough_29 (by decide) ?_
  refine r_irem ⟨by decide, by decide⟩ (by decide) dX10_goesThrough_31 ?_
  refine r_icmp_ge (tgt := 89) g3 (rg_irem _ _) dX10_goesThrough_32 (by decide) (fun h2 => ?_) (fun h2 => ?_)
  · have H := H.1 h2
    refine r_aload_n (k := 0) rfl rfl dX10_goesThrough_89 ?_
    refine r_aload_n (k := 0) rfl rfl dX10_goesThrough_90 ?_
    refine r_getR (k := 0) (o' := 1) (i' := 1) ckX10 rfl rfl (by decide) rfl rfl rfl fl_X10_7 dX10_goesThrough_91 ?_
    refine r_sipush dX10_goesThrough_94 (by decide) ?_
    refine r_iload_n (k := 2) rfl rfl dX10_goesThrough_97 ?_
    refine r_iadd dX10_goesThrough_98 ?_
    obtain ⟨c3, H⟩ := H
    refine r_iald rfl rfl rfl c3 dX10_goesThrough_99 ?_
    refine r_pI (k := 31) (kz := 31) rfl ckX10 rfl rfl (by decide) rfl rfl rfl rfl fl_X10_246 (hM _ _ _) dX10_goesThrough_100 ?_
    refine r_mm (fun M4 e4 => ?_)
    have H := H M4 e4
    have hM4 : sl_RM M4 := by rw [e4]; exact sl_wr_RM hM (hM _ _ _)
    refine r_aload_n (k := 0) rfl rfl dX10_goesThrough_103 ?_
    refine r_aload_n (k := 0) rfl rfl dX10_goesThrough_104 ?_
    refine r_iload_n (k := 2) rfl rfl dX10_goesThrough_105 ?_
    refine r_callV (g := mX10_endOf) ckX10 rfl rfl rfl rfl mkX10_endOf mvX10_endOf ml_X10_344 ⟨by decide, by decide⟩ rfl (Nat.le_of_ble_eq_true rfl) rfl (ok_i g2 ok_n) dX10_goesThrough_106 (sl_afterI (sl_RI.mono (fun y6 M5 gy6 hM5 H => ?_) H))
    refine r_pI (k := 32) (kz := 32) rfl ckX10 rfl rfl (by decide) rfl rfl rfl rfl fl_X10_249 gy6 dX10_goesThrough_109 ?_
    refine r_mm (fun M7 e7 => ?_)
    have H := H M7 e7
    have hM7 : sl_RM M7 := by rw [e7]; exact sl_wr_RM hM5 gy6
    refine r_aload_n (k := 0) rfl rfl dX10_goesThrough_112 ?_
    refine r_gI (k := 31) (kz := 31) rfl ckX10 rfl rfl (by decide) rfl rfl fl_X10_246 dX10_goesThrough_113 ?_
    refine r_istore_n (ls' := [(3, vI (M7 1 0 31)), (0, vR 1 0), (1, vI x1), (2, vI x2)]) (hM7 _ _ _) rfl (by decide) rfl dX10_goesThrough_116 ?_
    exact sl_At.sub [1, 0] rfl H
  · have H := H.2 h2
    refine r_aload_n (k := 0) rfl rfl dX10_goesThrough_35 ?_
    refine r_aload_n (k := 0) rfl rfl dX10_goesThrough_36 ?_
    refine r_getR (k := 0) (o' := 1) (i' := 1) ckX10 rfl rfl (by decide) rfl rfl rfl fl_X10_7 dX10_goesThrough_37 ?_
    refine r_sipush dX10_goesThrough_40 (by decide) ?_
    refine r_iload_n (k := 2) rfl rfl dX10_goesThrough_43 ?_
    refine r_iadd dX10_goesThrough_44 ?_
    refine r_iald rfl rfl rfl c1 dX10_goesThrough_45 ?_
    refine r_iconst dX10_goesThrough_46 ?_
    refine r_iconst dX10_goesThrough_47 ?_
    refine r_iload_n (k := 3) rfl rfl dX10_goesThrough_48 ?_
    refine r_imul dX10_goesThrough_49 ?_
    refine r_iadd dX10_goesThrough_50 ?_
    refine r_ishr dX10_goesThrough_51 ?_
    refine r_bipush dX10_goesThrough_52 (by decide) ?_
    refine r_iand dX10_goesThrough_54 ?_
    refine r_aload_n (k := 0) rfl rfl dX10_goesThrough_55 ?_
    refine r_getR (k := 50) (o' := 1) (i' := 51) ckX10 rfl rfl (by decide) rfl rfl rfl fl_X10_101 dX10_goesThrough_56 ?_
    refine r_aload_n (k := 0) rfl rfl dX10_goesThrough_59 ?_
    refine r_getR (k := 0) (o' := 1) (i' := 1) ckX10 rfl rfl (by decide) rfl rfl rfl fl_X10_7 dX10_goesThrough_60 ?_
    refine r_sipush dX10_goesThrough_63 (by decide) ?_
    refine r_iload_n (k := 1) rfl rfl dX10_goesThrough_66 ?_
    refine r_iadd dX10_goesThrough_67 ?_
    obtain ⟨c8, H⟩ := H
    refine r_iald rfl rfl rfl c8 dX10_goesThrough_68 ?_
    refine r_iconst dX10_goesThrough_69 ?_
    refine r_iconst dX10_goesThrough_70 ?_
    refine r_iload_n (k := 3) rfl rfl dX10_goesThrough_71 ?_
    refine r_imul dX10_goesThrough_72 ?_
    refine r_iadd dX10_goesThrough_73 ?_
    refine r_ishr dX10_goesThrough_74 ?_
    refine r_bipush dX10_goesThrough_75 (by decide) ?_
    refine r_iand dX10_goesThrough_77 ?_
    obtain ⟨c9, H⟩ := H
    refine r_iald rfl rfl rfl c9 dX10_goesThrough_78 ?_
    refine r_iconst dX10_goesThrough_79 ?_
    refine r_callV (g := mX10_sets) ckX10 rfl rfl rfl rfl mkX10_sets mvX10_sets ml_X10_384 ⟨by decide, by decide⟩ rfl (Nat.le_of_ble_eq_true rfl) rfl (ok_i (rg_iand _ _) (ok_i (hM _ _ _) (ok_i ⟨by decide, by decide⟩ ok_n))) dX10_goesThrough_80 (sl_afterV (sl_RV.mono (fun M10 hM10 H => ?_) H))
    obtain ⟨c11, H⟩ := H
    refine r_iinc (k := 3) (ls' := [(3, vI (x3 + 1)), (0, vR 1 0), (1, vI x1), (2, vI x2)]) rfl c11 (by decide) rfl dX10_goesThrough_83 ?_
    refine r_goto (tgt := 18) dX10_goesThrough_86 (by decide) ?_
    exact sl_At.sub [1, 2, 3, 0] rfl H
set_option maxHeartbeats 4000000 in
set_option maxRecDepth 10000 in
theorem vX10_goesThrough_117 {l : Launch} {M : sl_M} {Q : sl_R} {x3 : Int} (H : sl_RM M → sl_rg x3 → sl_RI l mX10_steps [vR 1 0, vI 41, vI x3, vI 1] M (fun y2 M1 => ((0 ≤ y2) → (sl_rg ((4 * (41 + x3)) + y2)) ∧ (∀ y5 : Int, y5 = (4 * (41 + x3)) + y2 → sl_RI l mX10_leavesBy [vR 1 0, vI 41, vI y5] M1 (fun y7 M6 => ((y7 = 0) → (0 ≤ y5 ∧ y5 < 328) ∧ sl_At l mX10_goesThrough 117 [(0, vR 1 0), (3, vI (M6 1 26 y5))] [] M6 Q) ∧ ((¬ (y7 = 0)) → Q (some (vI y7)) M6)))) ∧ ((¬ (0 ≤ y2)) → Q (some (vI 0)) M1))) : sl_At l mX10_goesThrough 117 [(0, vR 1 0), (3, vI x3)] [] M Q := by
  refine sl_At.in (fun hM hls => ?_)
  have g3 : sl_rg x3 := hls _ (List.mem_of_getElem? (i := 1) rfl)
  have H := H hM g3
  refine r_aload_n (k := 0) rfl rfl dX10_goesThrough_117 ?_
  refine r_bipush dX10_goesThrough_118 (by decide) ?_
  refine r_iload_n (k := 1) rfl rfl dX10_goesThrough_120 ?_
  refine r_iconst dX10_goesThrough_121 ?_
  refine r_callV (g := mX10_steps) ckX10 rfl rfl rfl rfl mkX10_steps mvX10_steps ml_X10_394 ⟨by decide, by decide⟩ rfl (Nat.le_of_ble_eq_true rfl) rfl (ok_i ⟨by decide, by decide⟩ (ok_i g3 (ok_i ⟨by decide, by decide⟩ ok_n))) dX10_goesThrough_122 (sl_afterI (sl_RI.mono (fun y2 M1 gy2 hM1 H => ?_) H))
  refine r_istore (ls' := [(4, vI y2), (0, vR 1 0), (3, vI x3)]) gy2 (by decide) rfl dX10_goesThrough_125 ?_
  refine r_iload (k := 0) rfl dX10_goesThrough_127 ?_
  refine r_if_ge (tgt := 134) gy2 dX10_goesThrough_129 (by decide) (fun h3 => ?_) (fun h3 => ?_)
  · have H := H.1 h3
    refine r_iconst dX10_goesThrough_134 ?_
    refine r_bipush dX10_goesThrough_135 (by decide) ?_
    refine r_iload_n (k := 2) rfl rfl dX10_goesThrough_137 ?_
    refine r_iadd dX10_goesThrough_138 ?_
    refine r_imul dX10_goesThrough_139 ?_
    refine r_iload (k := 0) rfl dX10_goesThrough_140 ?_
    refine r_iadd dX10_goesThrough_142 ?_
    obtain ⟨c4, H⟩ := H
    refine r_nm (fun y5 fy5 => ?_)
    have H := H y5 fy5
    have gy5 : sl_rg y5 := by rw [fy5]; exact c4
    refine r_istore (ls' := [(5, vI y5), (4, vI y2), (0, vR 1 0), (3, vI x3)]) gy5 (by decide) rfl dX10_goesThrough_143 ?_
    refine r_aload_n (k := 2) rfl rfl dX10_goesThrough_145 ?_
    refine r_bipush dX10_goesThrough_146 (by decide) ?_
    refine r_iload (k := 0) rfl dX10_goesThrough_148 ?_
    refine r_callV (g := mX10_leavesBy) ckX10 rfl rfl rfl rfl mkX10_leavesBy mvX10_leavesBy ml_X10_255 ⟨by decide, by decide⟩ rfl (Nat.le_of_ble_eq_true rfl) rfl (ok_i ⟨by decide, by decide⟩ (ok_i gy5 ok_n)) dX10_goesThrough_150 (sl_afterI (sl_RI.mono (fun y7 M6 gy7 hM6 H => ?_) H))
    refine r_istore (ls' := [(6, vI y7), (5, vI y5), (4, vI y2), (0, vR 1 0), (3, vI x3)]) gy7 (by decide) rfl dX10_goesThrough_153 ?_
    refine r_iload (k := 0) rfl dX10_goesThrough_155 ?_
    refine r_if_eq (tgt := 163) gy7 dX10_goesThrough_157 (by decide) (fun h8 => ?_) (fun h8 => ?_)
    · have H := H.1 h8
      refine r_aload_n (k := 3) rfl rfl dX10_goesThrough_163 ?_
      refine r_getR (k := 25) (o' := 1) (i' := 26) ckX10 rfl rfl (by decide) rfl rfl rfl fl_X10_58 dX10_goesThrough_164 ?_
      refine r_iload (k := 1) rfl dX10_goesThrough_167 ?_
      obtain ⟨c9, H⟩ := H
      refine r_iald rfl rfl rfl c9 dX10_goesThrough_169 ?_
      refine r_istore_n (ls' := [(3, vI (M6 1 26 y5)), (6, vI y7), (5, vI y5), (4, vI y2), (0, vR 1 0)]) (hM6 _ _ _) rfl (by decide) rfl dX10_goesThrough_170 ?_
      refine r_goto (tgt := 117) dX10_goesThrough_171 (by decide) ?_
      exact sl_At.sub [4, 0] rfl H
    · have H := H.2 h8
      refine r_iload (k := 0) rfl dX10_goesThrough_160 ?_
      refine r_iret rfl gy7 dX10_goesThrough_162 ?_
      exact H
  · have H := H.2 h3
    refine r_iconst dX10_goesThrough_132 ?_
    refine r_iret rfl ⟨by decide, by decide⟩ dX10_goesThrough_133 ?_
    exact H
theorem eX10_goesThrough {l : Launch} {M : sl_M} {Q : sl_R} {x1 : Int} (k : sl_At l mX10_goesThrough 0 [(0, vR 1 0), (1, vI x1)] [] M Q) : sl_Runs l mX10_goesThrough [vR 1 0, vI x1] M Q := sl_Runs.of (ls := [(0, vR 1 0), (1, vI x1)]) rfl rfl (fun _ => rfl) (fun _ => Nat.le_of_ble_eq_true rfl) rfl (k)
theorem dX10_takesBack_0 : decode cX10_takesBack 0 = .ok (.aload_n 0, 1) := by decide +kernel
theorem dX10_takesBack_1 : decode cX10_takesBack 1 = .ok (.getfield 7, 3) := by decide +kernel
theorem dX10_takesBack_4 : decode cX10_takesBack 4 = .ok (.sipush 870, 3) := by decide +kernel
theorem dX10_takesBack_7 : decode cX10_takesBack 7 = .ok (.iload_n 1, 1) := by decide +kernel
theorem dX10_takesBack_8 : decode cX10_takesBack 8 = .ok (.iadd, 1) := by decide +kernel
theorem dX10_takesBack_9 : decode cX10_takesBack 9 = .ok (.iaload, 1) := by decide +kernel
theorem dX10_takesBack_10 : decode cX10_takesBack 10 = .ok (.istore_n 2, 1) := by decide +kernel
theorem dX10_takesBack_11 : decode cX10_takesBack 11 = .ok (.iconst 0, 1) := by decide +kernel
theorem dX10_takesBack_12 : decode cX10_takesBack 12 = .ok (.istore_n 3, 1) := by decide +kernel
theorem dX10_takesBack_13 : decode cX10_takesBack 13 = .ok (.iload_n 3, 1) := by decide +kernel
theorem dX10_takesBack_14 : decode cX10_takesBack 14 = .ok (.aload_n 0, 1) := by decide +kernel
theorem dX10_takesBack_15 : decode cX10_takesBack 15 = .ok (.getfield 7, 3) := by decide +kernel
theorem dX10_takesBack_18 : decode cX10_takesBack 18 = .ok (.sipush 774, 3) := by decide +kernel
theorem dX10_takesBack_21 : decode cX10_takesBack 21 = .ok (.iload_n 2, 1) := by decide +kernel
theorem dX10_takesBack_22 : decode cX10_takesBack 22 = .ok (.iadd, 1) := by decide +kernel
theorem dX10_takesBack_23 : decode cX10_takesBack 23 = .ok (.iaload, 1) := by decide +kernel
theorem dX10_takesBack_24 : decode cX10_takesBack 24 = .ok (.bipush 16, 2) := by decide +kernel
theorem dX10_takesBack_26 : decode cX10_takesBack 26 = .ok (.irem, 1) := by decide +kernel
theorem dX10_takesBack_27 : decode cX10_takesBack 27 = .ok (.if_icmp .ge 73, 3) := by decide +kernel
theorem dX10_takesBack_30 : decode cX10_takesBack 30 = .ok (.aload_n 0, 1) := by decide +kernel
theorem dX10_takesBack_31 : decode cX10_takesBack 31 = .ok (.getfield 7, 3) := by decide +kernel
theorem dX10_takesBack_34 : decode cX10_takesBack 34 = .ok (.sipush 774, 3) := by decide +kernel
theorem dX10_takesBack_37 : decode cX10_takesBack 37 = .ok (.iload_n 2, 1) := by decide +kernel
theorem dX10_takesBack_38 : decode cX10_takesBack 38 = .ok (.iadd, 1) := by decide +kernel
theorem dX10_takesBack_39 : decode cX10_takesBack 39 = .ok (.iaload, 1) := by decide +kernel
theorem dX10_takesBack_40 : decode cX10_takesBack 40 = .ok (.iconst 4, 1) := by decide +kernel
theorem dX10_takesBack_41 : decode cX10_takesBack 41 = .ok (.iconst 4, 1) := by decide +kernel
theorem dX10_takesBack_42 : decode cX10_takesBack 42 = .ok (.iload_n 3, 1) := by decide +kernel
theorem dX10_takesBack_43 : decode cX10_takesBack 43 = .ok (.imul, 1) := by decide +kernel
theorem dX10_takesBack_44 : decode cX10_takesBack 44 = .ok (.iadd, 1) := by decide +kernel
theorem dX10_takesBack_45 : decode cX10_takesBack 45 = .ok (.ishr, 1) := by decide +kernel
theorem dX10_takesBack_46 : decode cX10_takesBack 46 = .ok (.bipush 15, 2) := by decide +kernel
theorem dX10_takesBack_48 : decode cX10_takesBack 48 = .ok (.iand, 1) := by decide +kernel
theorem dX10_takesBack_49 : decode cX10_takesBack 49 = .ok (.istore 4, 2) := by decide +kernel
theorem dX10_takesBack_51 : decode cX10_takesBack 51 = .ok (.aload_n 0, 1) := by decide +kernel
theorem dX10_takesBack_52 : decode cX10_takesBack 52 = .ok (.getfield 365, 3) := by decide +kernel
theorem dX10_takesBack_55 : decode cX10_takesBack 55 = .ok (.iload 4, 2) := by decide +kernel
theorem dX10_takesBack_57 : decode cX10_takesBack 57 = .ok (.invokestatic 218, 3) := by decide +kernel
theorem dX10_takesBack_60 : decode cX10_takesBack 60 = .ok (.ifCond .eq 34, 3) := by decide +kernel
theorem dX10_takesBack_63 : decode cX10_takesBack 63 = .ok (.aload_n 0, 1) := by decide +kernel
theorem dX10_takesBack_64 : decode cX10_takesBack 64 = .ok (.aload_n 0, 1) := by decide +kernel
theorem dX10_takesBack_65 : decode cX10_takesBack 65 = .ok (.getfield 7, 3) := by decide +kernel
theorem dX10_takesBack_68 : decode cX10_takesBack 68 = .ok (.sipush 950, 3) := by decide +kernel
theorem dX10_takesBack_71 : decode cX10_takesBack 71 = .ok (.iload_n 1, 1) := by decide +kernel
theorem dX10_takesBack_72 : decode cX10_takesBack 72 = .ok (.iadd, 1) := by decide +kernel
theorem dX10_takesBack_73 : decode cX10_takesBack 73 = .ok (.iaload, 1) := by decide +kernel
theorem dX10_takesBack_74 : decode cX10_takesBack 74 = .ok (.iconst 4, 1) := by decide +kernel
theorem dX10_takesBack_75 : decode cX10_takesBack 75 = .ok (.iconst 4, 1) := by decide +kernel
theorem dX10_takesBack_76 : decode cX10_takesBack 76 = .ok (.iload_n 3, 1) := by decide +kernel
theorem dX10_takesBack_77 : decode cX10_takesBack 77 = .ok (.imul, 1) := by decide +kernel
theorem dX10_takesBack_78 : decode cX10_takesBack 78 = .ok (.iadd, 1) := by decide +kernel
theorem dX10_takesBack_79 : decode cX10_takesBack 79 = .ok (.ishr, 1) := by decide +kernel
theorem dX10_takesBack_80 : decode cX10_takesBack 80 = .ok (.bipush 15, 2) := by decide +kernel
theorem dX10_takesBack_82 : decode cX10_takesBack 82 = .ok (.iand, 1) := by decide +kernel
theorem dX10_takesBack_83 : decode cX10_takesBack 83 = .ok (.aload_n 0, 1) := by decide +kernel
theorem dX10_takesBack_84 : decode cX10_takesBack 84 = .ok (.getfield 104, 3) := by decide +kernel
theorem dX10_takesBack_87 : decode cX10_takesBack 87 = .ok (.iload 4, 2) := by decide +kernel
theorem dX10_takesBack_89 : decode cX10_takesBack 89 = .ok (.iaload, 1) := by decide +kernel
theorem dX10_takesBack_90 : decode cX10_takesBack 90 = .ok (.iconst 0, 1) := by decide +kernel
theorem dX10_takesBack_91 : decode cX10_takesBack 91 = .ok (.invokevirtual 384, 3) := by decide +kernel
theorem dX10_takesBack_94 : decode cX10_takesBack 94 = .ok (.iinc 3 1, 3) := by decide +kernel
theorem dX10_takesBack_97 : decode cX10_takesBack 97 = .ok (.goto (-84), 3) := by decide +kernel
theorem dX10_takesBack_100 : decode cX10_takesBack 100 = .ok (.return_, 1) := by decide +kernel
set_option maxHeartbeats 4000000 in
set_option maxRecDepth 10000 in
theorem vX10_takesBack_0 {l : Launch} {M : sl_M} {Q : sl_R} {x1 : Int} (H : sl_RM M → sl_rg x1 → (0 ≤ 870 + x1 ∧ 870 + x1 < 990) ∧ sl_At l mX10_takesBack 13 [(0, vR 1 0), (1, vI x1), (2, vI (M 1 1 (870 + x1))), (3, vI 0)] [] M Q) : sl_At l mX10_takesBack 0 [(0, vR 1 0), (1, vI x1)] [] M Q := by
  refine sl_At.in (fun hM hls => ?_)
  have g1 : sl_rg x1 := hls _ (List.mem_of_getElem? (i := 1) rfl)
  have H := H hM g1
  refine r_aload_n (k := 0) rfl rfl dX10_takesBack_0 ?_
  refine r_getR (k := 0) (o' := 1) (i' := 1) ckX10 rfl rfl (by decide) rfl rfl rfl fl_X10_7 dX10_takesBack_1 ?_
  refine r_sipush dX10_takesBack_4 (by decide) ?_
  refine r_iload_n (k := 1) rfl rfl dX10_takesBack_7 ?_
  refine r_iadd dX10_takesBack_8 ?_
  obtain ⟨c1, H⟩ := H
  refine r_iald rfl rfl rfl c1 dX10_takesBack_9 ?_
  refine r_istore_n (ls' := [(2, vI (M 1 1 (870 + x1))), (0, vR 1 0), (1, vI x1)]) (hM _ _ _) rfl (by decide) rfl dX10_takesBack_10 ?_
  refine r_iconst dX10_takesBack_11 ?_
  refine r_istore_n (ls' := [(3, vI 0), (2, vI (M 1 1 (870 + x1))), (0, vR 1 0), (1, vI x1)]) ⟨by decide, by decide⟩ rfl (by decide) rfl dX10_takesBack_12 ?_
  exact sl_At.sub [2, 3, 1, 0] rfl H
set_option maxHeartbeats 4000000 in
set_option maxRecDepth 10000 in
theorem vX10_takesBack_13 {l : Launch} {M : sl_M} {Q : sl_R} {x1 x2 x3 : Int} (H : sl_RM M → sl_rg x1 → sl_rg x2 → sl_rg x3 → (0 ≤ 774 + x2 ∧ 774 + x2 < 990) ∧ ((irem (M 1 1 (774 + x2)) 16 ≤ x3) → Q none M) ∧ ((¬ (irem (M 1 1 (774 + x2)) 16 ≤ x3)) → (∀ y3 : Int, y3 = iand (ishr (M 1 1 (774 + x2)) (4 + (4 * x3))) 15 → ((¬ (iand (ishr (M 1 0 53) y3) 1 = 1)) → (sl_rg (x3 + 1)) ∧ sl_At l mX10_takesBack 13 [(0, vR 1 0), (1, vI x1), (2, vI x2), (3, vI (x3 + 1))] [] M Q) ∧ ((iand (ishr (M 1 0 53) y3) 1 = 1) → (0 ≤ 950 + x1 ∧ 950 + x1 < 990) ∧ (0 ≤ y3 ∧ y3 < 8) ∧ sl_RV l mX10_sets [vR 1 0, vI (iand (ishr (M 1 1 (950 + x1)) (4 + (4 * x3))) 15), vI (M 1 53 y3), vI 0] M (fun M8 => (sl_rg (x3 + 1)) ∧ sl_At l mX10_takesBack 13 [(0, vR 1 0), (1, vI x1), (2, vI x2), (3, vI (x3 + 1))] [] M8 Q))))) : sl_At l mX10_takesBack 13 [(0, vR 1 0), (1, vI x1), (2, vI x2), (3, vI x3)] [] M Q := by
  refine sl_At.in (fun hM hls => ?_)
  have g1 : sl_rg x1 := hls _ (List.mem_of_getElem? (i := 1) rfl)
  have g2 : sl_rg x2 := hls _ (List.mem_of_getElem? (i := 2) rfl)
  have g3 : sl_rg x3 := hls _ (List.mem_of_getElem? (i := 3) rfl)
  have H := H hM g1 g2 g3
  refine r_iload_n (k := 3) rfl rfl dX10_takesBack_13 ?_
  refine r_aload_n (k := 0) rfl rfl dX10_takesBack_14 ?_
  refine r_getR (k := 0) (o' := 1) (i' := 1) ckX10 rfl rfl (by decide) rfl rfl rfl fl_X10_7 dX10_takesBack_15 ?_
  refine r_sipush dX10_takesBack_18 (by decide) ?_
  refine r_iload_n (k := 2) rfl rfl dX10_takesBack_21 ?_
  refine r_iadd dX10_takesBack_22 ?_
  obtain ⟨c1, H⟩ := H
  refine r_iald rfl rfl rfl c1 dX10_takesBack_23 ?_
  refine r_bipush dX10_takesBack_24 (by decide) ?_
  refine r_irem ⟨by decide, by decide⟩ (by decide) dX10_takesBack_26 ?_
  refine r_icmp_ge (tgt := 100) g3 (rg_irem _ _) dX10_takesBack_27 (by decide) (fun h2 => ?_) (fun h2 => ?_)
  · have H := H.1 h2
    refine r_vret rfl dX10_takesBack_100 ?_
    exact H
  · have H := H.2 h2
    refine r_aload_n (k := 0) rfl rfl dX10_takesBack_30 ?_
    refine r_getR (k := 0) (o' := 1) (i' := 1) ckX10 rfl rfl (by decide) rfl rfl rfl fl_X10_7 dX10_takesBack_31 ?_
    refine r_sipush dX10_takesBack_34 (by decide) ?_
    refine r_iload_n (k := 2) rfl rfl dX10_takesBack_37 ?_
    refine r_iadd dX10_takesBack_38 ?_
    refine r_iald rfl rfl rfl c1 dX10_takesBack_39 ?_
    refine r_iconst dX10_takesBack_40 ?_
    refine r_iconst dX10_takesBack_41 ?_
    refine r_iload_n (k := 3) rfl rfl dX10_takesBack_42 ?_
    refine r_imul dX10_takesBack_43 ?_
    refine r_iadd dX10_takesBack_44 ?_
    refine r_ishr dX10_takesBack_45 ?_
    refine r_bipush dX10_takesBack_46 (by decide) ?_
    refine r_iand dX10_takesBack_48 ?_
    refine r_nm (fun y3 fy3 => ?_)
    have H := H y3 fy3
    have gy3 : sl_rg y3 := by rw [fy3]; exact (rg_iand _ _)
    refine r_istore (ls' := [(4, vI y3), (0, vR 1 0), (1, vI x1), (2, vI x2), (3, vI x3)]) gy3 (by decide) rfl dX10_takesBack_49 ?_
    refine r_aload_n (k := 1) rfl rfl dX10_takesBack_51 ?_
    refine r_gI (k := 53) (kz := 53) rfl ckX10 rfl rfl (by decide) rfl rfl fl_X10_365 dX10_takesBack_52 ?_
    refine r_iload (k := 0) rfl dX10_takesBack_55 ?_
    refine r_callS (g := mX10_has) rfl mkX10_has msX10_has ml_X10_218 ⟨by decide, by decide⟩ rfl (Nat.le_of_ble_eq_true rfl) rfl (ok_i (hM _ _ _) (ok_i gy3 ok_n)) dX10_takesBack_57 (sl_afterI (sl_RI.by kX10_has ?_))
    refine r_if_eq (tgt := 94) rg_b dX10_takesBack_60 (by decide) (fun h4 => ?_) (fun h4 => ?_)
    · have H := H.1 (b_eq0.mp h4)
      obtain ⟨c5, H⟩ := H
      refine r_iinc (k := 4) (ls' := [(3, vI (x3 + 1)), (4, vI y3), (0, vR 1 0), (1, vI x1), (2, vI x2)]) rfl c5 (by decide) rfl dX10_takesBack_94 ?_
      refine r_goto (tgt := 13) dX10_takesBack_97 (by decide) ?_
      exact sl_At.sub [2, 3, 4, 0] rfl H
    · have H := H.2 (b_ne0.mp h4)
      refine r_aload_n (k := 1) rfl rfl dX10_takesBack_63 ?_
      refine r_aload_n (k := 1) rfl rfl dX10_takesBack_64 ?_
      refine r_getR (k := 0) (o' := 1) (i' := 1) ckX10 rfl rfl (by decide) rfl rfl rfl fl_X10_7 dX10_takesBack_65 ?_
      refine r_sipush dX10_takesBack_68 (by decide) ?_
      refine r_iload_n (k := 2) rfl rfl dX10_takesBack_71 ?_
      refine r_iadd dX10_takesBack_72 ?_
      obtain ⟨c6, H⟩ := H
      refine r_iald rfl rfl rfl c6 dX10_takesBack_73 ?_
      refine r_iconst dX10_takesBack_74 ?_
      refine r_iconst dX10_takesBack_75 ?_
      refine r_iload_n (k := 4) rfl rfl dX10_takesBack_76 ?_
      refine r_imul dX10_takesBack_77 ?_
      refine r_iadd dX10_takesBack_78 ?_
      refine r_ishr dX10_takesBack_79 ?_
      refine r_bipush dX10_takesBack_80 (by decide) ?_
      refine r_iand dX10_takesBack_82 ?_
      refine r_aload_n (k := 1) rfl rfl dX10_takesBack_83 ?_
      refine r_getR (k := 52) (o' := 1) (i' := 53) ckX10 rfl rfl (by decide) rfl rfl rfl fl_X10_104 dX10_takesBack_84 ?_
      refine r_iload (k := 0) rfl dX10_takesBack_87 ?_
      obtain ⟨c7, H⟩ := H
      refine r_iald rfl rfl rfl c7 dX10_takesBack_89 ?_
      refine r_iconst dX10_takesBack_90 ?_
      refine r_callV (g := mX10_sets) ckX10 rfl rfl rfl rfl mkX10_sets mvX10_sets ml_X10_384 ⟨by decide, by decide⟩ rfl (Nat.le_of_ble_eq_true rfl) rfl (ok_i (rg_iand _ _) (ok_i (hM _ _ _) (ok_i ⟨by decide, by decide⟩ ok_n))) dX10_takesBack_91 (sl_afterV (sl_RV.mono (fun M8 hM8 H => ?_) H))
      obtain ⟨c9, H⟩ := H
      refine r_iinc (k := 4) (ls' := [(3, vI (x3 + 1)), (4, vI y3), (0, vR 1 0), (1, vI x1), (2, vI x2)]) rfl c9 (by decide) rfl dX10_takesBack_94 ?_
      refine r_goto (tgt := 13) dX10_takesBack_97 (by decide) ?_
      exact sl_At.sub [2, 3, 4, 0] rfl H
theorem eX10_takesBack {l : Launch} {M : sl_M} {Q : sl_R} {x1 : Int} (k : sl_At l mX10_takesBack 0 [(0, vR 1 0), (1, vI x1)] [] M Q) : sl_Runs l mX10_takesBack [vR 1 0, vI x1] M Q := sl_Runs.of (ls := [(0, vR 1 0), (1, vI x1)]) rfl rfl (fun _ => rfl) (fun _ => Nat.le_of_ble_eq_true rfl) rfl (k)
theorem dX10_wayBy_0 : decode cX10_wayBy 0 = .ok (.iconst 0, 1) := by decide +kernel
theorem dX10_wayBy_1 : decode cX10_wayBy 1 = .ok (.istore_n 3, 1) := by decide +kernel
theorem dX10_wayBy_2 : decode cX10_wayBy 2 = .ok (.aload_n 0, 1) := by decide +kernel
theorem dX10_wayBy_3 : decode cX10_wayBy 3 = .ok (.getfield 64, 3) := by decide +kernel
theorem dX10_wayBy_6 : decode cX10_wayBy 6 = .ok (.iconst 4, 1) := by decide +kernel
theorem dX10_wayBy_7 : decode cX10_wayBy 7 = .ok (.iload_n 1, 1) := by decide +kernel
theorem dX10_wayBy_8 : decode cX10_wayBy 8 = .ok (.imul, 1) := by decide +kernel
theorem dX10_wayBy_9 : decode cX10_wayBy 9 = .ok (.iload_n 3, 1) := by decide +kernel
theorem dX10_wayBy_10 : decode cX10_wayBy 10 = .ok (.iadd, 1) := by decide +kernel
theorem dX10_wayBy_11 : decode cX10_wayBy 11 = .ok (.iaload, 1) := by decide +kernel
theorem dX10_wayBy_12 : decode cX10_wayBy 12 = .ok (.iload_n 2, 1) := by decide +kernel
theorem dX10_wayBy_13 : decode cX10_wayBy 13 = .ok (.if_icmp .eq 9, 3) := by decide +kernel
theorem dX10_wayBy_16 : decode cX10_wayBy 16 = .ok (.iinc 3 1, 3) := by decide +kernel
theorem dX10_wayBy_19 : decode cX10_wayBy 19 = .ok (.goto (-17), 3) := by decide +kernel
theorem dX10_wayBy_22 : decode cX10_wayBy 22 = .ok (.iload_n 3, 1) := by decide +kernel
theorem dX10_wayBy_23 : decode cX10_wayBy 23 = .ok (.ireturn, 1) := by decide +kernel
set_option maxHeartbeats 4000000 in
set_option maxRecDepth 10000 in
theorem vX10_wayBy_0 {l : Launch} {M : sl_M} {Q : sl_R} {x1 x2 : Int} (H : sl_RM M → sl_rg x1 → sl_rg x2 → sl_At l mX10_wayBy 2 [(0, vR 1 0), (1, vI x1), (2, vI x2), (3, vI 0)] [] M Q) : sl_At l mX10_wayBy 0 [(0, vR 1 0), (1, vI x1), (2, vI x2)] [] M Q := by
  refine sl_At.in (fun hM hls => ?_)
  have g1 : sl_rg x1 := hls _ (List.mem_of_getElem? (i := 1) rfl)
  have g2 : sl_rg x2 := hls _ (List.mem_of_getElem? (i := 2) rfl)
  have H := H hM g1 g2
  refine r_iconst dX10_wayBy_0 ?_
  refine r_istore_n (ls' := [(3, vI 0), (0, vR 1 0), (1, vI x1), (2, vI x2)]) ⟨by decide, by decide⟩ rfl (by decide) rfl dX10_wayBy_1 ?_
  exact sl_At.sub [1, 2, 3, 0] rfl H
set_option maxHeartbeats 4000000 in
set_option maxRecDepth 10000 in
theorem vX10_wayBy_2 {l : Launch} {M : sl_M} {Q : sl_R} {x1 x2 x3 : Int} (H : sl_RM M → sl_rg x1 → sl_rg x2 → sl_rg x3 → (0 ≤ (4 * x1) + x3 ∧ (4 * x1) + x3 < 328) ∧ ((M 1 28 ((4 * x1) + x3) = x2) → Q (some (vI x3)) M) ∧ ((¬ (M 1 28 ((4 * x1) + x3) = x2)) → (sl_rg (x3 + 1)) ∧ sl_At l mX10_wayBy 2 [(0, vR 1 0), (1, vI x1), (2, vI x2), (3, vI (x3 + 1))] [] M Q)) : sl_At l mX10_wayBy 2 [(0, vR 1 0), (1, vI x1), (2, vI x2), (3, vI x3)] [] M Q := by
  refine sl_At.in (fun hM hls => ?_)
  have g1 : sl_rg x1 := hls _ (List.mem_of_getElem? (i := 1) rfl)
  have g2 : sl_rg x2 := hls _ (List.mem_of_getElem? (i := 2) rfl)
  have g3 : sl_rg x3 := hls _ (List.mem_of_getElem? (i := 3) rfl)
  have H := H hM g1 g2 g3
  refine r_aload_n (k := 0) rfl rfl dX10_wayBy_2 ?_
  refine r_getR (k := 27) (o' := 1) (i' := 28) ckX10 rfl rfl (by decide) rfl rfl rfl fl_X10_64 dX10_wayBy_3 ?_
  refine r_iconst dX10_wayBy_6 ?_
  refine r_iload_n (k := 1) rfl rfl dX10_wayBy_7 ?_
  refine r_imul dX10_wayBy_8 ?_
  refine r_iload_n (k := 3) rfl rfl dX10_wayBy_9 ?_
  refine r_iadd dX10_wayBy_10 ?_
  obtain ⟨c1, H⟩ := H
  refine r_iald rfl rfl rfl c1 dX10_wayBy_11 ?_
  refine r_iload_n (k := 2) rfl rfl dX10_wayBy_12 ?_
  refine r_icmp_eq (tgt := 22) (hM _ _ _) g2 dX10_wayBy_13 (by decide) (fun h2 => ?_) (fun h2 => ?_)
  · have H := H.1 h2
    refine r_iload_n (k := 3) rfl rfl dX10_wayBy_22 ?_
    refine r_iret rfl g3 dX10_wayBy_23 ?_
    exact H
  · have H := H.2 h2
    obtain ⟨c3, H⟩ := H
    refine r_iinc (k := 3) (ls' := [(3, vI (x3 + 1)), (0, vR 1 0), (1, vI x1), (2, vI x2)]) rfl c3 (by decide) rfl dX10_wayBy_16 ?_
    refine r_goto (tgt := 2) dX10_wayBy_19 (by decide) ?_
    exact sl_At.sub [1, 2, 3, 0] rfl H
theorem eX10_wayBy {l : Launch} {M : sl_M} {Q : sl_R} {x1 x2 : Int} (k : sl_At l mX10_wayBy 0 [(0, vR 1 0), (1, vI x1), (2, vI x2)] [] M Q) : sl_Runs l mX10_wayBy [vR 1 0, vI x1, vI x2] M Q := sl_Runs.of (ls := [(0, vR 1 0), (1, vI x1), (2, vI x2)]) rfl rfl (fun _ => rfl) (fun _ => Nat.le_of_ble_eq_true rfl) rfl (k)
theorem dX10_runs_0 : decode cX10_runs 0 = .ok (.aload_n 0, 1) := by decide +kernel
theorem dX10_runs_1 : decode cX10_runs 1 = .ok (.invokevirtual 292, 3) := by decide +kernel
theorem dX10_runs_4 : decode cX10_runs 4 = .ok (.aload_n 0, 1) := by decide +kernel
theorem dX10_runs_5 : decode cX10_runs 5 = .ok (.iconst 0, 1) := by decide +kernel
theorem dX10_runs_6 : decode cX10_runs 6 = .ok (.putfield 368, 3) := by decide +kernel
theorem dX10_runs_9 : decode cX10_runs 9 = .ok (.aload_n 0, 1) := by decide +kernel
theorem dX10_runs_10 : decode cX10_runs 10 = .ok (.iconst 0, 1) := by decide +kernel
theorem dX10_runs_11 : decode cX10_runs 11 = .ok (.iload_n 1, 1) := by decide +kernel
theorem dX10_runs_12 : decode cX10_runs 12 = .ok (.iconst 0, 1) := by decide +kernel
theorem dX10_runs_13 : decode cX10_runs 13 = .ok (.invokevirtual 384, 3) := by decide +kernel
theorem dX10_runs_16 : decode cX10_runs 16 = .ok (.aload_n 0, 1) := by decide +kernel
theorem dX10_runs_17 : decode cX10_runs 17 = .ok (.iconst 1, 1) := by decide +kernel
theorem dX10_runs_18 : decode cX10_runs 18 = .ok (.iload_n 2, 1) := by decide +kernel
theorem dX10_runs_19 : decode cX10_runs 19 = .ok (.iconst 0, 1) := by decide +kernel
theorem dX10_runs_20 : decode cX10_runs 20 = .ok (.invokevirtual 384, 3) := by decide +kernel
theorem dX10_runs_23 : decode cX10_runs 23 = .ok (.aload_n 0, 1) := by decide +kernel
theorem dX10_runs_24 : decode cX10_runs 24 = .ok (.iconst 0, 1) := by decide +kernel
theorem dX10_runs_25 : decode cX10_runs 25 = .ok (.putfield 391, 3) := by decide +kernel
theorem dX10_runs_28 : decode cX10_runs 28 = .ok (.aload_n 0, 1) := by decide +kernel
theorem dX10_runs_29 : decode cX10_runs 29 = .ok (.iconst 0, 1) := by decide +kernel
theorem dX10_runs_30 : decode cX10_runs 30 = .ok (.putfield 377, 3) := by decide +kernel
theorem dX10_runs_33 : decode cX10_runs 33 = .ok (.aload_n 0, 1) := by decide +kernel
theorem dX10_runs_34 : decode cX10_runs 34 = .ok (.iconst 0, 1) := by decide +kernel
theorem dX10_runs_35 : decode cX10_runs 35 = .ok (.putfield 388, 3) := by decide +kernel
theorem dX10_runs_38 : decode cX10_runs 38 = .ok (.iconst 0, 1) := by decide +kernel
theorem dX10_runs_39 : decode cX10_runs 39 = .ok (.istore_n 3, 1) := by decide +kernel
theorem dX10_runs_40 : decode cX10_runs 40 = .ok (.iconst 0, 1) := by decide +kernel
theorem dX10_runs_41 : decode cX10_runs 41 = .ok (.istore 4, 2) := by decide +kernel
theorem dX10_runs_43 : decode cX10_runs 43 = .ok (.aload_n 0, 1) := by decide +kernel
theorem dX10_runs_44 : decode cX10_runs 44 = .ok (.iconst 0, 1) := by decide +kernel
theorem dX10_runs_45 : decode cX10_runs 45 = .ok (.invokevirtual 201, 3) := by decide +kernel
theorem dX10_runs_48 : decode cX10_runs 48 = .ok (.ifCond .le 7, 3) := by decide +kernel
theorem dX10_runs_51 : decode cX10_runs 51 = .ok (.iconst 1, 1) := by decide +kernel
theorem dX10_runs_52 : decode cX10_runs 52 = .ok (.goto 4, 3) := by decide +kernel
theorem dX10_runs_55 : decode cX10_runs 55 = .ok (.iconst 0, 1) := by decide +kernel
theorem dX10_runs_56 : decode cX10_runs 56 = .ok (.istore 5, 2) := by decide +kernel
theorem dX10_runs_58 : decode cX10_runs 58 = .ok (.iload 5, 2) := by decide +kernel
theorem dX10_runs_60 : decode cX10_runs 60 = .ok (.ifCond .eq 142, 3) := by decide +kernel
theorem dX10_runs_63 : decode cX10_runs 63 = .ok (.aload_n 0, 1) := by decide +kernel
theorem dX10_runs_64 : decode cX10_runs 64 = .ok (.getfield 31, 3) := by decide +kernel
theorem dX10_runs_67 : decode cX10_runs 67 = .ok (.iload_n 3, 1) := by decide +kernel
theorem dX10_runs_68 : decode cX10_runs 68 = .ok (.iaload, 1) := by decide +kernel
theorem dX10_runs_69 : decode cX10_runs 69 = .ok (.bipush 7, 2) := by decide +kernel
theorem dX10_runs_71 : decode cX10_runs 71 = .ok (.if_icmp .ne 51, 3) := by decide +kernel
theorem dX10_runs_74 : decode cX10_runs 74 = .ok (.aload_n 0, 1) := by decide +kernel
theorem dX10_runs_75 : decode cX10_runs 75 = .ok (.aload_n 0, 1) := by decide +kernel
theorem dX10_runs_76 : decode cX10_runs 76 = .ok (.getfield 46, 3) := by decide +kernel
theorem dX10_runs_79 : decode cX10_runs 79 = .ok (.iload_n 3, 1) := by decide +kernel
theorem dX10_runs_80 : decode cX10_runs 80 = .ok (.iaload, 1) := by decide +kernel
theorem dX10_runs_81 : decode cX10_runs 81 = .ok (.invokevirtual 398, 3) := by decide +kernel
theorem dX10_runs_84 : decode cX10_runs 84 = .ok (.istore 7, 2) := by decide +kernel
theorem dX10_runs_86 : decode cX10_runs 86 = .ok (.iload 7, 2) := by decide +kernel
theorem dX10_runs_88 : decode cX10_runs 88 = .ok (.ifCond .eq 13, 3) := by decide +kernel
theorem dX10_runs_91 : decode cX10_runs 91 = .ok (.aload_n 0, 1) := by decide +kernel
theorem dX10_runs_92 : decode cX10_runs 92 = .ok (.aload_n 0, 1) := by decide +kernel
theorem dX10_runs_93 : decode cX10_runs 93 = .ok (.getfield 46, 3) := by decide +kernel
theorem dX10_runs_96 : decode cX10_runs 96 = .ok (.iload_n 3, 1) := by decide +kernel
theorem dX10_runs_97 : decode cX10_runs 97 = .ok (.iaload, 1) := by decide +kernel
theorem dX10_runs_98 : decode cX10_runs 98 = .ok (.invokevirtual 401, 3) := by decide +kernel
theorem dX10_runs_101 : decode cX10_runs 101 = .ok (.iload 7, 2) := by decide +kernel
theorem dX10_runs_103 : decode cX10_runs 103 = .ok (.ifCond .ne 7, 3) := by decide +kernel
theorem dX10_runs_106 : decode cX10_runs 106 = .ok (.iconst (-1), 1) := by decide +kernel
theorem dX10_runs_107 : decode cX10_runs 107 = .ok (.goto 10, 3) := by decide +kernel
theorem dX10_runs_110 : decode cX10_runs 110 = .ok (.aload_n 0, 1) := by decide +kernel
theorem dX10_runs_111 : decode cX10_runs 111 = .ok (.iload_n 3, 1) := by decide +kernel
theorem dX10_runs_112 : decode cX10_runs 112 = .ok (.iload 7, 2) := by decide +kernel
theorem dX10_runs_114 : decode cX10_runs 114 = .ok (.invokevirtual 404, 3) := by decide +kernel
theorem dX10_runs_117 : decode cX10_runs 117 = .ok (.istore 6, 2) := by decide +kernel
theorem dX10_runs_119 : decode cX10_runs 119 = .ok (.goto 12, 3) := by decide +kernel
theorem dX10_runs_122 : decode cX10_runs 122 = .ok (.aload_n 0, 1) := by decide +kernel
theorem dX10_runs_123 : decode cX10_runs 123 = .ok (.iconst 0, 1) := by decide +kernel
theorem dX10_runs_124 : decode cX10_runs 124 = .ok (.iload_n 3, 1) := by decide +kernel
theorem dX10_runs_125 : decode cX10_runs 125 = .ok (.iconst 0, 1) := by decide +kernel
theorem dX10_runs_126 : decode cX10_runs 126 = .ok (.invokevirtual 394, 3) := by decide +kernel
theorem dX10_runs_129 : decode cX10_runs 129 = .ok (.istore 6, 2) := by decide +kernel
theorem dX10_runs_131 : decode cX10_runs 131 = .ok (.iload 6, 2) := by decide +kernel
theorem dX10_runs_133 : decode cX10_runs 133 = .ok (.ifCond .ge 15, 3) := by decide +kernel
theorem dX10_runs_136 : decode cX10_runs 136 = .ok (.aload_n 0, 1) := by decide +kernel
theorem dX10_runs_137 : decode cX10_runs 137 = .ok (.getfield 362, 3) := by decide +kernel
theorem dX10_runs_140 : decode cX10_runs 140 = .ok (.istore 4, 2) := by decide +kernel
theorem dX10_runs_142 : decode cX10_runs 142 = .ok (.iconst 0, 1) := by decide +kernel
theorem dX10_runs_143 : decode cX10_runs 143 = .ok (.istore 5, 2) := by decide +kernel
theorem dX10_runs_145 : decode cX10_runs 145 = .ok (.goto 54, 3) := by decide +kernel
theorem dX10_runs_148 : decode cX10_runs 148 = .ok (.aload_n 0, 1) := by decide +kernel
theorem dX10_runs_149 : decode cX10_runs 149 = .ok (.getfield 64, 3) := by decide +kernel
theorem dX10_runs_152 : decode cX10_runs 152 = .ok (.iconst 4, 1) := by decide +kernel
theorem dX10_runs_153 : decode cX10_runs 153 = .ok (.iload_n 3, 1) := by decide +kernel
theorem dX10_runs_154 : decode cX10_runs 154 = .ok (.imul, 1) := by decide +kernel
theorem dX10_runs_155 : decode cX10_runs 155 = .ok (.iload 6, 2) := by decide +kernel
theorem dX10_runs_157 : decode cX10_runs 157 = .ok (.iadd, 1) := by decide +kernel
theorem dX10_runs_158 : decode cX10_runs 158 = .ok (.iaload, 1) := by decide +kernel
theorem dX10_runs_159 : decode cX10_runs 159 = .ok (.bipush 8, 2) := by decide +kernel
theorem dX10_runs_161 : decode cX10_runs 161 = .ok (.if_icmp .ne 7, 3) := by decide +kernel
theorem dX10_runs_164 : decode cX10_runs 164 = .ok (.iconst 1, 1) := by decide +kernel
theorem dX10_runs_165 : decode cX10_runs 165 = .ok (.goto 4, 3) := by decide +kernel
theorem dX10_runs_168 : decode cX10_runs 168 = .ok (.iconst 0, 1) := by decide +kernel
theorem dX10_runs_169 : decode cX10_runs 169 = .ok (.istore 4, 2) := by decide +kernel
theorem dX10_runs_171 : decode cX10_runs 171 = .ok (.aload_n 0, 1) := by decide +kernel
theorem dX10_runs_172 : decode cX10_runs 172 = .ok (.getfield 58, 3) := by decide +kernel
theorem dX10_runs_175 : decode cX10_runs 175 = .ok (.iconst 4, 1) := by decide +kernel
theorem dX10_runs_176 : decode cX10_runs 176 = .ok (.iload_n 3, 1) := by decide +kernel
theorem dX10_runs_177 : decode cX10_runs 177 = .ok (.imul, 1) := by decide +kernel
theorem dX10_runs_178 : decode cX10_runs 178 = .ok (.iload 6, 2) := by decide +kernel
theorem dX10_runs_180 : decode cX10_runs 180 = .ok (.iadd, 1) := by decide +kernel
theorem dX10_runs_181 : decode cX10_runs 181 = .ok (.iaload, 1) := by decide +kernel
theorem dX10_runs_182 : decode cX10_runs 182 = .ok (.istore_n 3, 1) := by decide +kernel
theorem dX10_runs_183 : decode cX10_runs 183 = .ok (.iload_n 3, 1) := by decide +kernel
theorem dX10_runs_184 : decode cX10_runs 184 = .ok (.aload_n 0, 1) := by decide +kernel
theorem dX10_runs_185 : decode cX10_runs 185 = .ok (.iconst 0, 1) := by decide +kernel
theorem dX10_runs_186 : decode cX10_runs 186 = .ok (.invokevirtual 201, 3) := by decide +kernel
theorem dX10_runs_189 : decode cX10_runs 189 = .ok (.if_icmp .ge 7, 3) := by decide +kernel
theorem dX10_runs_192 : decode cX10_runs 192 = .ok (.iconst 1, 1) := by decide +kernel
theorem dX10_runs_193 : decode cX10_runs 193 = .ok (.goto 4, 3) := by decide +kernel
theorem dX10_runs_196 : decode cX10_runs 196 = .ok (.iconst 0, 1) := by decide +kernel
theorem dX10_runs_197 : decode cX10_runs 197 = .ok (.istore 5, 2) := by decide +kernel
theorem dX10_runs_199 : decode cX10_runs 199 = .ok (.goto (-141), 3) := by decide +kernel
theorem dX10_runs_202 : decode cX10_runs 202 = .ok (.aload_n 0, 1) := by decide +kernel
theorem dX10_runs_203 : decode cX10_runs 203 = .ok (.aload_n 0, 1) := by decide +kernel
theorem dX10_runs_204 : decode cX10_runs 204 = .ok (.getfield 368, 3) := by decide +kernel
theorem dX10_runs_207 : decode cX10_runs 207 = .ok (.putfield 407, 3) := by decide +kernel
theorem dX10_runs_210 : decode cX10_runs 210 = .ok (.iload 4, 2) := by decide +kernel
theorem dX10_runs_212 : decode cX10_runs 212 = .ok (.ireturn, 1) := by decide +kernel
set_option maxHeartbeats 4000000 in
set_option maxRecDepth 10000 in
theorem vX10_runs_0 {l : Launch} {M : sl_M} {Q : sl_R} {x1 x2 : Int} (H : sl_RM M → sl_rg x1 → sl_rg x2 → sl_RV l mX10_lays [vR 1 0] M (fun M1 => (∀ M2, M2 = sl_wr M1 1 0 51 0 → sl_RV l mX10_sets [vR 1 0, vI 0, vI x1, vI 0] M2 (fun M3 => sl_RV l mX10_sets [vR 1 0, vI 1, vI x2, vI 0] M3 (fun M4 => (∀ M5, M5 = sl_wr M4 1 0 54 0 → (∀ M6, M6 = sl_wr M5 1 0 55 0 → (∀ M7, M7 = sl_wr M6 1 0 56 0 → sl_RI l mX10_manyOf [vR 1 0, vI 0] M7 (fun y9 M8 => (∀ y11 : Int, y11 = (if ¬ (y9 ≤ 0) then 1 else 0) → sl_At l mX10_runs 58 [(0, vR 1 0), (3, vI 0), (4, vI 0), (5, vI y11)] [] M8 Q)))))))))) : sl_At l mX10_runs 0 [(0, vR 1 0), (1, vI x1), (2, vI x2)] [] M Q := by
  refine sl_At.in (fun hM hls => ?_)
  have g1 : sl_rg x1 := hls _ (List.mem_of_getElem? (i := 1) rfl)
  have g2 : sl_rg x2 := hls _ (List.mem_of_getElem? (i := 2) rfl)
  have H := H hM g1 g2
  refine r_aload_n (k := 0) rfl rfl dX10_runs_0 ?_
  refine r_callV (g := mX10_lays) ckX10 rfl rfl rfl rfl mkX10_lays mvX10_lays ml_X10_292 ⟨by decide, by decide⟩ rfl (Nat.le_of_ble_eq_true rfl) rfl ok_n dX10_runs_1 (sl_afterV (sl_RV.mono (fun M1 hM1 H => ?_) H))
  refine r_aload_n (k := 0) rfl rfl dX10_runs_4 ?_
  refine r_iconst dX10_runs_5 ?_
  refine r_pI (k := 51) (kz := 51) rfl ckX10 rfl rfl (by decide) rfl rfl rfl rfl fl_X10_368 ⟨by decide, by decide⟩ dX10_runs_6 ?_
  refine r_mm (fun M2 e2 => ?_)
  have H := H M2 e2
  have hM2 : sl_RM M2 := by rw [e2]; exact sl_wr_RM hM1 ⟨by decide, by decide⟩
  refine r_aload_n (k := 0) rfl rfl dX10_runs_9 ?_
  refine r_iconst dX10_runs_10 ?_
  refine r_iload_n (k := 1) rfl rfl dX10_runs_11 ?_
  refine r_iconst dX10_runs_12 ?_
  refine r_callV (g := mX10_sets) ckX10 rfl rfl rfl rfl mkX10_sets mvX10_sets ml_X10_384 ⟨by decide, by decide⟩ rfl (Nat.le_of_ble_eq_true rfl) rfl (ok_i ⟨by decide, by decide⟩ (ok_i g1 (ok_i ⟨by decide, by decide⟩ ok_n))) dX10_runs_13 (sl_afterV (sl_RV.mono (fun M3 hM3 H => ?_) H))
  refine r_aload_n (k := 0) rfl rfl dX10_runs_16 ?_
  refine r_iconst dX10_runs_17 ?_
  refine r_iload_n (k := 2) rfl rfl dX10_runs_18 ?_
  refine r_iconst dX10_runs_19 ?_
  refine r_callV (g := mX10_sets) ckX10 rfl rfl rfl rfl mkX10_sets mvX10_sets ml_X10_384 ⟨by decide, by decide⟩ rfl (Nat.le_of_ble_eq_true rfl) rfl (ok_i ⟨by decide, by decide⟩ (ok_i g2 (ok_i ⟨by decide, by decide⟩ ok_n))) dX10_runs_20 (sl_afterV (sl_RV.mono (fun M4 hM4 H => ?_) H))
  refine r_aload_n (k := 0) rfl rfl dX10_runs_23 ?_
  refine r_iconst dX10_runs_24 ?_
  refine r_pI (k := 54) (kz := 54) rfl ckX10 rfl rfl (by decide) rfl rfl rfl rfl fl_X10_391 ⟨by decide, by decide⟩ dX10_runs_25 ?_
  refine r_mm (fun M5 e5 => ?_)
  have H := H M5 e5
  have hM5 : sl_RM M5 := by rw [e5]; exact sl_wr_RM hM4 ⟨by decide, by decide⟩
  refine r_aload_n (k := 0) rfl rfl dX10_runs_28 ?_
  refine r_iconst dX10_runs_29 ?_
  refine r_pI (k := 55) (kz := 55) rfl ckX10 rfl rfl (by decide) rfl rfl rfl rfl fl_X10_377 ⟨by decide, by decide⟩ dX10_runs_30 ?_
  refine r_mm (fun M6 e6 => ?_)
  have H := H M6 e6
  have hM6 : sl_RM M6 := by rw [e6]; exact sl_wr_RM hM5 ⟨by decide, by decide⟩
  refine r_aload_n (k := 0) rfl rfl dX10_runs_33 ?_
  refine r_iconst dX10_runs_34 ?_
  refine r_pI (k := 56) (kz := 56) rfl ckX10 rfl rfl (by decide) rfl rfl rfl rfl fl_X10_388 ⟨by decide, by decide⟩ dX10_runs_35 ?_
  refine r_mm (fun M7 e7 => ?_)
  have H := H M7 e7
  have hM7 : sl_RM M7 := by rw [e7]; exact sl_wr_RM hM6 ⟨by decide, by decide⟩
  refine r_iconst dX10_runs_38 ?_
  refine r_istore_n (ls' := [(3, vI 0), (0, vR 1 0), (1, vI x1), (2, vI x2)]) ⟨by decide, by decide⟩ rfl (by decide) rfl dX10_runs_39 ?_
  refine r_iconst dX10_runs_40 ?_
  refine r_istore (ls' := [(4, vI 0), (3, vI 0), (0, vR 1 0), (1, vI x1), (2, vI x2)]) ⟨by decide, by decide⟩ (by decide) rfl dX10_runs_41 ?_
  refine r_aload_n (k := 2) rfl rfl dX10_runs_43 ?_
  refine r_iconst dX10_runs_44 ?_
  refine r_callV (g := mX10_manyOf) ckX10 rfl rfl rfl rfl mkX10_manyOf mvX10_manyOf ml_X10_201 ⟨by decide, by decide⟩ rfl (Nat.le_of_ble_eq_true rfl) rfl (ok_i ⟨by decide, by decide⟩ ok_n) dX10_runs_45 (sl_afterI (sl_RI.mono (fun y9 M8 gy9 hM8 H => ?_) H))
  have J : sl_At l mX10_runs 56 [(4, vI 0), (3, vI 0), (0, vR 1 0), (1, vI x1), (2, vI x2)] [vI (if ¬ (y9 ≤ 0) then 1 else 0)] M8 Q := by
    refine r_nm (fun y11 fy11 => ?_)
    have H := H y11 fy11
    have gy11 : sl_rg y11 := by rw [fy11]; exact rg_b
    refine r_istore (ls' := [(5, vI y11), (4, vI 0), (3, vI 0), (0, vR 1 0), (1, vI x1), (2, vI x2)]) gy11 (by decide) rfl dX10_runs_56 ?_
    exact sl_At.sub [3, 2, 1, 0] rfl H
  refine r_if_le (tgt := 55) gy9 dX10_runs_48 (by decide) (fun h10 => ?_) (fun h10 => ?_)
  · refine r_iconst dX10_runs_55 ?_
    rw [if_neg (show ¬ (¬ (y9 ≤ 0)) by omega)] at J
    exact J
  · refine r_iconst dX10_runs_51 ?_
    refine r_goto (tgt := 56) dX10_runs_52 (by decide) ?_
    rw [if_pos (show ¬ (y9 ≤ 0) by omega)] at J
    exact J
set_option maxHeartbeats 4000000 in
set_option maxRecDepth 10000 in
theorem vX10_runs_58 {l : Launch} {M : sl_M} {Q : sl_R} {x3 x4 x5 : Int} (H : sl_RM M → sl_rg x3 → sl_rg x4 → sl_rg x5 → ((x5 = 0) → (∀ M2, M2 = sl_wr M 1 0 58 (M 1 0 51) → Q (some (vI x4)) M2)) ∧ ((¬ (x5 = 0)) → (0 ≤ x3 ∧ x3 < 82) ∧ ((M 1 17 x3 ≠ 7) → sl_RI l mX10_steps [vR 1 0, vI 0, vI x3, vI 0] M (fun y6 M5 => sl_At l mX10_runs 131 [(0, vR 1 0), (3, vI x3), (6, vI y6)] [] M5 Q)) ∧ ((¬ (M 1 17 x3 ≠ 7)) → sl_RI l mX10_goesThrough [vR 1 0, vI (M 1 22 x3)] M (fun y8 M7 => ((y8 = 0) → sl_At l mX10_runs 101 [(0, vR 1 0), (3, vI x3), (7, vI y8)] [] M7 Q) ∧ ((¬ (y8 = 0)) → sl_RV l mX10_takesBack [vR 1 0, vI (M7 1 22 x3)] M7 (fun M10 => sl_At l mX10_runs 101 [(0, vR 1 0), (3, vI x3), (7, vI y8)] [] M10 Q)))))) : sl_At l mX10_runs 58 [(0, vR 1 0), (3, vI x3), (4, vI x4), (5, vI x5)] [] M Q := by
  refine sl_At.in (fun hM hls => ?_)
  have g3 : sl_rg x3 := hls _ (List.mem_of_getElem? (i := 1) rfl)
  have g4 : sl_rg x4 := hls _ (List.mem_of_getElem? (i := 2) rfl)
  have g5 : sl_rg x5 := hls _ (List.mem_of_getElem? (i := 3) rfl)
  have H := H hM g3 g4 g5
  refine r_iload (k := 3) rfl dX10_runs_58 ?_
  refine r_if_eq (tgt := 202) g5 dX10_runs_60 (by decide) (fun h1 => ?_) (fun h1 => ?_)
  · have H := H.1 h1
    refine r_aload_n (k := 0) rfl rfl dX10_runs_202 ?_
    refine r_aload_n (k := 0) rfl rfl dX10_runs_203 ?_
    refine r_gI (k := 51) (kz := 51) rfl ckX10 rfl rfl (by decide) rfl rfl fl_X10_368 dX10_runs_204 ?_
    refine r_pI (k := 58) (kz := 58) rfl ckX10 rfl rfl (by decide) rfl rfl rfl rfl fl_X10_407 (hM _ _ _) dX10_runs_207 ?_
    refine r_mm (fun M2 e2 => ?_)
    have H := H M2 e2
    have hM2 : sl_RM M2 := by rw [e2]; exact sl_wr_RM hM (hM _ _ _)
    refine r_iload (k := 2) rfl dX10_runs_210 ?_
    refine r_iret rfl g4 dX10_runs_212 ?_
    exact H
  · have H := H.2 h1
    refine r_aload_n (k := 0) rfl rfl dX10_runs_63 ?_
    refine r_getR (k := 16) (o' := 1) (i' := 17) ckX10 rfl rfl (by decide) rfl rfl rfl fl_X10_31 dX10_runs_64 ?_
    refine r_iload_n (k := 1) rfl rfl dX10_runs_67 ?_
    obtain ⟨c3, H⟩ := H
    refine r_iald rfl rfl rfl c3 dX10_runs_68 ?_
    refine r_bipush dX10_runs_69 (by decide) ?_
    refine r_icmp_ne (tgt := 122) (hM _ _ _) ⟨by decide, by decide⟩ dX10_runs_71 (by decide) (fun h4 => ?_) (fun h4 => ?_)
    · have H := H.1 h4
      refine r_aload_n (k := 0) rfl rfl dX10_runs_122 ?_
      refine r_iconst dX10_runs_123 ?_
      refine r_iload_n (k := 1) rfl rfl dX10_runs_124 ?_
      refine r_iconst dX10_runs_125 ?_
      refine r_callV (g := mX10_steps) ckX10 rfl rfl rfl rfl mkX10_steps mvX10_steps ml_X10_394 ⟨by decide, by decide⟩ rfl (Nat.le_of_ble_eq_true rfl) rfl (ok_i ⟨by decide, by decide⟩ (ok_i g3 (ok_i ⟨by decide, by decide⟩ ok_n))) dX10_runs_126 (sl_afterI (sl_RI.mono (fun y6 M5 gy6 hM5 H => ?_) H))
      refine r_istore (ls' := [(6, vI y6), (0, vR 1 0), (3, vI x3), (4, vI x4), (5, vI x5)]) gy6 (by decide) rfl dX10_runs_129 ?_
      exact sl_At.sub [1, 2, 0] rfl H
    · have H := H.2 h4
      refine r_aload_n (k := 0) rfl rfl dX10_runs_74 ?_
      refine r_aload_n (k := 0) rfl rfl dX10_runs_75 ?_
      refine r_getR (k := 21) (o' := 1) (i' := 22) ckX10 rfl rfl (by decide) rfl rfl rfl fl_X10_46 dX10_runs_76 ?_
      refine r_iload_n (k := 1) rfl rfl dX10_runs_79 ?_
      refine r_iald rfl rfl rfl c3 dX10_runs_80 ?_
      refine r_callV (g := mX10_goesThrough) ckX10 rfl rfl rfl rfl mkX10_goesThrough mvX10_goesThrough ml_X10_398 ⟨by decide, by decide⟩ rfl (Nat.le_of_ble_eq_true rfl) rfl (ok_i (hM _ _ _) ok_n) dX10_runs_81 (sl_afterI (sl_RI.mono (fun y8 M7 gy8 hM7 H => ?_) H))
      refine r_istore (ls' := [(7, vI y8), (0, vR 1 0), (3, vI x3), (4, vI x4), (5, vI x5)]) gy8 (by decide) rfl dX10_runs_84 ?_
      refine r_iload (k := 0) rfl dX10_runs_86 ?_
      refine r_if_eq (tgt := 101) gy8 dX10_runs_88 (by decide) (fun h9 => ?_) (fun h9 => ?_)
      · have H := H.1 h9
        exact sl_At.sub [1, 2, 0] rfl H
      · have H := H.2 h9
        refine r_aload_n (k := 1) rfl rfl dX10_runs_91 ?_
        refine r_aload_n (k := 1) rfl rfl dX10_runs_92 ?_
        refine r_getR (k := 21) (o' := 1) (i' := 22) ckX10 rfl rfl (by decide) rfl rfl rfl fl_X10_46 dX10_runs_93 ?_
        refine r_iload_n (k := 2) rfl rfl dX10_runs_96 ?_
        refine r_iald rfl rfl rfl c3 dX10_runs_97 ?_
        refine r_callV (g := mX10_takesBack) ckX10 rfl rfl rfl rfl mkX10_takesBack mvX10_takesBack ml_X10_401 ⟨by decide, by decide⟩ rfl (Nat.le_of_ble_eq_true rfl) rfl (ok_i (hM7 _ _ _) ok_n) dX10_runs_98 (sl_afterV (sl_RV.mono (fun M10 hM10 H => ?_) H))
        exact sl_At.sub [1, 2, 0] rfl H
set_option maxHeartbeats 4000000 in
set_option maxRecDepth 10000 in
theorem vX10_runs_101 {l : Launch} {M : sl_M} {Q : sl_R} {x3 x7 : Int} (H : sl_RM M → sl_rg x3 → sl_rg x7 → ((x7 ≠ 0) → sl_RI l mX10_wayBy [vR 1 0, vI x3, vI x7] M (fun y3 M2 => sl_At l mX10_runs 131 [(0, vR 1 0), (3, vI x3), (6, vI y3)] [] M2 Q)) ∧ ((¬ (x7 ≠ 0)) → sl_At l mX10_runs 131 [(0, vR 1 0), (3, vI x3), (6, vI (-1))] [] M Q)) : sl_At l mX10_runs 101 [(0, vR 1 0), (3, vI x3), (7, vI x7)] [] M Q := by
  refine sl_At.in (fun hM hls => ?_)
  have g3 : sl_rg x3 := hls _ (List.mem_of_getElem? (i := 1) rfl)
  have g7 : sl_rg x7 := hls _ (List.mem_of_getElem? (i := 2) rfl)
  have H := H hM g3 g7
  refine r_iload (k := 2) rfl dX10_runs_101 ?_
  refine r_if_ne (tgt := 110) g7 dX10_runs_103 (by decide) (fun h1 => ?_) (fun h1 => ?_)
  · have H := H.1 h1
    refine r_aload_n (k := 0) rfl rfl dX10_runs_110 ?_
    refine r_iload_n (k := 1) rfl rfl dX10_runs_111 ?_
    refine r_iload (k := 2) rfl dX10_runs_112 ?_
    refine r_callV (g := mX10_wayBy) ckX10 rfl rfl rfl rfl mkX10_wayBy mvX10_wayBy ml_X10_404 ⟨by decide, by decide⟩ rfl (Nat.le_of_ble_eq_true rfl) rfl (ok_i g3 (ok_i g7 ok_n)) dX10_runs_114 (sl_afterI (sl_RI.mono (fun y3 M2 gy3 hM2 H => ?_) H))
    refine r_istore (ls' := [(6, vI y3), (0, vR 1 0), (3, vI x3), (7, vI x7)]) gy3 (by decide) rfl dX10_runs_117 ?_
    refine r_goto (tgt := 131) dX10_runs_119 (by decide) ?_
    exact sl_At.sub [1, 2, 0] rfl H
  · have H := H.2 h1
    refine r_iconst dX10_runs_106 ?_
    refine r_goto (tgt := 117) dX10_runs_107 (by decide) ?_
    refine r_istore (ls' := [(6, vI (-1)), (0, vR 1 0), (3, vI x3), (7, vI x7)]) ⟨by decide, by decide⟩ (by decide) rfl dX10_runs_117 ?_
    refine r_goto (tgt := 131) dX10_runs_119 (by decide) ?_
    exact sl_At.sub [1, 2, 0] rfl H
set_option maxHeartbeats 4000000 in
set_option maxRecDepth 10000 in
theorem vX10_runs_131 {l : Launch} {M : sl_M} {Q : sl_R} {x3 x6 : Int} (H : sl_RM M → sl_rg x3 → sl_rg x6 → ((0 ≤ x6) → (0 ≤ (4 * x3) + x6 ∧ (4 * x3) + x6 < 328) ∧ (∀ y4 : Int, y4 = (if ¬ (M 1 28 ((4 * x3) + x6) ≠ 8) then 1 else 0) → sl_RI l mX10_manyOf [vR 1 0, vI 0] M (fun y6 M5 => (∀ y8 : Int, y8 = (if ¬ (y6 ≤ M 1 26 ((4 * x3) + x6)) then 1 else 0) → sl_At l mX10_runs 58 [(0, vR 1 0), (3, vI (M 1 26 ((4 * x3) + x6))), (4, vI y4), (5, vI y8)] [] M5 Q)))) ∧ ((¬ (0 ≤ x6)) → sl_At l mX10_runs 58 [(0, vR 1 0), (3, vI x3), (4, vI (M 1 0 59)), (5, vI 0)] [] M Q)) : sl_At l mX10_runs 131 [(0, vR 1 0), (3, vI x3), (6, vI x6)] [] M Q := by
  refine sl_At.in (fun hM hls => ?_)
  have g3 : sl_rg x3 := hls _ (List.mem_of_getElem? (i := 1) rfl)
  have g6 : sl_rg x6 := hls _ (List.mem_of_getElem? (i := 2) rfl)
  have H := H hM g3 g6
  refine r_iload (k := 2) rfl dX10_runs_131 ?_
  refine r_if_ge (tgt := 148) g6 dX10_runs_133 (by decide) (fun h1 => ?_) (fun h1 => ?_)
  · have H := H.1 h1
    refine r_aload_n (k := 0) rfl rfl dX10_runs_148 ?_
    refine r_getR (k := 27) (o' := 1) (i' := 28) ckX10 rfl rfl (by decide) rfl rfl rfl fl_X10_64 dX10_runs_149 ?_
    refine r_iconst dX10_runs_152 ?_
    refine r_iload_n (k := 1) rfl rfl dX10_runs_153 ?_
    refine r_imul dX10_runs_154 ?_
    refine r_iload (k := 2) rfl dX10_runs_155 ?_
    refine r_iadd dX10_runs_157 ?_
    obtain ⟨c2, H⟩ := H
    refine r_iald rfl rfl rfl c2 dX10_runs_158 ?_
    refine r_bipush dX10_runs_159 (by decide) ?_
    have J : sl_At l mX10_runs 169 [(0, vR 1 0), (3, vI x3), (6, vI x6)] [vI (if ¬ (M 1 28 ((4 * x3) + x6) ≠ 8) then 1 else 0)] M Q := by
      refine r_nm (fun y4 fy4 => ?_)
      have H := H y4 fy4
      have gy4 : sl_rg y4 := by rw [fy4]; exact rg_b
      refine r_istore (ls' := [(4, vI y4), (0, vR 1 0), (3, vI x3), (6, vI x6)]) gy4 (by decide) rfl dX10_runs_169 ?_
      refine r_aload_n (k := 1) rfl rfl dX10_runs_171 ?_
      refine r_getR (k := 25) (o' := 1) (i' := 26) ckX10 rfl rfl (by decide) rfl rfl rfl fl_X10_58 dX10_runs_172 ?_
      refine r_iconst dX10_runs_175 ?_
      refine r_iload_n (k := 2) rfl rfl dX10_runs_176 ?_
      refine r_imul dX10_runs_177 ?_
      refine r_iload (k := 3) rfl dX10_runs_178 ?_
      refine r_iadd dX10_runs_180 ?_
      refine r_iald rfl rfl rfl c2 dX10_runs_181 ?_
      refine r_istore_n (ls' := [(3, vI (M 1 26 ((4 * x3) + x6))), (4, vI y4), (0, vR 1 0), (6, vI x6)]) (hM _ _ _) rfl (by decide) rfl dX10_runs_182 ?_
      refine r_iload_n (k := 0) rfl rfl dX10_runs_183 ?_
      refine r_aload_n (k := 2) rfl rfl dX10_runs_184 ?_
      refine r_iconst dX10_runs_185 ?_
      refine r_callV (g := mX10_manyOf) ckX10 rfl rfl rfl rfl mkX10_manyOf mvX10_manyOf ml_X10_201 ⟨by decide, by decide⟩ rfl (Nat.le_of_ble_eq_true rfl) rfl (ok_i ⟨by decide, by decide⟩ ok_n) dX10_runs_186 (sl_afterI (sl_RI.mono (fun y6 M5 gy6 hM5 H => ?_) H))
      have J : sl_At l mX10_runs 197 [(3, vI (M 1 26 ((4 * x3) + x6))), (4, vI y4), (0, vR 1 0), (6, vI x6)] [vI (if ¬ (y6 ≤ M 1 26 ((4 * x3) + x6)) then 1 else 0)] M5 Q := by
        refine r_nm (fun y8 fy8 => ?_)
        have H := H y8 fy8
        have gy8 : sl_rg y8 := by rw [fy8]; exact rg_b
        refine r_istore (ls' := [(5, vI y8), (3, vI (M 1 26 ((4 * x3) + x6))), (4, vI y4), (0, vR 1 0), (6, vI x6)]) gy8 (by decide) rfl dX10_runs_197 ?_
        refine r_goto (tgt := 58) dX10_runs_199 (by decide) ?_
        exact sl_At.sub [3, 1, 2, 0] rfl H
      refine r_icmp_ge (tgt := 196) (hM _ _ _) gy6 dX10_runs_189 (by decide) (fun h7 => ?_) (fun h7 => ?_)
      · refine r_iconst dX10_runs_196 ?_
        rw [if_neg (show ¬ (¬ (y6 ≤ M 1 26 ((4 * x3) + x6))) by omega)] at J
        exact J
      · refine r_iconst dX10_runs_192 ?_
        refine r_goto (tgt := 197) dX10_runs_193 (by decide) ?_
        rw [if_pos (show ¬ (y6 ≤ M 1 26 ((4 * x3) + x6)) by omega)] at J
        exact J
    refine r_icmp_ne (tgt := 168) (hM _ _ _) ⟨by decide, by decide⟩ dX10_runs_161 (by decide) (fun h3 => ?_) (fun h3 => ?_)
    · refine r_iconst dX10_runs_168 ?_
      rw [if_neg (show ¬ (¬ (M 1 28 ((4 * x3) + x6) ≠ 8)) by omega)] at J
      exact J
    · refine r_iconst dX10_runs_164 ?_
      refine r_goto (tgt := 169) dX10_runs_165 (by decide) ?_
      rw [if_pos (show ¬ (M 1 28 ((4 * x3) + x6) ≠ 8) by omega)] at J
      exact J
  · have H := H.2 h1
    refine r_aload_n (k := 0) rfl rfl dX10_runs_136 ?_
    refine r_gI (k := 59) (kz := 59) rfl ckX10 rfl rfl (by decide) rfl rfl fl_X10_362 dX10_runs_137 ?_
    refine r_istore (ls' := [(4, vI (M 1 0 59)), (0, vR 1 0), (3, vI x3), (6, vI x6)]) (hM _ _ _) (by decide) rfl dX10_runs_140 ?_
    refine r_iconst dX10_runs_142 ?_
    refine r_istore (ls' := [(5, vI 0), (4, vI (M 1 0 59)), (0, vR 1 0), (3, vI x3), (6, vI x6)]) ⟨by decide, by decide⟩ (by decide) rfl dX10_runs_143 ?_
    refine r_goto (tgt := 199) dX10_runs_145 (by decide) ?_
    refine r_goto (tgt := 58) dX10_runs_199 (by decide) ?_
    exact sl_At.sub [2, 3, 1, 0] rfl H
theorem eX10_runs {l : Launch} {M : sl_M} {Q : sl_R} {x1 x2 : Int} (k : sl_At l mX10_runs 0 [(0, vR 1 0), (1, vI x1), (2, vI x2)] [] M Q) : sl_Runs l mX10_runs [vR 1 0, vI x1, vI x2] M Q := sl_Runs.of (ls := [(0, vR 1 0), (1, vI x1), (2, vI x2)]) rfl rfl (fun _ => rfl) (fun _ => Nat.le_of_ble_eq_true rfl) rfl (k)
theorem dX10_ran_0 : decode cX10_ran 0 = .ok (.iload_n 1, 1) := by decide +kernel
theorem dX10_ran_1 : decode cX10_ran 1 = .ok (.iconst 0, 1) := by decide +kernel
theorem dX10_ran_2 : decode cX10_ran 2 = .ok (.iconst 4, 1) := by decide +kernel
theorem dX10_ran_3 : decode cX10_ran 3 = .ok (.invokestatic 135, 3) := by decide +kernel
theorem dX10_ran_6 : decode cX10_ran 6 = .ok (.ifCond .eq 7, 3) := by decide +kernel
theorem dX10_ran_9 : decode cX10_ran 9 = .ok (.iload_n 2, 1) := by decide +kernel
theorem dX10_ran_10 : decode cX10_ran 10 = .ok (.ifCond .ge 8, 3) := by decide +kernel
theorem dX10_ran_13 : decode cX10_ran 13 = .ok (.aload_n 0, 1) := by decide +kernel
theorem dX10_ran_14 : decode cX10_ran 14 = .ok (.invokevirtual 139, 3) := by decide +kernel
theorem dX10_ran_17 : decode cX10_ran 17 = .ok (.ireturn, 1) := by decide +kernel
theorem dX10_ran_18 : decode cX10_ran 18 = .ok (.iload_n 1, 1) := by decide +kernel
theorem dX10_ran_19 : decode cX10_ran 19 = .ok (.tableswitch 63 0 3 #[29, 34, 39, 44], 29) := by decide +kernel
theorem dX10_ran_48 : decode cX10_ran 48 = .ok (.aload_n 0, 1) := by decide +kernel
theorem dX10_ran_49 : decode cX10_ran 49 = .ok (.getfield 391, 3) := by decide +kernel
theorem dX10_ran_52 : decode cX10_ran 52 = .ok (.ireturn, 1) := by decide +kernel
theorem dX10_ran_53 : decode cX10_ran 53 = .ok (.aload_n 0, 1) := by decide +kernel
theorem dX10_ran_54 : decode cX10_ran 54 = .ok (.getfield 377, 3) := by decide +kernel
theorem dX10_ran_57 : decode cX10_ran 57 = .ok (.ireturn, 1) := by decide +kernel
theorem dX10_ran_58 : decode cX10_ran 58 = .ok (.aload_n 0, 1) := by decide +kernel
theorem dX10_ran_59 : decode cX10_ran 59 = .ok (.getfield 388, 3) := by decide +kernel
theorem dX10_ran_62 : decode cX10_ran 62 = .ok (.ireturn, 1) := by decide +kernel
theorem dX10_ran_63 : decode cX10_ran 63 = .ok (.iload_n 2, 1) := by decide +kernel
theorem dX10_ran_64 : decode cX10_ran 64 = .ok (.aload_n 0, 1) := by decide +kernel
theorem dX10_ran_65 : decode cX10_ran 65 = .ok (.getfield 388, 3) := by decide +kernel
theorem dX10_ran_68 : decode cX10_ran 68 = .ok (.if_icmp .ge 12, 3) := by decide +kernel
theorem dX10_ran_71 : decode cX10_ran 71 = .ok (.aload_n 0, 1) := by decide +kernel
theorem dX10_ran_72 : decode cX10_ran 72 = .ok (.getfield 107, 3) := by decide +kernel
theorem dX10_ran_75 : decode cX10_ran 75 = .ok (.iload_n 2, 1) := by decide +kernel
theorem dX10_ran_76 : decode cX10_ran 76 = .ok (.iaload, 1) := by decide +kernel
theorem dX10_ran_77 : decode cX10_ran 77 = .ok (.goto 4, 3) := by decide +kernel
theorem dX10_ran_80 : decode cX10_ran 80 = .ok (.iconst 0, 1) := by decide +kernel
theorem dX10_ran_81 : decode cX10_ran 81 = .ok (.ireturn, 1) := by decide +kernel
theorem dX10_ran_82 : decode cX10_ran 82 = .ok (.aload_n 0, 1) := by decide +kernel
theorem dX10_ran_83 : decode cX10_ran 83 = .ok (.getfield 407, 3) := by decide +kernel
theorem dX10_ran_86 : decode cX10_ran 86 = .ok (.ireturn, 1) := by decide +kernel
set_option maxHeartbeats 4000000 in
set_option maxRecDepth 10000 in
theorem vX10_ran_0 {l : Launch} {M : sl_M} {Q : sl_R} {x1 x2 : Int} (H : sl_RM M → sl_rg x1 → sl_rg x2 → ((¬ (0 ≤ x1 ∧ x1 ≤ 4)) → sl_RI l mX10_bad [vR 1 0] M (fun y3 M2 => Q (some (vI y3)) M2)) ∧ ((0 ≤ x1 ∧ x1 ≤ 4) → ((0 ≤ x2) → ((x1 = 0) → Q (some (vI (M 1 0 54))) M) ∧ ((x1 = 1) → Q (some (vI (M 1 0 55))) M) ∧ ((x1 = 2) → Q (some (vI (M 1 0 56))) M) ∧ ((x1 = 3) → (((¬ (M 1 0 56 ≤ x2)) → (0 ≤ x2 ∧ x2 < 400))) ∧ Q (some (vI (if M 1 0 56 ≤ x2 then 0 else M 1 58 x2))) M) ∧ ((¬ (x1 = 0) ∧ ¬ (x1 = 1) ∧ ¬ (x1 = 2) ∧ ¬ (x1 = 3)) → Q (some (vI (M 1 0 58))) M)) ∧ ((¬ (0 ≤ x2)) → sl_RI l mX10_bad [vR 1 0] M (fun y12 M11 => Q (some (vI y12)) M11)))) : sl_At l mX10_ran 0 [(0, vR 1 0), (1, vI x1), (2, vI x2)] [] M Q := by
  refine sl_At.in (fun hM hls => ?_)
  have g1 : sl_rg x1 := hls _ (List.mem_of_getElem? (i := 1) rfl)
  have g2 : sl_rg x2 := hls _ (List.mem_of_getElem? (i := 2) rfl)
  have H := H hM g1 g2
  refine r_iload_n (k := 1) rfl rfl dX10_ran_0 ?_
  refine r_iconst dX10_ran_1 ?_
  refine r_iconst dX10_ran_2 ?_
  refine r_callS (g := mX10_in) rfl mkX10_in msX10_in ml_X10_135 ⟨by decide, by decide⟩ rfl (Nat.le_of_ble_eq_true rfl) rfl (ok_i g1 (ok_i ⟨by decide, by decide⟩ (ok_i ⟨by decide, by decide⟩ ok_n))) dX10_ran_3 (sl_afterI (sl_RI.by kX10_in ?_))
  refine r_if_eq (tgt := 13) rg_b dX10_ran_6 (by decide) (fun h1 => ?_) (fun h1 => ?_)
  · have H := H.1 (b_eq0.mp h1)
    refine r_aload_n (k := 0) rfl rfl dX10_ran_13 ?_
    refine r_callV (g := mX10_bad) ckX10 rfl rfl rfl rfl mkX10_bad mvX10_bad ml_X10_139 ⟨by decide, by decide⟩ rfl (Nat.le_of_ble_eq_true rfl) rfl ok_n dX10_ran_14 (sl_afterI (sl_RI.mono (fun y3 M2 gy3 hM2 H => ?_) H))
    refine r_iret rfl gy3 dX10_ran_17 ?_
    exact H
  · have H := H.2 (b_ne0.mp h1)
    refine r_iload_n (k := 2) rfl rfl dX10_ran_9 ?_
    refine r_if_ge (tgt := 18) g2 dX10_ran_10 (by decide) (fun h4 => ?_) (fun h4 => ?_)
    · have H := H.1 h4
      refine r_iload_n (k := 1) rfl rfl dX10_ran_18 ?_
      by_cases h7 : x1 = 0
      · refine r_tsIn (tgt := 48) 0 g1 dX10_ran_19 (by omega) (by decide) rfl (by decide) ?_
        have H := H.1 (by omega)
        refine r_aload_n (k := 0) rfl rfl dX10_ran_48 ?_
        refine r_gI (k := 54) (kz := 54) rfl ckX10 rfl rfl (by decide) rfl rfl fl_X10_391 dX10_ran_49 ?_
        refine r_iret rfl (hM _ _ _) dX10_ran_52 ?_
        exact H
      by_cases h8 : x1 = 1
      · refine r_tsIn (tgt := 53) 1 g1 dX10_ran_19 (by omega) (by decide) rfl (by decide) ?_
        have H := H.2.1 (by omega)
        refine r_aload_n (k := 0) rfl rfl dX10_ran_53 ?_
        refine r_gI (k := 55) (kz := 55) rfl ckX10 rfl rfl (by decide) rfl rfl fl_X10_377 dX10_ran_54 ?_
        refine r_iret rfl (hM _ _ _) dX10_ran_57 ?_
        exact H
      by_cases h9 : x1 = 2
      · refine r_tsIn (tgt := 58) 2 g1 dX10_ran_19 (by omega) (by decide) rfl (by decide) ?_
        have H := H.2.2.1 (by omega)
        refine r_aload_n (k := 0) rfl rfl dX10_ran_58 ?_
        refine r_gI (k := 56) (kz := 56) rfl ckX10 rfl rfl (by decide) rfl rfl fl_X10_388 dX10_ran_59 ?_
        refine r_iret rfl (hM _ _ _) dX10_ran_62 ?_
        exact H
      by_cases h10 : x1 = 3
      · refine r_tsIn (tgt := 63) 3 g1 dX10_ran_19 (by omega) (by decide) rfl (by decide) ?_
        have H := H.2.2.2.1 (by omega)
        refine r_iload_n (k := 2) rfl rfl dX10_ran_63 ?_
        refine r_aload_n (k := 0) rfl rfl dX10_ran_64 ?_
        refine r_gI (k := 56) (kz := 56) rfl ckX10 rfl rfl (by decide) rfl rfl fl_X10_388 dX10_ran_65 ?_
        obtain ⟨K, H⟩ := H
        have J : sl_At l mX10_ran 81 [(0, vR 1 0), (1, vI x1), (2, vI x2)] [vI (if M 1 0 56 ≤ x2 then 0 else M 1 58 x2)] M Q := by
          refine r_iret rfl (sl_rgite ⟨by decide, by decide⟩ (hM _ _ _)) dX10_ran_81 ?_
          exact H
        refine r_icmp_ge (tgt := 80) g2 (hM _ _ _) dX10_ran_68 (by decide) (fun h6 => ?_) (fun h6 => ?_)
        · refine r_iconst dX10_ran_80 ?_
          rw [if_pos h6] at J
          exact J
        · replace K := K h6
          have c5 := K
          refine r_aload_n (k := 0) rfl rfl dX10_ran_71 ?_
          refine r_getR (k := 57) (o' := 1) (i' := 58) ckX10 rfl rfl (by decide) rfl rfl rfl fl_X10_107 dX10_ran_72 ?_
          refine r_iload_n (k := 2) rfl rfl dX10_ran_75 ?_
          refine r_iald rfl rfl rfl c5 dX10_ran_76 ?_
          refine r_goto (tgt := 81) dX10_ran_77 (by decide) ?_
          rw [if_neg h6] at J
          exact J
      refine r_tsOut (tgt := 82) g1 dX10_ran_19 (by omega) (by decide) ?_
      have H := H.2.2.2.2 (by omega)
      refine r_aload_n (k := 0) rfl rfl dX10_ran_82 ?_
      refine r_gI (k := 58) (kz := 58) rfl ckX10 rfl rfl (by decide) rfl rfl fl_X10_407 dX10_ran_83 ?_
      refine r_iret rfl (hM _ _ _) dX10_ran_86 ?_
      exact H
    · have H := H.2 h4
      refine r_aload_n (k := 0) rfl rfl dX10_ran_13 ?_
      refine r_callV (g := mX10_bad) ckX10 rfl rfl rfl rfl mkX10_bad mvX10_bad ml_X10_139 ⟨by decide, by decide⟩ rfl (Nat.le_of_ble_eq_true rfl) rfl ok_n dX10_ran_14 (sl_afterI (sl_RI.mono (fun y12 M11 gy12 hM11 H => ?_) H))
      refine r_iret rfl gy12 dX10_ran_17 ?_
      exact H
theorem eX10_ran {l : Launch} {M : sl_M} {Q : sl_R} {x1 x2 : Int} (k : sl_At l mX10_ran 0 [(0, vR 1 0), (1, vI x1), (2, vI x2)] [] M Q) : sl_Runs l mX10_ran [vR 1 0, vI x1, vI x2] M Q := sl_Runs.of (ls := [(0, vR 1 0), (1, vI x1), (2, vI x2)]) rfl rfl (fun _ => rfl) (fun _ => Nat.le_of_ble_eq_true rfl) rfl (k)
theorem dX10_back_0 : decode cX10_back 0 = .ok (.aload_n 0, 1) := by decide +kernel
theorem dX10_back_1 : decode cX10_back 1 = .ok (.getfield 132, 3) := by decide +kernel
theorem dX10_back_4 : decode cX10_back 4 = .ok (.ifCond .ne 8, 3) := by decide +kernel
theorem dX10_back_7 : decode cX10_back 7 = .ok (.aload_n 0, 1) := by decide +kernel
theorem dX10_back_8 : decode cX10_back 8 = .ok (.invokevirtual 298, 3) := by decide +kernel
theorem dX10_back_11 : decode cX10_back 11 = .ok (.ireturn, 1) := by decide +kernel
theorem dX10_back_12 : decode cX10_back 12 = .ok (.aload_n 0, 1) := by decide +kernel
theorem dX10_back_13 : decode cX10_back 13 = .ok (.aload_n 0, 1) := by decide +kernel
theorem dX10_back_14 : decode cX10_back 14 = .ok (.getfield 129, 3) := by decide +kernel
theorem dX10_back_17 : decode cX10_back 17 = .ok (.bipush 6, 2) := by decide +kernel
theorem dX10_back_19 : decode cX10_back 19 = .ok (.iadd, 1) := by decide +kernel
theorem dX10_back_20 : decode cX10_back 20 = .ok (.iconst 1, 1) := by decide +kernel
theorem dX10_back_21 : decode cX10_back 21 = .ok (.isub, 1) := by decide +kernel
theorem dX10_back_22 : decode cX10_back 22 = .ok (.bipush 6, 2) := by decide +kernel
theorem dX10_back_24 : decode cX10_back 24 = .ok (.irem, 1) := by decide +kernel
theorem dX10_back_25 : decode cX10_back 25 = .ok (.putfield 129, 3) := by decide +kernel
theorem dX10_back_28 : decode cX10_back 28 = .ok (.aload_n 0, 1) := by decide +kernel
theorem dX10_back_29 : decode cX10_back 29 = .ok (.dup, 1) := by decide +kernel
theorem dX10_back_30 : decode cX10_back 30 = .ok (.getfield 132, 3) := by decide +kernel
theorem dX10_back_33 : decode cX10_back 33 = .ok (.iconst 1, 1) := by decide +kernel
theorem dX10_back_34 : decode cX10_back 34 = .ok (.isub, 1) := by decide +kernel
theorem dX10_back_35 : decode cX10_back 35 = .ok (.putfield 132, 3) := by decide +kernel
theorem dX10_back_38 : decode cX10_back 38 = .ok (.iconst 0, 1) := by decide +kernel
theorem dX10_back_39 : decode cX10_back 39 = .ok (.istore_n 1, 1) := by decide +kernel
theorem dX10_back_40 : decode cX10_back 40 = .ok (.iload_n 1, 1) := by decide +kernel
theorem dX10_back_41 : decode cX10_back 41 = .ok (.sipush 990, 3) := by decide +kernel
theorem dX10_back_44 : decode cX10_back 44 = .ok (.if_icmp .ge 30, 3) := by decide +kernel
theorem dX10_back_47 : decode cX10_back 47 = .ok (.aload_n 0, 1) := by decide +kernel
theorem dX10_back_48 : decode cX10_back 48 = .ok (.getfield 7, 3) := by decide +kernel
theorem dX10_back_51 : decode cX10_back 51 = .ok (.iload_n 1, 1) := by decide +kernel
theorem dX10_back_52 : decode cX10_back 52 = .ok (.aload_n 0, 1) := by decide +kernel
theorem dX10_back_53 : decode cX10_back 53 = .ok (.getfield 13, 3) := by decide +kernel
theorem dX10_back_56 : decode cX10_back 56 = .ok (.sipush 990, 3) := by decide +kernel
theorem dX10_back_59 : decode cX10_back 59 = .ok (.aload_n 0, 1) := by decide +kernel
theorem dX10_back_60 : decode cX10_back 60 = .ok (.getfield 129, 3) := by decide +kernel
theorem dX10_back_63 : decode cX10_back 63 = .ok (.imul, 1) := by decide +kernel
theorem dX10_back_64 : decode cX10_back 64 = .ok (.iload_n 1, 1) := by decide +kernel
theorem dX10_back_65 : decode cX10_back 65 = .ok (.iadd, 1) := by decide +kernel
theorem dX10_back_66 : decode cX10_back 66 = .ok (.iaload, 1) := by decide +kernel
theorem dX10_back_67 : decode cX10_back 67 = .ok (.iastore, 1) := by decide +kernel
theorem dX10_back_68 : decode cX10_back 68 = .ok (.iinc 1 1, 3) := by decide +kernel
theorem dX10_back_71 : decode cX10_back 71 = .ok (.goto (-31), 3) := by decide +kernel
theorem dX10_back_74 : decode cX10_back 74 = .ok (.aload_n 0, 1) := by decide +kernel
theorem dX10_back_75 : decode cX10_back 75 = .ok (.getfield 132, 3) := by decide +kernel
theorem dX10_back_78 : decode cX10_back 78 = .ok (.ireturn, 1) := by decide +kernel
set_option maxHeartbeats 4000000 in
set_option maxRecDepth 10000 in
theorem vX10_back_0 {l : Launch} {M : sl_M} {Q : sl_R} (H : sl_RM M → ((M 1 0 2 ≠ 0) → (∀ M2, M2 = sl_wr M 1 0 3 (irem (M 1 0 3 + 6 - 1) 6) → (sl_rg (M2 1 0 2 - 1)) ∧ (∀ M4, M4 = sl_wr M2 1 0 2 (M2 1 0 2 - 1) → sl_At l mX10_back 40 [(0, vR 1 0), (1, vI 0)] [] M4 Q))) ∧ ((¬ (M 1 0 2 ≠ 0)) → sl_RI l mX10_no [vR 1 0] M (fun y6 M5 => Q (some (vI y6)) M5))) : sl_At l mX10_back 0 [(0, vR 1 0)] [] M Q := by
  refine sl_At.in (fun hM hls => ?_)
  have H := H hM
  refine r_aload_n (k := 0) rfl rfl dX10_back_0 ?_
  refine r_gI (k := 2) (kz := 2) rfl ckX10 rfl rfl (by decide) rfl rfl fl_X10_132 dX10_back_1 ?_
  refine r_if_ne (tgt := 12) (hM _ _ _) dX10_back_4 (by decide) (fun h1 => ?_) (fun h1 => ?_)
  · have H := H.1 h1
    refine r_aload_n (k := 0) rfl rfl dX10_back_12 ?_
    refine r_aload_n (k := 0) rfl rfl dX10_back_13 ?_
    refine r_gI (k := 3) (kz := 3) rfl ckX10 rfl rfl (by decide) rfl rfl fl_X10_129 dX10_back_14 ?_
    refine r_bipush dX10_back_17 (by decide) ?_
    refine r_iadd dX10_back_19 ?_
    refine r_iconst dX10_back_20 ?_
    refine r_isub dX10_back_21 ?_
    refine r_bipush dX10_back_22 (by decide) ?_
    refine r_irem ⟨by decide, by decide⟩ (by decide) dX10_back_24 ?_
    refine r_pI (k := 3) (kz := 3) rfl ckX10 rfl rfl (by decide) rfl rfl rfl rfl fl_X10_129 (rg_irem _ _) dX10_back_25 ?_
    refine r_mm (fun M2 e2 => ?_)
    have H := H M2 e2
    have hM2 : sl_RM M2 := by rw [e2]; exact sl_wr_RM hM (rg_irem _ _)
    refine r_aload_n (k := 0) rfl rfl dX10_back_28 ?_
    refine r_dup rfl dX10_back_29 ?_
    refine r_gI (k := 2) (kz := 2) rfl ckX10 rfl rfl (by decide) rfl rfl fl_X10_132 dX10_back_30 ?_
    refine r_iconst dX10_back_33 ?_
    refine r_isub dX10_back_34 ?_
    obtain ⟨c3, H⟩ := H
    refine r_pI (k := 2) (kz := 2) rfl ckX10 rfl rfl (by decide) rfl rfl rfl rfl fl_X10_132 c3 dX10_back_35 ?_
    refine r_mm (fun M4 e4 => ?_)
    have H := H M4 e4
    have hM4 : sl_RM M4 := by rw [e4]; exact sl_wr_RM hM2 c3
    refine r_iconst dX10_back_38 ?_
    refine r_istore_n (ls' := [(1, vI 0), (0, vR 1 0)]) ⟨by decide, by decide⟩ rfl (by decide) rfl dX10_back_39 ?_
    exact sl_At.sub [1, 0] rfl H
  · have H := H.2 h1
    refine r_aload_n (k := 0) rfl rfl dX10_back_7 ?_
    refine r_callV (g := mX10_no) ckX10 rfl rfl rfl rfl mkX10_no mvX10_no ml_X10_298 ⟨by decide, by decide⟩ rfl (Nat.le_of_ble_eq_true rfl) rfl ok_n dX10_back_8 (sl_afterI (sl_RI.mono (fun y6 M5 gy6 hM5 H => ?_) H))
    refine r_iret rfl gy6 dX10_back_11 ?_
    exact H
set_option maxHeartbeats 4000000 in
set_option maxRecDepth 10000 in
theorem vX10_back_40 {l : Launch} {M : sl_M} {Q : sl_R} {x1 : Int} (H : sl_RM M → sl_rg x1 → ((990 ≤ x1) → Q (some (vI (M 1 0 2))) M) ∧ ((¬ (990 ≤ x1)) → (0 ≤ (990 * (M 1 0 3)) + x1 ∧ (990 * (M 1 0 3)) + x1 < 5940) ∧ (0 ≤ x1 ∧ x1 < 990) ∧ (∀ M4, M4 = sl_wr M 1 1 x1 (M 1 2 ((990 * (M 1 0 3)) + x1)) → (sl_rg (x1 + 1)) ∧ sl_At l mX10_back 40 [(0, vR 1 0), (1, vI (x1 + 1))] [] M4 Q))) : sl_At l mX10_back 40 [(0, vR 1 0), (1, vI x1)] [] M Q := by
  refine sl_At.in (fun hM hls => ?_)
  have g1 : sl_rg x1 := hls _ (List.mem_of_getElem? (i := 1) rfl)
  have H := H hM g1
  refine r_iload_n (k := 1) rfl rfl dX10_back_40 ?_
  refine r_sipush dX10_back_41 (by decide) ?_
  refine r_icmp_ge (tgt := 74) g1 ⟨by decide, by decide⟩ dX10_back_44 (by decide) (fun h1 => ?_) (fun h1 => ?_)
  · have H := H.1 h1
    refine r_aload_n (k := 0) rfl rfl dX10_back_74 ?_
    refine r_gI (k := 2) (kz := 2) rfl ckX10 rfl rfl (by decide) rfl rfl fl_X10_132 dX10_back_75 ?_
    refine r_iret rfl (hM _ _ _) dX10_back_78 ?_
    exact H
  · have H := H.2 h1
    refine r_aload_n (k := 0) rfl rfl dX10_back_47 ?_
    refine r_getR (k := 0) (o' := 1) (i' := 1) ckX10 rfl rfl (by decide) rfl rfl rfl fl_X10_7 dX10_back_48 ?_
    refine r_iload_n (k := 1) rfl rfl dX10_back_51 ?_
    refine r_aload_n (k := 0) rfl rfl dX10_back_52 ?_
    refine r_getR (k := 1) (o' := 1) (i' := 2) ckX10 rfl rfl (by decide) rfl rfl rfl fl_X10_13 dX10_back_53 ?_
    refine r_sipush dX10_back_56 (by decide) ?_
    refine r_aload_n (k := 0) rfl rfl dX10_back_59 ?_
    refine r_gI (k := 3) (kz := 3) rfl ckX10 rfl rfl (by decide) rfl rfl fl_X10_129 dX10_back_60 ?_
    refine r_imul dX10_back_63 ?_
    refine r_iload_n (k := 1) rfl rfl dX10_back_64 ?_
    refine r_iadd dX10_back_65 ?_
    obtain ⟨c2, H⟩ := H
    refine r_iald rfl rfl rfl c2 dX10_back_66 ?_
    obtain ⟨c3, H⟩ := H
    refine r_iast rfl rfl rfl c3 (hM _ _ _) dX10_back_67 ?_
    refine r_mm (fun M4 e4 => ?_)
    have H := H M4 e4
    have hM4 : sl_RM M4 := by rw [e4]; exact sl_wr_RM hM (hM _ _ _)
    obtain ⟨c5, H⟩ := H
    refine r_iinc (k := 1) (ls' := [(1, vI (x1 + 1)), (0, vR 1 0)]) rfl c5 (by decide) rfl dX10_back_68 ?_
    refine r_goto (tgt := 40) dX10_back_71 (by decide) ?_
    exact sl_At.sub [1, 0] rfl H
theorem eX10_back {l : Launch} {M : sl_M} {Q : sl_R}  (k : sl_At l mX10_back 0 [(0, vR 1 0)] [] M Q) : sl_Runs l mX10_back [vR 1 0] M Q := sl_Runs.of (ls := [(0, vR 1 0)]) rfl rfl (fun _ => rfl) (fun _ => Nat.le_of_ble_eq_true rfl) rfl (k)
theorem dX10_toldOf_0 : decode cX10_toldOf 0 = .ok (.iload_n 1, 1) := by decide +kernel
theorem dX10_toldOf_1 : decode cX10_toldOf 1 = .ok (.tableswitch 78 0 5 #[39, 44, 49, 54, 59, 69], 39) := by decide +kernel
theorem dX10_toldOf_40 : decode cX10_toldOf 40 = .ok (.aload_n 0, 1) := by decide +kernel
theorem dX10_toldOf_41 : decode cX10_toldOf 41 = .ok (.getfield 119, 3) := by decide +kernel
theorem dX10_toldOf_44 : decode cX10_toldOf 44 = .ok (.ireturn, 1) := by decide +kernel
theorem dX10_toldOf_45 : decode cX10_toldOf 45 = .ok (.aload_n 0, 1) := by decide +kernel
theorem dX10_toldOf_46 : decode cX10_toldOf 46 = .ok (.getfield 123, 3) := by decide +kernel
theorem dX10_toldOf_49 : decode cX10_toldOf 49 = .ok (.ireturn, 1) := by decide +kernel
theorem dX10_toldOf_50 : decode cX10_toldOf 50 = .ok (.aload_n 0, 1) := by decide +kernel
theorem dX10_toldOf_51 : decode cX10_toldOf 51 = .ok (.getfield 126, 3) := by decide +kernel
theorem dX10_toldOf_54 : decode cX10_toldOf 54 = .ok (.ireturn, 1) := by decide +kernel
theorem dX10_toldOf_55 : decode cX10_toldOf 55 = .ok (.aload_n 0, 1) := by decide +kernel
theorem dX10_toldOf_56 : decode cX10_toldOf 56 = .ok (.getfield 143, 3) := by decide +kernel
theorem dX10_toldOf_59 : decode cX10_toldOf 59 = .ok (.ireturn, 1) := by decide +kernel
theorem dX10_toldOf_60 : decode cX10_toldOf 60 = .ok (.aload_n 0, 1) := by decide +kernel
theorem dX10_toldOf_61 : decode cX10_toldOf 61 = .ok (.invokevirtual 292, 3) := by decide +kernel
theorem dX10_toldOf_64 : decode cX10_toldOf 64 = .ok (.aload_n 0, 1) := by decide +kernel
theorem dX10_toldOf_65 : decode cX10_toldOf 65 = .ok (.iconst 0, 1) := by decide +kernel
theorem dX10_toldOf_66 : decode cX10_toldOf 66 = .ok (.invokevirtual 201, 3) := by decide +kernel
theorem dX10_toldOf_69 : decode cX10_toldOf 69 = .ok (.ireturn, 1) := by decide +kernel
theorem dX10_toldOf_70 : decode cX10_toldOf 70 = .ok (.aload_n 0, 1) := by decide +kernel
theorem dX10_toldOf_71 : decode cX10_toldOf 71 = .ok (.getfield 7, 3) := by decide +kernel
theorem dX10_toldOf_74 : decode cX10_toldOf 74 = .ok (.sipush 761, 3) := by decide +kernel
theorem dX10_toldOf_77 : decode cX10_toldOf 77 = .ok (.iaload, 1) := by decide +kernel
theorem dX10_toldOf_78 : decode cX10_toldOf 78 = .ok (.ireturn, 1) := by decide +kernel
theorem dX10_toldOf_79 : decode cX10_toldOf 79 = .ok (.aload_n 0, 1) := by decide +kernel
theorem dX10_toldOf_80 : decode cX10_toldOf 80 = .ok (.getfield 132, 3) := by decide +kernel
theorem dX10_toldOf_83 : decode cX10_toldOf 83 = .ok (.ireturn, 1) := by decide +kernel
set_option maxHeartbeats 4000000 in
set_option maxRecDepth 10000 in
theorem vX10_toldOf_0 {l : Launch} {M : sl_M} {Q : sl_R} {x1 : Int} (H : sl_RM M → sl_rg x1 → ((x1 = 0) → Q (some (vI (M 1 0 4))) M) ∧ ((x1 = 1) → Q (some (vI (M 1 0 5))) M) ∧ ((x1 = 2) → Q (some (vI (M 1 0 6))) M) ∧ ((x1 = 3) → Q (some (vI (M 1 0 7))) M) ∧ ((x1 = 4) → sl_RV l mX10_lays [vR 1 0] M (fun M1 => sl_RI l mX10_manyOf [vR 1 0, vI 0] M1 (fun y3 M2 => Q (some (vI y3)) M2))) ∧ ((x1 = 5) → Q (some (vI (M 1 1 761))) M) ∧ ((¬ (x1 = 0) ∧ ¬ (x1 = 1) ∧ ¬ (x1 = 2) ∧ ¬ (x1 = 3) ∧ ¬ (x1 = 4) ∧ ¬ (x1 = 5)) → Q (some (vI (M 1 0 2))) M)) : sl_At l mX10_toldOf 0 [(0, vR 1 0), (1, vI x1)] [] M Q := by
  refine sl_At.in (fun hM hls => ?_)
  have g1 : sl_rg x1 := hls _ (List.mem_of_getElem? (i := 1) rfl)
  have H := H hM g1
  refine r_iload_n (k := 1) rfl rfl dX10_toldOf_0 ?_
  by_cases h4 : x1 = 0
  · refine r_tsIn (tgt := 40) 0 g1 dX10_toldOf_1 (by omega) (by decide) rfl (by decide) ?_
    have H := H.1 (by omega)
    refine r_aload_n (k := 0) rfl rfl dX10_toldOf_40 ?_
    refine r_gI (k := 4) (kz := 4) rfl ckX10 rfl rfl (by decide) rfl rfl fl_X10_119 dX10_toldOf_41 ?_
    refine r_iret rfl (hM _ _ _) dX10_toldOf_44 ?_
    exact H
  by_cases h5 : x1 = 1
  · refine r_tsIn (tgt := 45) 1 g1 dX10_toldOf_1 (by omega) (by decide) rfl (by decide) ?_
    have H := H.2.1 (by omega)
    refine r_aload_n (k := 0) rfl rfl dX10_toldOf_45 ?_
    refine r_gI (k := 5) (kz := 5) rfl ckX10 rfl rfl (by decide) rfl rfl fl_X10_123 dX10_toldOf_46 ?_
    refine r_iret rfl (hM _ _ _) dX10_toldOf_49 ?_
    exact H
  by_cases h6 : x1 = 2
  · refine r_tsIn (tgt := 50) 2 g1 dX10_toldOf_1 (by omega) (by decide) rfl (by decide) ?_
    have H := H.2.2.1 (by omega)
    refine r_aload_n (k := 0) rfl rfl dX10_toldOf_50 ?_
    refine r_gI (k := 6) (kz := 6) rfl ckX10 rfl rfl (by decide) rfl rfl fl_X10_126 dX10_toldOf_51 ?_
    refine r_iret rfl (hM _ _ _) dX10_toldOf_54 ?_
    exact H
  by_cases h7 : x1 = 3
  · refine r_tsIn (tgt := 55) 3 g1 dX10_toldOf_1 (by omega) (by decide) rfl (by decide) ?_
    have H := H.2.2.2.1 (by omega)
    refine r_aload_n (k := 0) rfl rfl dX10_toldOf_55 ?_
    refine r_gI (k := 7) (kz := 7) rfl ckX10 rfl rfl (by decide) rfl rfl fl_X10_143 dX10_toldOf_56 ?_
    refine r_iret rfl (hM _ _ _) dX10_toldOf_59 ?_
    exact H
  by_cases h8 : x1 = 4
  · refine r_tsIn (tgt := 60) 4 g1 dX10_toldOf_1 (by omega) (by decide) rfl (by decide) ?_
    have H := H.2.2.2.2.1 (by omega)
    refine r_aload_n (k := 0) rfl rfl dX10_toldOf_60 ?_
    refine r_callV (g := mX10_lays) ckX10 rfl rfl rfl rfl mkX10_lays mvX10_lays ml_X10_292 ⟨by decide, by decide⟩ rfl (Nat.le_of_ble_eq_true rfl) rfl ok_n dX10_toldOf_61 (sl_afterV (sl_RV.mono (fun M1 hM1 H => ?_) H))
    refine r_aload_n (k := 0) rfl rfl dX10_toldOf_64 ?_
    refine r_iconst dX10_toldOf_65 ?_
    refine r_callV (g := mX10_manyOf) ckX10 rfl rfl rfl rfl mkX10_manyOf mvX10_manyOf ml_X10_201 ⟨by decide, by decide⟩ rfl (Nat.le_of_ble_eq_true rfl) rfl (ok_i ⟨by decide, by decide⟩ ok_n) dX10_toldOf_66 (sl_afterI (sl_RI.mono (fun y3 M2 gy3 hM2 H => ?_) H))
    refine r_iret rfl gy3 dX10_toldOf_69 ?_
    exact H
  by_cases h9 : x1 = 5
  · refine r_tsIn (tgt := 70) 5 g1 dX10_toldOf_1 (by omega) (by decide) rfl (by decide) ?_
    have H := H.2.2.2.2.2.1 (by omega)
    refine r_aload_n (k := 0) rfl rfl dX10_toldOf_70 ?_
    refine r_getR (k := 0) (o' := 1) (i' := 1) ckX10 rfl rfl (by decide) rfl rfl rfl fl_X10_7 dX10_toldOf_71 ?_
    refine r_sipush dX10_toldOf_74 (by decide) ?_
    refine r_iald rfl rfl rfl ⟨by decide, by decide⟩ dX10_toldOf_77 ?_
    refine r_iret rfl (hM _ _ _) dX10_toldOf_78 ?_
    exact H
  refine r_tsOut (tgt := 79) g1 dX10_toldOf_1 (by omega) (by decide) ?_
  have H := H.2.2.2.2.2.2 (by omega)
  refine r_aload_n (k := 0) rfl rfl dX10_toldOf_79 ?_
  refine r_gI (k := 2) (kz := 2) rfl ckX10 rfl rfl (by decide) rfl rfl fl_X10_132 dX10_toldOf_80 ?_
  refine r_iret rfl (hM _ _ _) dX10_toldOf_83 ?_
  exact H
theorem eX10_toldOf {l : Launch} {M : sl_M} {Q : sl_R} {x1 : Int} (k : sl_At l mX10_toldOf 0 [(0, vR 1 0), (1, vI x1)] [] M Q) : sl_Runs l mX10_toldOf [vR 1 0, vI x1] M Q := sl_Runs.of (ls := [(0, vR 1 0), (1, vI x1)]) rfl rfl (fun _ => rfl) (fun _ => Nat.le_of_ble_eq_true rfl) rfl (k)
theorem dX10_told_0 : decode cX10_told 0 = .ok (.iload_n 1, 1) := by decide +kernel
theorem dX10_told_1 : decode cX10_told 1 = .ok (.iconst 0, 1) := by decide +kernel
theorem dX10_told_2 : decode cX10_told 2 = .ok (.bipush 6, 2) := by decide +kernel
theorem dX10_told_4 : decode cX10_told 4 = .ok (.invokestatic 135, 3) := by decide +kernel
theorem dX10_told_7 : decode cX10_told 7 = .ok (.ifCond .eq 11, 3) := by decide +kernel
theorem dX10_told_10 : decode cX10_told 10 = .ok (.aload_n 0, 1) := by decide +kernel
theorem dX10_told_11 : decode cX10_told 11 = .ok (.iload_n 1, 1) := by decide +kernel
theorem dX10_told_12 : decode cX10_told 12 = .ok (.invokevirtual 410, 3) := by decide +kernel
theorem dX10_told_15 : decode cX10_told 15 = .ok (.goto 7, 3) := by decide +kernel
theorem dX10_told_18 : decode cX10_told 18 = .ok (.aload_n 0, 1) := by decide +kernel
theorem dX10_told_19 : decode cX10_told 19 = .ok (.invokevirtual 139, 3) := by decide +kernel
theorem dX10_told_22 : decode cX10_told 22 = .ok (.ireturn, 1) := by decide +kernel
set_option maxHeartbeats 4000000 in
set_option maxRecDepth 10000 in
theorem vX10_told_0 {l : Launch} {M : sl_M} {Q : sl_R} {x1 : Int} (H : sl_RM M → sl_rg x1 → ((¬ (0 ≤ x1 ∧ x1 ≤ 6)) → sl_RI l mX10_bad [vR 1 0] M (fun y3 M2 => Q (some (vI y3)) M2)) ∧ ((0 ≤ x1 ∧ x1 ≤ 6) → sl_RI l mX10_toldOf [vR 1 0, vI x1] M (fun y5 M4 => Q (some (vI y5)) M4))) : sl_At l mX10_told 0 [(0, vR 1 0), (1, vI x1)] [] M Q := by
  refine sl_At.in (fun hM hls => ?_)
  have g1 : sl_rg x1 := hls _ (List.mem_of_getElem? (i := 1) rfl)
  have H := H hM g1
  refine r_iload_n (k := 1) rfl rfl dX10_told_0 ?_
  refine r_iconst dX10_told_1 ?_
  refine r_bipush dX10_told_2 (by decide) ?_
  refine r_callS (g := mX10_in) rfl mkX10_in msX10_in ml_X10_135 ⟨by decide, by decide⟩ rfl (Nat.le_of_ble_eq_true rfl) rfl (ok_i g1 (ok_i ⟨by decide, by decide⟩ (ok_i ⟨by decide, by decide⟩ ok_n))) dX10_told_4 (sl_afterI (sl_RI.by kX10_in ?_))
  refine r_if_eq (tgt := 18) rg_b dX10_told_7 (by decide) (fun h1 => ?_) (fun h1 => ?_)
  · have H := H.1 (b_eq0.mp h1)
    refine r_aload_n (k := 0) rfl rfl dX10_told_18 ?_
    refine r_callV (g := mX10_bad) ckX10 rfl rfl rfl rfl mkX10_bad mvX10_bad ml_X10_139 ⟨by decide, by decide⟩ rfl (Nat.le_of_ble_eq_true rfl) rfl ok_n dX10_told_19 (sl_afterI (sl_RI.mono (fun y3 M2 gy3 hM2 H => ?_) H))
    refine r_iret rfl gy3 dX10_told_22 ?_
    exact H
  · have H := H.2 (b_ne0.mp h1)
    refine r_aload_n (k := 0) rfl rfl dX10_told_10 ?_
    refine r_iload_n (k := 1) rfl rfl dX10_told_11 ?_
    refine r_callV (g := mX10_toldOf) ckX10 rfl rfl rfl rfl mkX10_toldOf mvX10_toldOf ml_X10_410 ⟨by decide, by decide⟩ rfl (Nat.le_of_ble_eq_true rfl) rfl (ok_i g1 ok_n) dX10_told_12 (sl_afterI (sl_RI.mono (fun y5 M4 gy5 hM4 H => ?_) H))
    refine r_goto (tgt := 22) dX10_told_15 (by decide) ?_
    refine r_iret rfl gy5 dX10_told_22 ?_
    exact H
theorem eX10_told {l : Launch} {M : sl_M} {Q : sl_R} {x1 : Int} (k : sl_At l mX10_told 0 [(0, vR 1 0), (1, vI x1)] [] M Q) : sl_Runs l mX10_told [vR 1 0, vI x1] M Q := sl_Runs.of (ls := [(0, vR 1 0), (1, vI x1)]) rfl rfl (fun _ => rfl) (fun _ => Nat.le_of_ble_eq_true rfl) rfl (k)
theorem dX10_digest_0 : decode cX10_digest 0 = .ok (.ldc2_w 413, 3) := by decide +kernel
theorem dX10_digest_3 : decode cX10_digest 3 = .ok (.lstore_n 1, 1) := by decide +kernel
theorem dX10_digest_4 : decode cX10_digest 4 = .ok (.iconst 0, 1) := by decide +kernel
theorem dX10_digest_5 : decode cX10_digest 5 = .ok (.istore_n 3, 1) := by decide +kernel
theorem dX10_digest_6 : decode cX10_digest 6 = .ok (.iload_n 3, 1) := by decide +kernel
theorem dX10_digest_7 : decode cX10_digest 7 = .ok (.bipush 6, 2) := by decide +kernel
theorem dX10_digest_9 : decode cX10_digest 9 = .ok (.if_icmp .gt 22, 3) := by decide +kernel
theorem dX10_digest_12 : decode cX10_digest 12 = .ok (.ldc2_w 415, 3) := by decide +kernel
theorem dX10_digest_15 : decode cX10_digest 15 = .ok (.lload_n 1, 1) := by decide +kernel
theorem dX10_digest_16 : decode cX10_digest 16 = .ok (.lmul, 1) := by decide +kernel
theorem dX10_digest_17 : decode cX10_digest 17 = .ok (.aload_n 0, 1) := by decide +kernel
theorem dX10_digest_18 : decode cX10_digest 18 = .ok (.iload_n 3, 1) := by decide +kernel
theorem dX10_digest_19 : decode cX10_digest 19 = .ok (.invokevirtual 410, 3) := by decide +kernel
theorem dX10_digest_22 : decode cX10_digest 22 = .ok (.i2l, 1) := by decide +kernel
theorem dX10_digest_23 : decode cX10_digest 23 = .ok (.ladd, 1) := by decide +kernel
theorem dX10_digest_24 : decode cX10_digest 24 = .ok (.lstore_n 1, 1) := by decide +kernel
theorem dX10_digest_25 : decode cX10_digest 25 = .ok (.iinc 3 1, 3) := by decide +kernel
theorem dX10_digest_28 : decode cX10_digest 28 = .ok (.goto (-22), 3) := by decide +kernel
theorem dX10_digest_31 : decode cX10_digest 31 = .ok (.iconst 0, 1) := by decide +kernel
theorem dX10_digest_32 : decode cX10_digest 32 = .ok (.istore_n 3, 1) := by decide +kernel
theorem dX10_digest_33 : decode cX10_digest 33 = .ok (.iload_n 3, 1) := by decide +kernel
theorem dX10_digest_34 : decode cX10_digest 34 = .ok (.aload_n 0, 1) := by decide +kernel
theorem dX10_digest_35 : decode cX10_digest 35 = .ok (.iconst 0, 1) := by decide +kernel
theorem dX10_digest_36 : decode cX10_digest 36 = .ok (.invokevirtual 201, 3) := by decide +kernel
theorem dX10_digest_39 : decode cX10_digest 39 = .ok (.if_icmp .ge 75, 3) := by decide +kernel
theorem dX10_digest_42 : decode cX10_digest 42 = .ok (.iconst 0, 1) := by decide +kernel
theorem dX10_digest_43 : decode cX10_digest 43 = .ok (.istore 4, 2) := by decide +kernel
theorem dX10_digest_45 : decode cX10_digest 45 = .ok (.iload 4, 2) := by decide +kernel
theorem dX10_digest_47 : decode cX10_digest 47 = .ok (.bipush 6, 2) := by decide +kernel
theorem dX10_digest_49 : decode cX10_digest 49 = .ok (.if_icmp .gt 24, 3) := by decide +kernel
theorem dX10_digest_52 : decode cX10_digest 52 = .ok (.ldc2_w 415, 3) := by decide +kernel
theorem dX10_digest_55 : decode cX10_digest 55 = .ok (.lload_n 1, 1) := by decide +kernel
theorem dX10_digest_56 : decode cX10_digest 56 = .ok (.lmul, 1) := by decide +kernel
theorem dX10_digest_57 : decode cX10_digest 57 = .ok (.aload_n 0, 1) := by decide +kernel
theorem dX10_digest_58 : decode cX10_digest 58 = .ok (.iload_n 3, 1) := by decide +kernel
theorem dX10_digest_59 : decode cX10_digest 59 = .ok (.iload 4, 2) := by decide +kernel
theorem dX10_digest_61 : decode cX10_digest 61 = .ok (.invokevirtual 356, 3) := by decide +kernel
theorem dX10_digest_64 : decode cX10_digest 64 = .ok (.i2l, 1) := by decide +kernel
theorem dX10_digest_65 : decode cX10_digest 65 = .ok (.ladd, 1) := by decide +kernel
theorem dX10_digest_66 : decode cX10_digest 66 = .ok (.lstore_n 1, 1) := by decide +kernel
theorem dX10_digest_67 : decode cX10_digest 67 = .ok (.iinc 4 1, 3) := by decide +kernel
theorem dX10_digest_70 : decode cX10_digest 70 = .ok (.goto (-25), 3) := by decide +kernel
theorem dX10_digest_73 : decode cX10_digest 73 = .ok (.iconst 0, 1) := by decide +kernel
theorem dX10_digest_74 : decode cX10_digest 74 = .ok (.istore 4, 2) := by decide +kernel
theorem dX10_digest_76 : decode cX10_digest 76 = .ok (.aload_n 0, 1) := by decide +kernel
theorem dX10_digest_77 : decode cX10_digest 77 = .ok (.iload_n 3, 1) := by decide +kernel
theorem dX10_digest_78 : decode cX10_digest 78 = .ok (.iload 4, 2) := by decide +kernel
theorem dX10_digest_80 : decode cX10_digest 80 = .ok (.invokevirtual 359, 3) := by decide +kernel
theorem dX10_digest_83 : decode cX10_digest 83 = .ok (.iconst (-1), 1) := by decide +kernel
theorem dX10_digest_84 : decode cX10_digest 84 = .ok (.if_icmp .eq 24, 3) := by decide +kernel
theorem dX10_digest_87 : decode cX10_digest 87 = .ok (.ldc2_w 415, 3) := by decide +kernel
theorem dX10_digest_90 : decode cX10_digest 90 = .ok (.lload_n 1, 1) := by decide +kernel
theorem dX10_digest_91 : decode cX10_digest 91 = .ok (.lmul, 1) := by decide +kernel
theorem dX10_digest_92 : decode cX10_digest 92 = .ok (.aload_n 0, 1) := by decide +kernel
theorem dX10_digest_93 : decode cX10_digest 93 = .ok (.iload_n 3, 1) := by decide +kernel
theorem dX10_digest_94 : decode cX10_digest 94 = .ok (.iload 4, 2) := by decide +kernel
theorem dX10_digest_96 : decode cX10_digest 96 = .ok (.invokevirtual 359, 3) := by decide +kernel
theorem dX10_digest_99 : decode cX10_digest 99 = .ok (.i2l, 1) := by decide +kernel
theorem dX10_digest_100 : decode cX10_digest 100 = .ok (.ladd, 1) := by decide +kernel
theorem dX10_digest_101 : decode cX10_digest 101 = .ok (.lstore_n 1, 1) := by decide +kernel
theorem dX10_digest_102 : decode cX10_digest 102 = .ok (.iinc 4 1, 3) := by decide +kernel
theorem dX10_digest_105 : decode cX10_digest 105 = .ok (.goto (-29), 3) := by decide +kernel
theorem dX10_digest_108 : decode cX10_digest 108 = .ok (.iinc 3 1, 3) := by decide +kernel
theorem dX10_digest_111 : decode cX10_digest 111 = .ok (.goto (-78), 3) := by decide +kernel
theorem dX10_digest_114 : decode cX10_digest 114 = .ok (.iconst 0, 1) := by decide +kernel
theorem dX10_digest_115 : decode cX10_digest 115 = .ok (.istore_n 3, 1) := by decide +kernel
theorem dX10_digest_116 : decode cX10_digest 116 = .ok (.iload_n 3, 1) := by decide +kernel
theorem dX10_digest_117 : decode cX10_digest 117 = .ok (.aload_n 0, 1) := by decide +kernel
theorem dX10_digest_118 : decode cX10_digest 118 = .ok (.getfield 7, 3) := by decide +kernel
theorem dX10_digest_121 : decode cX10_digest 121 = .ok (.sipush 761, 3) := by decide +kernel
theorem dX10_digest_124 : decode cX10_digest 124 = .ok (.iaload, 1) := by decide +kernel
theorem dX10_digest_125 : decode cX10_digest 125 = .ok (.if_icmp .ge 39, 3) := by decide +kernel
theorem dX10_digest_128 : decode cX10_digest 128 = .ok (.iconst 0, 1) := by decide +kernel
theorem dX10_digest_129 : decode cX10_digest 129 = .ok (.istore 4, 2) := by decide +kernel
theorem dX10_digest_131 : decode cX10_digest 131 = .ok (.iload 4, 2) := by decide +kernel
theorem dX10_digest_133 : decode cX10_digest 133 = .ok (.iconst 5, 1) := by decide +kernel
theorem dX10_digest_134 : decode cX10_digest 134 = .ok (.if_icmp .gt 24, 3) := by decide +kernel
theorem dX10_digest_137 : decode cX10_digest 137 = .ok (.ldc2_w 415, 3) := by decide +kernel
theorem dX10_digest_140 : decode cX10_digest 140 = .ok (.lload_n 1, 1) := by decide +kernel
theorem dX10_digest_141 : decode cX10_digest 141 = .ok (.lmul, 1) := by decide +kernel
theorem dX10_digest_142 : decode cX10_digest 142 = .ok (.aload_n 0, 1) := by decide +kernel
theorem dX10_digest_143 : decode cX10_digest 143 = .ok (.iload_n 3, 1) := by decide +kernel
theorem dX10_digest_144 : decode cX10_digest 144 = .ok (.iload 4, 2) := by decide +kernel
theorem dX10_digest_146 : decode cX10_digest 146 = .ok (.invokevirtual 353, 3) := by decide +kernel
theorem dX10_digest_149 : decode cX10_digest 149 = .ok (.i2l, 1) := by decide +kernel
theorem dX10_digest_150 : decode cX10_digest 150 = .ok (.ladd, 1) := by decide +kernel
theorem dX10_digest_151 : decode cX10_digest 151 = .ok (.lstore_n 1, 1) := by decide +kernel
theorem dX10_digest_152 : decode cX10_digest 152 = .ok (.iinc 4 1, 3) := by decide +kernel
theorem dX10_digest_155 : decode cX10_digest 155 = .ok (.goto (-24), 3) := by decide +kernel
theorem dX10_digest_158 : decode cX10_digest 158 = .ok (.iinc 3 1, 3) := by decide +kernel
theorem dX10_digest_161 : decode cX10_digest 161 = .ok (.goto (-45), 3) := by decide +kernel
theorem dX10_digest_164 : decode cX10_digest 164 = .ok (.lload_n 1, 1) := by decide +kernel
theorem dX10_digest_165 : decode cX10_digest 165 = .ok (.lreturn, 1) := by decide +kernel
set_option maxHeartbeats 4000000 in
set_option maxRecDepth 10000 in
theorem vX10_digest_0 {l : Launch} {M : sl_M} {Q : sl_R} (H : sl_RM M → sl_At l mX10_digest 6 [(0, vR 1 0), (1, vL (2251 : Int64)), (3, vI 0)] [] M Q) : sl_At l mX10_digest 0 [(0, vR 1 0)] [] M Q := by
  refine sl_At.in (fun hM hls => ?_)
  have H := H hM
  refine r_ldc2 (n := 2251) cl_X10_413 dX10_digest_0 ?_
  refine r_lstore_n (ls' := [(1, vL (2251 : Int64)), (0, vR 1 0)]) rfl (by decide) rfl dX10_digest_3 ?_
  refine r_iconst dX10_digest_4 ?_
  refine r_istore_n (ls' := [(3, vI 0), (1, vL (2251 : Int64)), (0, vR 1 0)]) ⟨by decide, by decide⟩ rfl (by decide) rfl dX10_digest_5 ?_
  exact sl_At.sub [2, 1, 0] rfl H
set_option maxHeartbeats 4000000 in
set_option maxRecDepth 10000 in
theorem vX10_digest_6 {l : Launch} {M : sl_M} {Q : sl_R} {w1 : Int64} {x3 : Int} (H : sl_RM M → sl_rg x3 → ((6 < x3) → sl_At l mX10_digest 33 [(0, vR 1 0), (1, vL w1), (3, vI 0)] [] M Q) ∧ ((¬ (6 < x3)) → sl_RI l mX10_toldOf [vR 1 0, vI x3] M (fun y3 M2 => (sl_rg (x3 + 1)) ∧ sl_At l mX10_digest 6 [(0, vR 1 0), (1, vL (((31 : Int64) * w1) + ((Int32.ofInt y3).toInt64))), (3, vI (x3 + 1))] [] M2 Q))) : sl_At l mX10_digest 6 [(0, vR 1 0), (1, vL w1), (3, vI x3)] [] M Q := by
  refine sl_At.in (fun hM hls => ?_)
  have g3 : sl_rg x3 := hls _ (List.mem_of_getElem? (i := 2) rfl)
  have H := H hM g3
  refine r_iload_n (k := 2) rfl rfl dX10_digest_6 ?_
  refine r_bipush dX10_digest_7 (by decide) ?_
  refine r_icmp_gt (tgt := 31) g3 ⟨by decide, by decide⟩ dX10_digest_9 (by decide) (fun h1 => ?_) (fun h1 => ?_)
  · have H := H.1 h1
    refine r_iconst dX10_digest_31 ?_
    refine r_istore_n (ls' := [(3, vI 0), (0, vR 1 0), (1, vL w1)]) ⟨by decide, by decide⟩ rfl (by decide) rfl dX10_digest_32 ?_
    exact sl_At.sub [1, 2, 0] rfl H
  · have H := H.2 h1
    refine r_ldc2 (n := 31) cl_X10_415 dX10_digest_12 ?_
    refine r_lload_n (k := 1) rfl rfl dX10_digest_15 ?_
    refine r_lmul dX10_digest_16 ?_
    refine r_aload_n (k := 0) rfl rfl dX10_digest_17 ?_
    refine r_iload_n (k := 2) rfl rfl dX10_digest_18 ?_
    refine r_callV (g := mX10_toldOf) ckX10 rfl rfl rfl rfl mkX10_toldOf mvX10_toldOf ml_X10_410 ⟨by decide, by decide⟩ rfl (Nat.le_of_ble_eq_true rfl) rfl (ok_i g3 ok_n) dX10_digest_19 (sl_afterI (sl_RI.mono (fun y3 M2 gy3 hM2 H => ?_) H))
    refine r_i2l dX10_digest_22 ?_
    refine r_ladd dX10_digest_23 ?_
    refine r_lstore_n (ls' := [(1, vL (((31 : Int64) * w1) + ((Int32.ofInt y3).toInt64))), (0, vR 1 0), (3, vI x3)]) rfl (by decide) rfl dX10_digest_24 ?_
    obtain ⟨c4, H⟩ := H
    refine r_iinc (k := 2) (ls' := [(3, vI (x3 + 1)), (1, vL (((31 : Int64) * w1) + ((Int32.ofInt y3).toInt64))), (0, vR 1 0)]) rfl c4 (by decide) rfl dX10_digest_25 ?_
    refine r_goto (tgt := 6) dX10_digest_28 (by decide) ?_
    exact sl_At.sub [2, 1, 0] rfl H
set_option maxHeartbeats 4000000 in
set_option maxRecDepth 10000 in
theorem vX10_digest_33 {l : Launch} {M : sl_M} {Q : sl_R} {w1 : Int64} {x3 : Int} (H : sl_RM M → sl_rg x3 → sl_RI l mX10_manyOf [vR 1 0, vI 0] M (fun y2 M1 => ((y2 ≤ x3) → sl_At l mX10_digest 116 [(0, vR 1 0), (1, vL w1), (3, vI 0)] [] M1 Q) ∧ ((¬ (y2 ≤ x3)) → sl_At l mX10_digest 45 [(0, vR 1 0), (1, vL w1), (3, vI x3), (4, vI 0)] [] M1 Q))) : sl_At l mX10_digest 33 [(0, vR 1 0), (1, vL w1), (3, vI x3)] [] M Q := by
  refine sl_At.in (fun hM hls => ?_)
  have g3 : sl_rg x3 := hls _ (List.mem_of_getElem? (i := 2) rfl)
  have H := H hM g3
  refine r_iload_n (k := 2) rfl rfl dX10_digest_33 ?_
  refine r_aload_n (k := 0) rfl rfl dX10_digest_34 ?_
  refine r_iconst dX10_digest_35 ?_
  refine r_callV (g := mX10_manyOf) ckX10 rfl rfl rfl rfl mkX10_manyOf mvX10_manyOf ml_X10_201 ⟨by decide, by decide⟩ rfl (Nat.le_of_ble_eq_true rfl) rfl (ok_i ⟨by decide, by decide⟩ ok_n) dX10_digest_36 (sl_afterI (sl_RI.mono (fun y2 M1 gy2 hM1 H => ?_) H))
  refine r_icmp_ge (tgt := 114) g3 gy2 dX10_digest_39 (by decide) (fun h3 => ?_) (fun h3 => ?_)
  · have H := H.1 h3
    refine r_iconst dX10_digest_114 ?_
    refine r_istore_n (ls' := [(3, vI 0), (0, vR 1 0), (1, vL w1)]) ⟨by decide, by decide⟩ rfl (by decide) rfl dX10_digest_115 ?_
    exact sl_At.sub [1, 2, 0] rfl H
  · have H := H.2 h3
    refine r_iconst dX10_digest_42 ?_
    refine r_istore (ls' := [(4, vI 0), (0, vR 1 0), (1, vL w1), (3, vI x3)]) ⟨by decide, by decide⟩ (by decide) rfl dX10_digest_43 ?_
    exact sl_At.sub [1, 2, 3, 0] rfl H
set_option maxHeartbeats 4000000 in
set_option maxRecDepth 10000 in
theorem vX10_digest_45 {l : Launch} {M : sl_M} {Q : sl_R} {w1 : Int64} {x3 x4 : Int} (H : sl_RM M → sl_rg x3 → sl_rg x4 → ((6 < x4) → sl_At l mX10_digest 76 [(0, vR 1 0), (1, vL w1), (3, vI x3), (4, vI 0)] [] M Q) ∧ ((¬ (6 < x4)) → sl_RI l mX10_statementIs [vR 1 0, vI x3, vI x4] M (fun y3 M2 => (sl_rg (x4 + 1)) ∧ sl_At l mX10_digest 45 [(0, vR 1 0), (1, vL (((31 : Int64) * w1) + ((Int32.ofInt y3).toInt64))), (3, vI x3), (4, vI (x4 + 1))] [] M2 Q))) : sl_At l mX10_digest 45 [(0, vR 1 0), (1, vL w1), (3, vI x3), (4, vI x4)] [] M Q := by
  refine sl_At.in (fun hM hls => ?_)
  have g3 : sl_rg x3 := hls _ (List.mem_of_getElem? (i := 2) rfl)
  have g4 : sl_rg x4 := hls _ (List.mem_of_getElem? (i := 3) rfl)
  have H := H hM g3 g4
  refine r_iload (k := 3) rfl dX10_digest_45 ?_
  refine r_bipush dX10_digest_47 (by decide) ?_
  refine r_icmp_gt (tgt := 73) g4 ⟨by decide, by decide⟩ dX10_digest_49 (by decide) (fun h1 => ?_) (fun h1 => ?_)
  · have H := H.1 h1
    refine r_iconst dX10_digest_73 ?_
    refine r_istore (ls' := [(4, vI 0), (0, vR 1 0), (1, vL w1), (3, vI x3)]) ⟨by decide, by decide⟩ (by decide) rfl dX10_digest_74 ?_
    exact sl_At.sub [1, 2, 3, 0] rfl H
  · have H := H.2 h1
    refine r_ldc2 (n := 31) cl_X10_415 dX10_digest_52 ?_
    refine r_lload_n (k := 1) rfl rfl dX10_digest_55 ?_
    refine r_lmul dX10_digest_56 ?_
    refine r_aload_n (k := 0) rfl rfl dX10_digest_57 ?_
    refine r_iload_n (k := 2) rfl rfl dX10_digest_58 ?_
    refine r_iload (k := 3) rfl dX10_digest_59 ?_
    refine r_callV (g := mX10_statementIs) ckX10 rfl rfl rfl rfl mkX10_statementIs mvX10_statementIs ml_X10_356 ⟨by decide, by decide⟩ rfl (Nat.le_of_ble_eq_true rfl) rfl (ok_i g3 (ok_i g4 ok_n)) dX10_digest_61 (sl_afterI (sl_RI.mono (fun y3 M2 gy3 hM2 H => ?_) H))
    refine r_i2l dX10_digest_64 ?_
    refine r_ladd dX10_digest_65 ?_
    refine r_lstore_n (ls' := [(1, vL (((31 : Int64) * w1) + ((Int32.ofInt y3).toInt64))), (0, vR 1 0), (3, vI x3), (4, vI x4)]) rfl (by decide) rfl dX10_digest_66 ?_
    obtain ⟨c4, H⟩ := H
    refine r_iinc (k := 3) (ls' := [(4, vI (x4 + 1)), (1, vL (((31 : Int64) * w1) + ((Int32.ofInt y3).toInt64))), (0, vR 1 0), (3, vI x3)]) rfl c4 (by decide) rfl dX10_digest_67 ?_
    refine r_goto (tgt := 45) dX10_digest_70 (by decide) ?_
    exact sl_At.sub [2, 1, 3, 0] rfl H
set_option maxHeartbeats 4000000 in
set_option maxRecDepth 10000 in
theorem vX10_digest_76 {l : Launch} {M : sl_M} {Q : sl_R} {w1 : Int64} {x3 x4 : Int} (H : sl_RM M → sl_rg x3 → sl_rg x4 → sl_RI l mX10_signOf [vR 1 0, vI x3, vI x4] M (fun y2 M1 => ((y2 = (-1)) → (sl_rg (x3 + 1)) ∧ sl_At l mX10_digest 33 [(0, vR 1 0), (1, vL w1), (3, vI (x3 + 1))] [] M1 Q) ∧ ((¬ (y2 = (-1))) → sl_RI l mX10_signOf [vR 1 0, vI x3, vI x4] M1 (fun y6 M5 => (sl_rg (x4 + 1)) ∧ sl_At l mX10_digest 76 [(0, vR 1 0), (1, vL (((31 : Int64) * w1) + ((Int32.ofInt y6).toInt64))), (3, vI x3), (4, vI (x4 + 1))] [] M5 Q)))) : sl_At l mX10_digest 76 [(0, vR 1 0), (1, vL w1), (3, vI x3), (4, vI x4)] [] M Q := by
  refine sl_At.in (fun hM hls => ?_)
  have g3 : sl_rg x3 := hls _ (List.mem_of_getElem? (i := 2) rfl)
  have g4 : sl_rg x4 := hls _ (List.mem_of_getElem? (i := 3) rfl)
  have H := H hM g3 g4
  refine r_aload_n (k := 0) rfl rfl dX10_digest_76 ?_
  refine r_iload_n (k := 2) rfl rfl dX10_digest_77 ?_
  refine r_iload (k := 3) rfl dX10_digest_78 ?_
  refine r_callV (g := mX10_signOf) ckX10 rfl rfl rfl rfl mkX10_signOf mvX10_signOf ml_X10_359 ⟨by decide, by decide⟩ rfl (Nat.le_of_ble_eq_true rfl) rfl (ok_i g3 (ok_i g4 ok_n)) dX10_digest_80 (sl_afterI (sl_RI.mono (fun y2 M1 gy2 hM1 H => ?_) H))
  refine r_iconst dX10_digest_83 ?_
  refine r_icmp_eq (tgt := 108) gy2 ⟨by decide, by decide⟩ dX10_digest_84 (by decide) (fun h3 => ?_) (fun h3 => ?_)
  · have H := H.1 h3
    obtain ⟨c4, H⟩ := H
    refine r_iinc (k := 2) (ls' := [(3, vI (x3 + 1)), (0, vR 1 0), (1, vL w1), (4, vI x4)]) rfl c4 (by decide) rfl dX10_digest_108 ?_
    refine r_goto (tgt := 33) dX10_digest_111 (by decide) ?_
    exact sl_At.sub [1, 2, 0] rfl H
  · have H := H.2 h3
    refine r_ldc2 (n := 31) cl_X10_415 dX10_digest_87 ?_
    refine r_lload_n (k := 1) rfl rfl dX10_digest_90 ?_
    refine r_lmul dX10_digest_91 ?_
    refine r_aload_n (k := 0) rfl rfl dX10_digest_92 ?_
    refine r_iload_n (k := 2) rfl rfl dX10_digest_93 ?_
    refine r_iload (k := 3) rfl dX10_digest_94 ?_
    refine r_callV (g := mX10_signOf) ckX10 rfl rfl rfl rfl mkX10_signOf mvX10_signOf ml_X10_359 ⟨by decide, by decide⟩ rfl (Nat.le_of_ble_eq_true rfl) rfl (ok_i g3 (ok_i g4 ok_n)) dX10_digest_96 (sl_afterI (sl_RI.mono (fun y6 M5 gy6 hM5 H => ?_) H))
    refine r_i2l dX10_digest_99 ?_
    refine r_ladd dX10_digest_100 ?_
    refine r_lstore_n (ls' := [(1, vL (((31 : Int64) * w1) + ((Int32.ofInt y6).toInt64))), (0, vR 1 0), (3, vI x3), (4, vI x4)]) rfl (by decide) rfl dX10_digest_101 ?_
    obtain ⟨c7, H⟩ := H
    refine r_iinc (k := 3) (ls' := [(4, vI (x4 + 1)), (1, vL (((31 : Int64) * w1) + ((Int32.ofInt y6).toInt64))), (0, vR 1 0), (3, vI x3)]) rfl c7 (by decide) rfl dX10_digest_102 ?_
    refine r_goto (tgt := 76) dX10_digest_105 (by decide) ?_
    exact sl_At.sub [2, 1, 3, 0] rfl H
set_option maxHeartbeats 4000000 in
set_option maxRecDepth 10000 in
theorem vX10_digest_116 {l : Launch} {M : sl_M} {Q : sl_R} {w1 : Int64} {x3 : Int} (H : sl_RM M → sl_rg x3 → ((M 1 1 761 ≤ x3) → Q (some (vL w1)) M) ∧ ((¬ (M 1 1 761 ≤ x3)) → sl_At l mX10_digest 131 [(0, vR 1 0), (1, vL w1), (3, vI x3), (4, vI 0)] [] M Q)) : sl_At l mX10_digest 116 [(0, vR 1 0), (1, vL w1), (3, vI x3)] [] M Q := by
  refine sl_At.in (fun hM hls => ?_)
  have g3 : sl_rg x3 := hls _ (List.mem_of_getElem? (i := 2) rfl)
  have H := H hM g3
  refine r_iload_n (k := 2) rfl rfl dX10_digest_116 ?_
  refine r_aload_n (k := 0) rfl rfl dX10_digest_117 ?_
  refine r_getR (k := 0) (o' := 1) (i' := 1) ckX10 rfl rfl (by decide) rfl rfl rfl fl_X10_7 dX10_digest_118 ?_
  refine r_sipush dX10_digest_121 (by decide) ?_
  refine r_iald rfl rfl rfl ⟨by decide, by decide⟩ dX10_digest_124 ?_
  refine r_icmp_ge (tgt := 164) g3 (hM _ _ _) dX10_digest_125 (by decide) (fun h1 => ?_) (fun h1 => ?_)
  · have H := H.1 h1
    refine r_lload_n (k := 1) rfl rfl dX10_digest_164 ?_
    refine r_lret rfl dX10_digest_165 ?_
    exact H
  · have H := H.2 h1
    refine r_iconst dX10_digest_128 ?_
    refine r_istore (ls' := [(4, vI 0), (0, vR 1 0), (1, vL w1), (3, vI x3)]) ⟨by decide, by decide⟩ (by decide) rfl dX10_digest_129 ?_
    exact sl_At.sub [1, 2, 3, 0] rfl H
set_option maxHeartbeats 4000000 in
set_option maxRecDepth 10000 in
theorem vX10_digest_131 {l : Launch} {M : sl_M} {Q : sl_R} {w1 : Int64} {x3 x4 : Int} (H : sl_RM M → sl_rg x3 → sl_rg x4 → ((5 < x4) → (sl_rg (x3 + 1)) ∧ sl_At l mX10_digest 116 [(0, vR 1 0), (1, vL w1), (3, vI (x3 + 1))] [] M Q) ∧ ((¬ (5 < x4)) → sl_RI l mX10_methodIs [vR 1 0, vI x3, vI x4] M (fun y4 M3 => (sl_rg (x4 + 1)) ∧ sl_At l mX10_digest 131 [(0, vR 1 0), (1, vL (((31 : Int64) * w1) + ((Int32.ofInt y4).toInt64))), (3, vI x3), (4, vI (x4 + 1))] [] M3 Q))) : sl_At l mX10_digest 131 [(0, vR 1 0), (1, vL w1), (3, vI x3), (4, vI x4)] [] M Q := by
  refine sl_At.in (fun hM hls => ?_)
  have g3 : sl_rg x3 := hls _ (List.mem_of_getElem? (i := 2) rfl)
  have g4 : sl_rg x4 := hls _ (List.mem_of_getElem? (i := 3) rfl)
  have H := H hM g3 g4
  refine r_iload (k := 3) rfl dX10_digest_131 ?_
  refine r_iconst dX10_digest_133 ?_
  refine r_icmp_gt (tgt := 158) g4 ⟨by decide, by decide⟩ dX10_digest_134 (by decide) (fun h1 => ?_) (fun h1 => ?_)
  · have H := H.1 h1
    obtain ⟨c2, H⟩ := H
    refine r_iinc (k := 2) (ls' := [(3, vI (x3 + 1)), (0, vR 1 0), (1, vL w1), (4, vI x4)]) rfl c2 (by decide) rfl dX10_digest_158 ?_
    refine r_goto (tgt := 116) dX10_digest_161 (by decide) ?_
    exact sl_At.sub [1, 2, 0] rfl H
  · have H := H.2 h1
    refine r_ldc2 (n := 31) cl_X10_415 dX10_digest_137 ?_
    refine r_lload_n (k := 1) rfl rfl dX10_digest_140 ?_
    refine r_lmul dX10_digest_141 ?_
    refine r_aload_n (k := 0) rfl rfl dX10_digest_142 ?_
    refine r_iload_n (k := 2) rfl rfl dX10_digest_143 ?_
    refine r_iload (k := 3) rfl dX10_digest_144 ?_
    refine r_callV (g := mX10_methodIs) ckX10 rfl rfl rfl rfl mkX10_methodIs mvX10_methodIs ml_X10_353 ⟨by decide, by decide⟩ rfl (Nat.le_of_ble_eq_true rfl) rfl (ok_i g3 (ok_i g4 ok_n)) dX10_digest_146 (sl_afterI (sl_RI.mono (fun y4 M3 gy4 hM3 H => ?_) H))
    refine r_i2l dX10_digest_149 ?_
    refine r_ladd dX10_digest_150 ?_
    refine r_lstore_n (ls' := [(1, vL (((31 : Int64) * w1) + ((Int32.ofInt y4).toInt64))), (0, vR 1 0), (3, vI x3), (4, vI x4)]) rfl (by decide) rfl dX10_digest_151 ?_
    obtain ⟨c5, H⟩ := H
    refine r_iinc (k := 3) (ls' := [(4, vI (x4 + 1)), (1, vL (((31 : Int64) * w1) + ((Int32.ofInt y4).toInt64))), (0, vR 1 0), (3, vI x3)]) rfl c5 (by decide) rfl dX10_digest_152 ?_
    refine r_goto (tgt := 131) dX10_digest_155 (by decide) ?_
    exact sl_At.sub [2, 1, 3, 0] rfl H
theorem eX10_digest {l : Launch} {M : sl_M} {Q : sl_R}  (k : sl_At l mX10_digest 0 [(0, vR 1 0)] [] M Q) : sl_Runs l mX10_digest [vR 1 0] M Q := sl_Runs.of (ls := [(0, vR 1 0)]) rfl rfl (fun _ => rfl) (fun _ => Nat.le_of_ble_eq_true rfl) rfl (k)
