theorem dX10_walksSpan_0 : decode cX10_walksSpan 0 = .ok (.aload_n 0, 1) := by decide +kernel
theorem dX10_walksSpan_1 : decode cX10_walksSpan 1 = .ok (.getfield 246, 3) := by decide +kernel
theorem dX10_walksSpan_4 : decode cX10_walksSpan 4 = .ok (.istore_n 2, 1) := by decide +kernel
theorem dX10_walksSpan_5 : decode cX10_walksSpan 5 = .ok (.iload_n 2, 1) := by decide +kernel
theorem dX10_walksSpan_6 : decode cX10_walksSpan 6 = .ok (.aload_n 0, 1) := by decide +kernel
theorem dX10_walksSpan_7 : decode cX10_walksSpan 7 = .ok (.getfield 249, 3) := by decide +kernel
theorem dX10_walksSpan_10 : decode cX10_walksSpan 10 = .ok (.if_icmp .ge 49, 3) := by decide +kernel
theorem dX10_walksSpan_13 : decode cX10_walksSpan 13 = .ok (.aload_n 0, 1) := by decide +kernel
theorem dX10_walksSpan_14 : decode cX10_walksSpan 14 = .ok (.getfield 82, 3) := by decide +kernel
theorem dX10_walksSpan_17 : decode cX10_walksSpan 17 = .ok (.iload_n 2, 1) := by decide +kernel
theorem dX10_walksSpan_18 : decode cX10_walksSpan 18 = .ok (.iload_n 2, 1) := by decide +kernel
theorem dX10_walksSpan_19 : decode cX10_walksSpan 19 = .ok (.aload_n 0, 1) := by decide +kernel
theorem dX10_walksSpan_20 : decode cX10_walksSpan 20 = .ok (.getfield 246, 3) := by decide +kernel
theorem dX10_walksSpan_23 : decode cX10_walksSpan 23 = .ok (.if_icmp .ne 7, 3) := by decide +kernel
theorem dX10_walksSpan_26 : decode cX10_walksSpan 26 = .ok (.iconst 1, 1) := by decide +kernel
theorem dX10_walksSpan_27 : decode cX10_walksSpan 27 = .ok (.goto 4, 3) := by decide +kernel
theorem dX10_walksSpan_30 : decode cX10_walksSpan 30 = .ok (.iconst 0, 1) := by decide +kernel
theorem dX10_walksSpan_31 : decode cX10_walksSpan 31 = .ok (.bastore, 1) := by decide +kernel
theorem dX10_walksSpan_32 : decode cX10_walksSpan 32 = .ok (.aload_n 0, 1) := by decide +kernel
theorem dX10_walksSpan_33 : decode cX10_walksSpan 33 = .ok (.getfield 86, 3) := by decide +kernel
theorem dX10_walksSpan_36 : decode cX10_walksSpan 36 = .ok (.iload_n 2, 1) := by decide +kernel
theorem dX10_walksSpan_37 : decode cX10_walksSpan 37 = .ok (.iload_n 2, 1) := by decide +kernel
theorem dX10_walksSpan_38 : decode cX10_walksSpan 38 = .ok (.aload_n 0, 1) := by decide +kernel
theorem dX10_walksSpan_39 : decode cX10_walksSpan 39 = .ok (.getfield 246, 3) := by decide +kernel
theorem dX10_walksSpan_42 : decode cX10_walksSpan 42 = .ok (.if_icmp .ne 7, 3) := by decide +kernel
theorem dX10_walksSpan_45 : decode cX10_walksSpan 45 = .ok (.iconst 0, 1) := by decide +kernel
theorem dX10_walksSpan_46 : decode cX10_walksSpan 46 = .ok (.goto 6, 3) := by decide +kernel
theorem dX10_walksSpan_49 : decode cX10_walksSpan 49 = .ok (.sipush 255, 3) := by decide +kernel
theorem dX10_walksSpan_52 : decode cX10_walksSpan 52 = .ok (.iastore, 1) := by decide +kernel
theorem dX10_walksSpan_53 : decode cX10_walksSpan 53 = .ok (.iinc 2 1, 3) := by decide +kernel
theorem dX10_walksSpan_56 : decode cX10_walksSpan 56 = .ok (.goto (-51), 3) := by decide +kernel
theorem dX10_walksSpan_59 : decode cX10_walksSpan 59 = .ok (.aload_n 0, 1) := by decide +kernel
theorem dX10_walksSpan_60 : decode cX10_walksSpan 60 = .ok (.iconst 0, 1) := by decide +kernel
theorem dX10_walksSpan_61 : decode cX10_walksSpan 61 = .ok (.putfield 252, 3) := by decide +kernel
theorem dX10_walksSpan_64 : decode cX10_walksSpan 64 = .ok (.iconst 0, 1) := by decide +kernel
theorem dX10_walksSpan_65 : decode cX10_walksSpan 65 = .ok (.istore_n 2, 1) := by decide +kernel
theorem dX10_walksSpan_66 : decode cX10_walksSpan 66 = .ok (.iload_n 2, 1) := by decide +kernel
theorem dX10_walksSpan_67 : decode cX10_walksSpan 67 = .ok (.iconst 4, 1) := by decide +kernel
theorem dX10_walksSpan_68 : decode cX10_walksSpan 68 = .ok (.if_icmp .ge 18, 3) := by decide +kernel
theorem dX10_walksSpan_71 : decode cX10_walksSpan 71 = .ok (.aload_n 0, 1) := by decide +kernel
theorem dX10_walksSpan_72 : decode cX10_walksSpan 72 = .ok (.getfield 76, 3) := by decide +kernel
theorem dX10_walksSpan_75 : decode cX10_walksSpan 75 = .ok (.iload_n 2, 1) := by decide +kernel
theorem dX10_walksSpan_76 : decode cX10_walksSpan 76 = .ok (.sipush 255, 3) := by decide +kernel
theorem dX10_walksSpan_79 : decode cX10_walksSpan 79 = .ok (.iastore, 1) := by decide +kernel
theorem dX10_walksSpan_80 : decode cX10_walksSpan 80 = .ok (.iinc 2 1, 3) := by decide +kernel
theorem dX10_walksSpan_83 : decode cX10_walksSpan 83 = .ok (.goto (-17), 3) := by decide +kernel
theorem dX10_walksSpan_86 : decode cX10_walksSpan 86 = .ok (.iconst 1, 1) := by decide +kernel
theorem dX10_walksSpan_87 : decode cX10_walksSpan 87 = .ok (.istore_n 2, 1) := by decide +kernel
theorem dX10_walksSpan_88 : decode cX10_walksSpan 88 = .ok (.iload_n 2, 1) := by decide +kernel
theorem dX10_walksSpan_89 : decode cX10_walksSpan 89 = .ok (.ifCond .eq 196, 3) := by decide +kernel
theorem dX10_walksSpan_92 : decode cX10_walksSpan 92 = .ok (.iconst 0, 1) := by decide +kernel
theorem dX10_walksSpan_93 : decode cX10_walksSpan 93 = .ok (.istore_n 2, 1) := by decide +kernel
theorem dX10_walksSpan_94 : decode cX10_walksSpan 94 = .ok (.aload_n 0, 1) := by decide +kernel
theorem dX10_walksSpan_95 : decode cX10_walksSpan 95 = .ok (.getfield 246, 3) := by decide +kernel
theorem dX10_walksSpan_98 : decode cX10_walksSpan 98 = .ok (.istore_n 3, 1) := by decide +kernel
theorem dX10_walksSpan_99 : decode cX10_walksSpan 99 = .ok (.iload_n 3, 1) := by decide +kernel
theorem dX10_walksSpan_100 : decode cX10_walksSpan 100 = .ok (.aload_n 0, 1) := by decide +kernel
theorem dX10_walksSpan_101 : decode cX10_walksSpan 101 = .ok (.getfield 249, 3) := by decide +kernel
theorem dX10_walksSpan_104 : decode cX10_walksSpan 104 = .ok (.if_icmp .ge 178, 3) := by decide +kernel
theorem dX10_walksSpan_107 : decode cX10_walksSpan 107 = .ok (.iconst 4, 1) := by decide +kernel
theorem dX10_walksSpan_108 : decode cX10_walksSpan 108 = .ok (.iload_n 1, 1) := by decide +kernel
theorem dX10_walksSpan_109 : decode cX10_walksSpan 109 = .ok (.iload_n 3, 1) := by decide +kernel
theorem dX10_walksSpan_110 : decode cX10_walksSpan 110 = .ok (.iadd, 1) := by decide +kernel
theorem dX10_walksSpan_111 : decode cX10_walksSpan 111 = .ok (.imul, 1) := by decide +kernel
theorem dX10_walksSpan_112 : decode cX10_walksSpan 112 = .ok (.istore 4, 2) := by decide +kernel
theorem dX10_walksSpan_114 : decode cX10_walksSpan 114 = .ok (.aload_n 0, 1) := by decide +kernel
theorem dX10_walksSpan_115 : decode cX10_walksSpan 115 = .ok (.getfield 82, 3) := by decide +kernel
theorem dX10_walksSpan_118 : decode cX10_walksSpan 118 = .ok (.iload_n 3, 1) := by decide +kernel
theorem dX10_walksSpan_119 : decode cX10_walksSpan 119 = .ok (.baload, 1) := by decide +kernel
theorem dX10_walksSpan_120 : decode cX10_walksSpan 120 = .ok (.ifCond .eq 156, 3) := by decide +kernel
theorem dX10_walksSpan_123 : decode cX10_walksSpan 123 = .ok (.iload 4, 2) := by decide +kernel
theorem dX10_walksSpan_125 : decode cX10_walksSpan 125 = .ok (.iconst 4, 1) := by decide +kernel
theorem dX10_walksSpan_126 : decode cX10_walksSpan 126 = .ok (.iload_n 1, 1) := by decide +kernel
theorem dX10_walksSpan_127 : decode cX10_walksSpan 127 = .ok (.iload_n 3, 1) := by decide +kernel
theorem dX10_walksSpan_128 : decode cX10_walksSpan 128 = .ok (.iadd, 1) := by decide +kernel
theorem dX10_walksSpan_129 : decode cX10_walksSpan 129 = .ok (.imul, 1) := by decide +kernel
theorem dX10_walksSpan_130 : decode cX10_walksSpan 130 = .ok (.aload_n 0, 1) := by decide +kernel
theorem dX10_walksSpan_131 : decode cX10_walksSpan 131 = .ok (.getfield 55, 3) := by decide +kernel
theorem dX10_walksSpan_134 : decode cX10_walksSpan 134 = .ok (.iload_n 1, 1) := by decide +kernel
theorem dX10_walksSpan_135 : decode cX10_walksSpan 135 = .ok (.iload_n 3, 1) := by decide +kernel
theorem dX10_walksSpan_136 : decode cX10_walksSpan 136 = .ok (.iadd, 1) := by decide +kernel
theorem dX10_walksSpan_137 : decode cX10_walksSpan 137 = .ok (.iaload, 1) := by decide +kernel
theorem dX10_walksSpan_138 : decode cX10_walksSpan 138 = .ok (.iadd, 1) := by decide +kernel
theorem dX10_walksSpan_139 : decode cX10_walksSpan 139 = .ok (.if_icmp .ge 137, 3) := by decide +kernel
theorem dX10_walksSpan_142 : decode cX10_walksSpan 142 = .ok (.aload_n 0, 1) := by decide +kernel
theorem dX10_walksSpan_143 : decode cX10_walksSpan 143 = .ok (.iload_n 1, 1) := by decide +kernel
theorem dX10_walksSpan_144 : decode cX10_walksSpan 144 = .ok (.iload 4, 2) := by decide +kernel
theorem dX10_walksSpan_146 : decode cX10_walksSpan 146 = .ok (.invokevirtual 255, 3) := by decide +kernel
theorem dX10_walksSpan_149 : decode cX10_walksSpan 149 = .ok (.istore 5, 2) := by decide +kernel
theorem dX10_walksSpan_151 : decode cX10_walksSpan 151 = .ok (.aload_n 0, 1) := by decide +kernel
theorem dX10_walksSpan_152 : decode cX10_walksSpan 152 = .ok (.getfield 86, 3) := by decide +kernel
theorem dX10_walksSpan_155 : decode cX10_walksSpan 155 = .ok (.iload_n 3, 1) := by decide +kernel
theorem dX10_walksSpan_156 : decode cX10_walksSpan 156 = .ok (.iaload, 1) := by decide +kernel
theorem dX10_walksSpan_157 : decode cX10_walksSpan 157 = .ok (.aload_n 0, 1) := by decide +kernel
theorem dX10_walksSpan_158 : decode cX10_walksSpan 158 = .ok (.getfield 61, 3) := by decide +kernel
theorem dX10_walksSpan_161 : decode cX10_walksSpan 161 = .ok (.iload 4, 2) := by decide +kernel
theorem dX10_walksSpan_163 : decode cX10_walksSpan 163 = .ok (.iaload, 1) := by decide +kernel
theorem dX10_walksSpan_164 : decode cX10_walksSpan 164 = .ok (.ior, 1) := by decide +kernel
theorem dX10_walksSpan_165 : decode cX10_walksSpan 165 = .ok (.istore 6, 2) := by decide +kernel
theorem dX10_walksSpan_167 : decode cX10_walksSpan 167 = .ok (.iload 5, 2) := by decide +kernel
theorem dX10_walksSpan_169 : decode cX10_walksSpan 169 = .ok (.ifCond .ne 75, 3) := by decide +kernel
theorem dX10_walksSpan_172 : decode cX10_walksSpan 172 = .ok (.aload_n 0, 1) := by decide +kernel
theorem dX10_walksSpan_173 : decode cX10_walksSpan 173 = .ok (.getfield 58, 3) := by decide +kernel
theorem dX10_walksSpan_176 : decode cX10_walksSpan 176 = .ok (.iload 4, 2) := by decide +kernel
theorem dX10_walksSpan_178 : decode cX10_walksSpan 178 = .ok (.iaload, 1) := by decide +kernel
theorem dX10_walksSpan_179 : decode cX10_walksSpan 179 = .ok (.istore 7, 2) := by decide +kernel
theorem dX10_walksSpan_181 : decode cX10_walksSpan 181 = .ok (.iload_n 2, 1) := by decide +kernel
theorem dX10_walksSpan_182 : decode cX10_walksSpan 182 = .ok (.ifCond .ne 33, 3) := by decide +kernel
theorem dX10_walksSpan_185 : decode cX10_walksSpan 185 = .ok (.aload_n 0, 1) := by decide +kernel
theorem dX10_walksSpan_186 : decode cX10_walksSpan 186 = .ok (.getfield 82, 3) := by decide +kernel
theorem dX10_walksSpan_189 : decode cX10_walksSpan 189 = .ok (.iload 7, 2) := by decide +kernel
theorem dX10_walksSpan_191 : decode cX10_walksSpan 191 = .ok (.baload, 1) := by decide +kernel
theorem dX10_walksSpan_192 : decode cX10_walksSpan 192 = .ok (.ifCond .eq 23, 3) := by decide +kernel
theorem dX10_walksSpan_195 : decode cX10_walksSpan 195 = .ok (.aload_n 0, 1) := by decide +kernel
theorem dX10_walksSpan_196 : decode cX10_walksSpan 196 = .ok (.getfield 86, 3) := by decide +kernel
theorem dX10_walksSpan_199 : decode cX10_walksSpan 199 = .ok (.iload 7, 2) := by decide +kernel
theorem dX10_walksSpan_201 : decode cX10_walksSpan 201 = .ok (.iaload, 1) := by decide +kernel
theorem dX10_walksSpan_202 : decode cX10_walksSpan 202 = .ok (.iload 6, 2) := by decide +kernel
theorem dX10_walksSpan_204 : decode cX10_walksSpan 204 = .ok (.iand, 1) := by decide +kernel
theorem dX10_walksSpan_205 : decode cX10_walksSpan 205 = .ok (.aload_n 0, 1) := by decide +kernel
theorem dX10_walksSpan_206 : decode cX10_walksSpan 206 = .ok (.getfield 86, 3) := by decide +kernel
theorem dX10_walksSpan_209 : decode cX10_walksSpan 209 = .ok (.iload 7, 2) := by decide +kernel
theorem dX10_walksSpan_211 : decode cX10_walksSpan 211 = .ok (.iaload, 1) := by decide +kernel
theorem dX10_walksSpan_212 : decode cX10_walksSpan 212 = .ok (.if_icmp .eq 7, 3) := by decide +kernel
theorem dX10_walksSpan_215 : decode cX10_walksSpan 215 = .ok (.iconst 1, 1) := by decide +kernel
theorem dX10_walksSpan_216 : decode cX10_walksSpan 216 = .ok (.goto 4, 3) := by decide +kernel
theorem dX10_walksSpan_219 : decode cX10_walksSpan 219 = .ok (.iconst 0, 1) := by decide +kernel
theorem dX10_walksSpan_220 : decode cX10_walksSpan 220 = .ok (.istore_n 2, 1) := by decide +kernel
theorem dX10_walksSpan_221 : decode cX10_walksSpan 221 = .ok (.aload_n 0, 1) := by decide +kernel
theorem dX10_walksSpan_222 : decode cX10_walksSpan 222 = .ok (.getfield 82, 3) := by decide +kernel
theorem dX10_walksSpan_225 : decode cX10_walksSpan 225 = .ok (.iload 7, 2) := by decide +kernel
theorem dX10_walksSpan_227 : decode cX10_walksSpan 227 = .ok (.iconst 1, 1) := by decide +kernel
theorem dX10_walksSpan_228 : decode cX10_walksSpan 228 = .ok (.bastore, 1) := by decide +kernel
theorem dX10_walksSpan_229 : decode cX10_walksSpan 229 = .ok (.aload_n 0, 1) := by decide +kernel
theorem dX10_walksSpan_230 : decode cX10_walksSpan 230 = .ok (.getfield 86, 3) := by decide +kernel
theorem dX10_walksSpan_233 : decode cX10_walksSpan 233 = .ok (.iload 7, 2) := by decide +kernel
theorem dX10_walksSpan_235 : decode cX10_walksSpan 235 = .ok (.dup2, 1) := by decide +kernel
theorem dX10_walksSpan_236 : decode cX10_walksSpan 236 = .ok (.iaload, 1) := by decide +kernel
theorem dX10_walksSpan_237 : decode cX10_walksSpan 237 = .ok (.iload 6, 2) := by decide +kernel
theorem dX10_walksSpan_239 : decode cX10_walksSpan 239 = .ok (.iand, 1) := by decide +kernel
theorem dX10_walksSpan_240 : decode cX10_walksSpan 240 = .ok (.iastore, 1) := by decide +kernel
theorem dX10_walksSpan_241 : decode cX10_walksSpan 241 = .ok (.goto 29, 3) := by decide +kernel
theorem dX10_walksSpan_244 : decode cX10_walksSpan 244 = .ok (.aload_n 0, 1) := by decide +kernel
theorem dX10_walksSpan_245 : decode cX10_walksSpan 245 = .ok (.dup, 1) := by decide +kernel
theorem dX10_walksSpan_246 : decode cX10_walksSpan 246 = .ok (.getfield 252, 3) := by decide +kernel
theorem dX10_walksSpan_249 : decode cX10_walksSpan 249 = .ok (.iload 5, 2) := by decide +kernel
theorem dX10_walksSpan_251 : decode cX10_walksSpan 251 = .ok (.ior, 1) := by decide +kernel
theorem dX10_walksSpan_252 : decode cX10_walksSpan 252 = .ok (.putfield 252, 3) := by decide +kernel
theorem dX10_walksSpan_255 : decode cX10_walksSpan 255 = .ok (.aload_n 0, 1) := by decide +kernel
theorem dX10_walksSpan_256 : decode cX10_walksSpan 256 = .ok (.getfield 76, 3) := by decide +kernel
theorem dX10_walksSpan_259 : decode cX10_walksSpan 259 = .ok (.iload 5, 2) := by decide +kernel
theorem dX10_walksSpan_261 : decode cX10_walksSpan 261 = .ok (.invokestatic 215, 3) := by decide +kernel
theorem dX10_walksSpan_264 : decode cX10_walksSpan 264 = .ok (.dup2, 1) := by decide +kernel
theorem dX10_walksSpan_265 : decode cX10_walksSpan 265 = .ok (.iaload, 1) := by decide +kernel
theorem dX10_walksSpan_266 : decode cX10_walksSpan 266 = .ok (.iload 6, 2) := by decide +kernel
theorem dX10_walksSpan_268 : decode cX10_walksSpan 268 = .ok (.iand, 1) := by decide +kernel
theorem dX10_walksSpan_269 : decode cX10_walksSpan 269 = .ok (.iastore, 1) := by decide +kernel
theorem dX10_walksSpan_270 : decode cX10_walksSpan 270 = .ok (.iinc 4 1, 3) := by decide +kernel
theorem dX10_walksSpan_273 : decode cX10_walksSpan 273 = .ok (.goto (-159), 3) := by decide +kernel
theorem dX10_walksSpan_276 : decode cX10_walksSpan 276 = .ok (.iinc 3 1, 3) := by decide +kernel
theorem dX10_walksSpan_279 : decode cX10_walksSpan 279 = .ok (.goto (-180), 3) := by decide +kernel
theorem dX10_walksSpan_282 : decode cX10_walksSpan 282 = .ok (.goto (-194), 3) := by decide +kernel
theorem dX10_walksSpan_285 : decode cX10_walksSpan 285 = .ok (.return_, 1) := by decide +kernel
set_option maxHeartbeats 4000000 in
set_option maxRecDepth 10000 in
theorem vX10_walksSpan_0 {l : Launch} {M : sl_M} {Q : sl_R} {x1 : Int} (H : sl_RM M → sl_rg x1 → sl_At l mX10_walksSpan 5 [(0, vR 1 0), (1, vI x1), (2, vI (M 1 0 31))] [] M Q) : sl_At l mX10_walksSpan 0 [(0, vR 1 0), (1, vI x1)] [] M Q := by
  refine sl_At.in (fun hM hls => ?_)
  have g1 : sl_rg x1 := hls _ (List.mem_of_getElem? (i := 1) rfl)
  have H := H hM g1
  refine r_aload_n (k := 0) rfl rfl dX10_walksSpan_0 ?_
  refine r_gI (k := 31) (kz := 31) rfl ckX10 rfl rfl (by decide) rfl rfl fl_X10_246 dX10_walksSpan_1 ?_
  refine r_istore_n (ls' := [(2, vI (M 1 0 31)), (0, vR 1 0), (1, vI x1)]) (hM _ _ _) rfl (by decide) rfl dX10_walksSpan_4 ?_
  exact sl_At.sub [1, 2, 0] rfl H
set_option maxHeartbeats 4000000 in
set_option maxRecDepth 10000 in
theorem vX10_walksSpan_5 {l : Launch} {M : sl_M} {Q : sl_R} {x1 x2 : Int} (H : sl_RM M → sl_rg x1 → sl_rg x2 → ((M 1 0 32 ≤ x2) → (∀ M2, M2 = sl_wr M 1 0 33 0 → sl_At l mX10_walksSpan 66 [(0, vR 1 0), (1, vI x1), (2, vI 0)] [] M2 Q)) ∧ ((¬ (M 1 0 32 ≤ x2)) → (0 ≤ x2 ∧ x2 < 41) ∧ (∀ M5, M5 = sl_wr M 1 41 x2 (if ¬ (x2 ≠ M 1 0 31) then 1 else 0) → (∀ M7, M7 = sl_wr M5 1 42 x2 (if x2 ≠ M5 1 0 31 then 255 else 0) → (sl_rg (x2 + 1)) ∧ sl_At l mX10_walksSpan 5 [(0, vR 1 0), (1, vI x1), (2, vI (x2 + 1))] [] M7 Q)))) : sl_At l mX10_walksSpan 5 [(0, vR 1 0), (1, vI x1), (2, vI x2)] [] M Q := by
  refine sl_At.in (fun hM hls => ?_)
  have g1 : sl_rg x1 := hls _ (List.mem_of_getElem? (i := 1) rfl)
  have g2 : sl_rg x2 := hls _ (List.mem_of_getElem? (i := 2) rfl)
  have H := H hM g1 g2
  refine r_iload_n (k := 2) rfl rfl dX10_walksSpan_5 ?_
  refine r_aload_n (k := 0) rfl rfl dX10_walksSpan_6 ?_
  refine r_gI (k := 32) (kz := 32) rfl ckX10 rfl rfl (by decide) rfl rfl fl_X10_249 dX10_walksSpan_7 ?_
  refine r_icmp_ge (tgt := 59) g2 (hM _ _ _) dX10_walksSpan_10 (by decide) (fun h1 => ?_) (fun h1 => ?_)
  · have H := H.1 h1
    refine r_aload_n (k := 0) rfl rfl dX10_walksSpan_59 ?_
    refine r_iconst dX10_walksSpan_60 ?_
    refine r_pI (k := 33) (kz := 33) rfl ckX10 rfl rfl (by decide) rfl rfl rfl rfl fl_X10_252 ⟨by decide, by decide⟩ dX10_walksSpan_61 ?_
    refine r_mm (fun M2 e2 => ?_)
    have H := H M2 e2
    have hM2 : sl_RM M2 := by rw [e2]; exact sl_wr_RM hM ⟨by decide, by decide⟩
    refine r_iconst dX10_walksSpan_64 ?_
    refine r_istore_n (ls' := [(2, vI 0), (0, vR 1 0), (1, vI x1)]) ⟨by decide, by decide⟩ rfl (by decide) rfl dX10_walksSpan_65 ?_
    exact sl_At.sub [1, 2, 0] rfl H
  · have H := H.2 h1
    refine r_aload_n (k := 0) rfl rfl dX10_walksSpan_13 ?_
    refine r_getR (k := 40) (o' := 1) (i' := 41) ckX10 rfl rfl (by decide) rfl rfl rfl fl_X10_82 dX10_walksSpan_14 ?_
    refine r_iload_n (k := 2) rfl rfl dX10_walksSpan_17 ?_
    refine r_iload_n (k := 2) rfl rfl dX10_walksSpan_18 ?_
    refine r_aload_n (k := 0) rfl rfl dX10_walksSpan_19 ?_
    refine r_gI (k := 31) (kz := 31) rfl ckX10 rfl rfl (by decide) rfl rfl fl_X10_246 dX10_walksSpan_20 ?_
    have J : sl_At l mX10_walksSpan 31 [(0, vR 1 0), (1, vI x1), (2, vI x2)] [vI (if ¬ (x2 ≠ M 1 0 31) then 1 else 0), vI x2, vR 1 41] M Q := by
      obtain ⟨c4, H⟩ := H
      refine r_bast rfl rfl rfl c4 b_01 dX10_walksSpan_31 ?_
      refine r_mm (fun M5 e5 => ?_)
      have H := H M5 e5
      have hM5 : sl_RM M5 := by rw [e5]; exact sl_wr_RM hM (sl_rg01 b_01)
      refine r_aload_n (k := 0) rfl rfl dX10_walksSpan_32 ?_
      refine r_getR (k := 41) (o' := 1) (i' := 42) ckX10 rfl rfl (by decide) rfl rfl rfl fl_X10_86 dX10_walksSpan_33 ?_
      refine r_iload_n (k := 2) rfl rfl dX10_walksSpan_36 ?_
      refine r_iload_n (k := 2) rfl rfl dX10_walksSpan_37 ?_
      refine r_aload_n (k := 0) rfl rfl dX10_walksSpan_38 ?_
      refine r_gI (k := 31) (kz := 31) rfl ckX10 rfl rfl (by decide) rfl rfl fl_X10_246 dX10_walksSpan_39 ?_
      have J : sl_At l mX10_walksSpan 52 [(0, vR 1 0), (1, vI x1), (2, vI x2)] [vI (if x2 ≠ M5 1 0 31 then 255 else 0), vI x2, vR 1 42] M5 Q := by
        refine r_iast rfl rfl rfl c4 (sl_rgite ⟨by decide, by decide⟩ ⟨by decide, by decide⟩) dX10_walksSpan_52 ?_
        refine r_mm (fun M7 e7 => ?_)
        have H := H M7 e7
        have hM7 : sl_RM M7 := by rw [e7]; exact sl_wr_RM hM5 (sl_rgite ⟨by decide, by decide⟩ ⟨by decide, by decide⟩)
        obtain ⟨c8, H⟩ := H
        refine r_iinc (k := 2) (ls' := [(2, vI (x2 + 1)), (0, vR 1 0), (1, vI x1)]) rfl c8 (by decide) rfl dX10_walksSpan_53 ?_
        refine r_goto (tgt := 5) dX10_walksSpan_56 (by decide) ?_
        exact sl_At.sub [1, 2, 0] rfl H
      refine r_icmp_ne (tgt := 49) g2 (hM5 _ _ _) dX10_walksSpan_42 (by decide) (fun h6 => ?_) (fun h6 => ?_)
      · refine r_sipush dX10_walksSpan_49 (by decide) ?_
        rw [if_pos h6] at J
        exact J
      · refine r_iconst dX10_walksSpan_45 ?_
        refine r_goto (tgt := 52) dX10_walksSpan_46 (by decide) ?_
        rw [if_neg h6] at J
        exact J
    refine r_icmp_ne (tgt := 30) g2 (hM _ _ _) dX10_walksSpan_23 (by decide) (fun h3 => ?_) (fun h3 => ?_)
    · refine r_iconst dX10_walksSpan_30 ?_
      rw [if_neg (show ¬ (¬ (x2 ≠ M 1 0 31)) by omega)] at J
      exact J
    · refine r_iconst dX10_walksSpan_26 ?_
      refine r_goto (tgt := 31) dX10_walksSpan_27 (by decide) ?_
      rw [if_pos (show ¬ (x2 ≠ M 1 0 31) by omega)] at J
      exact J
set_option maxHeartbeats 4000000 in
set_option maxRecDepth 10000 in
theorem vX10_walksSpan_66 {l : Launch} {M : sl_M} {Q : sl_R} {x1 x2 : Int} (H : sl_RM M → sl_rg x1 → sl_rg x2 → ((4 ≤ x2) → sl_At l mX10_walksSpan 88 [(0, vR 1 0), (1, vI x1), (2, vI 1)] [] M Q) ∧ ((¬ (4 ≤ x2)) → (0 ≤ x2 ∧ x2 < 4) ∧ (∀ M3, M3 = sl_wr M 1 39 x2 255 → (sl_rg (x2 + 1)) ∧ sl_At l mX10_walksSpan 66 [(0, vR 1 0), (1, vI x1), (2, vI (x2 + 1))] [] M3 Q))) : sl_At l mX10_walksSpan 66 [(0, vR 1 0), (1, vI x1), (2, vI x2)] [] M Q := by
  refine sl_At.in (fun hM hls => ?_)
  have g1 : sl_rg x1 := hls _ (List.mem_of_getElem? (i := 1) rfl)
  have g2 : sl_rg x2 := hls _ (List.mem_of_getElem? (i := 2) rfl)
  have H := H hM g1 g2
  refine r_iload_n (k := 2) rfl rfl dX10_walksSpan_66 ?_
  refine r_iconst dX10_walksSpan_67 ?_
  refine r_icmp_ge (tgt := 86) g2 ⟨by decide, by decide⟩ dX10_walksSpan_68 (by decide) (fun h1 => ?_) (fun h1 => ?_)
  · have H := H.1 h1
    refine r_iconst dX10_walksSpan_86 ?_
    refine r_istore_n (ls' := [(2, vI 1), (0, vR 1 0), (1, vI x1)]) ⟨by decide, by decide⟩ rfl (by decide) rfl dX10_walksSpan_87 ?_
    exact sl_At.sub [1, 2, 0] rfl H
  · have H := H.2 h1
    refine r_aload_n (k := 0) rfl rfl dX10_walksSpan_71 ?_
    refine r_getR (k := 38) (o' := 1) (i' := 39) ckX10 rfl rfl (by decide) rfl rfl rfl fl_X10_76 dX10_walksSpan_72 ?_
    refine r_iload_n (k := 2) rfl rfl dX10_walksSpan_75 ?_
    refine r_sipush dX10_walksSpan_76 (by decide) ?_
    obtain ⟨c2, H⟩ := H
    refine r_iast rfl rfl rfl c2 ⟨by decide, by decide⟩ dX10_walksSpan_79 ?_
    refine r_mm (fun M3 e3 => ?_)
    have H := H M3 e3
    have hM3 : sl_RM M3 := by rw [e3]; exact sl_wr_RM hM ⟨by decide, by decide⟩
    obtain ⟨c4, H⟩ := H
    refine r_iinc (k := 2) (ls' := [(2, vI (x2 + 1)), (0, vR 1 0), (1, vI x1)]) rfl c4 (by decide) rfl dX10_walksSpan_80 ?_
    refine r_goto (tgt := 66) dX10_walksSpan_83 (by decide) ?_
    exact sl_At.sub [1, 2, 0] rfl H
set_option maxHeartbeats 4000000 in
set_option maxRecDepth 10000 in
theorem vX10_walksSpan_88 {l : Launch} {M : sl_M} {Q : sl_R} {x1 x2 : Int} (H : sl_RM M → sl_rg x1 → sl_rg x2 → ((x2 = 0) → Q none M) ∧ ((¬ (x2 = 0)) → sl_At l mX10_walksSpan 99 [(0, vR 1 0), (1, vI x1), (2, vI 0), (3, vI (M 1 0 31))] [] M Q)) : sl_At l mX10_walksSpan 88 [(0, vR 1 0), (1, vI x1), (2, vI x2)] [] M Q := by
  refine sl_At.in (fun hM hls => ?_)
  have g1 : sl_rg x1 := hls _ (List.mem_of_getElem? (i := 1) rfl)
  have g2 : sl_rg x2 := hls _ (List.mem_of_getElem? (i := 2) rfl)
  have H := H hM g1 g2
  refine r_iload_n (k := 2) rfl rfl dX10_walksSpan_88 ?_
  refine r_if_eq (tgt := 285) g2 dX10_walksSpan_89 (by decide) (fun h1 => ?_) (fun h1 => ?_)
  · have H := H.1 h1
    refine r_vret rfl dX10_walksSpan_285 ?_
    exact H
  · have H := H.2 h1
    refine r_iconst dX10_walksSpan_92 ?_
    refine r_istore_n (ls' := [(2, vI 0), (0, vR 1 0), (1, vI x1)]) ⟨by decide, by decide⟩ rfl (by decide) rfl dX10_walksSpan_93 ?_
    refine r_aload_n (k := 1) rfl rfl dX10_walksSpan_94 ?_
    refine r_gI (k := 31) (kz := 31) rfl ckX10 rfl rfl (by decide) rfl rfl fl_X10_246 dX10_walksSpan_95 ?_
    refine r_istore_n (ls' := [(3, vI (M 1 0 31)), (2, vI 0), (0, vR 1 0), (1, vI x1)]) (hM _ _ _) rfl (by decide) rfl dX10_walksSpan_98 ?_
    exact sl_At.sub [2, 3, 1, 0] rfl H
set_option maxHeartbeats 4000000 in
set_option maxRecDepth 10000 in
theorem vX10_walksSpan_99 {l : Launch} {M : sl_M} {Q : sl_R} {x1 x2 x3 : Int} (H : sl_RM M → sl_rg x1 → sl_rg x2 → sl_rg x3 → ((M 1 0 32 ≤ x3) → sl_At l mX10_walksSpan 88 [(0, vR 1 0), (1, vI x1), (2, vI x2)] [] M Q) ∧ ((¬ (M 1 0 32 ≤ x3)) → (sl_rg (4 * (x1 + x3))) ∧ (∀ y3 : Int, y3 = 4 * (x1 + x3) → sl_At l mX10_walksSpan 114 [(0, vR 1 0), (1, vI x1), (2, vI x2), (3, vI x3), (4, vI y3)] [] M Q))) : sl_At l mX10_walksSpan 99 [(0, vR 1 0), (1, vI x1), (2, vI x2), (3, vI x3)] [] M Q := by
  refine sl_At.in (fun hM hls => ?_)
  have g1 : sl_rg x1 := hls _ (List.mem_of_getElem? (i := 1) rfl)
  have g2 : sl_rg x2 := hls _ (List.mem_of_getElem? (i := 2) rfl)
  have g3 : sl_rg x3 := hls _ (List.mem_of_getElem? (i := 3) rfl)
  have H := H hM g1 g2 g3
  refine r_iload_n (k := 3) rfl rfl dX10_walksSpan_99 ?_
  refine r_aload_n (k := 0) rfl rfl dX10_walksSpan_100 ?_
  refine r_gI (k := 32) (kz := 32) rfl ckX10 rfl rfl (by decide) rfl rfl fl_X10_249 dX10_walksSpan_101 ?_
  refine r_icmp_ge (tgt := 282) g3 (hM _ _ _) dX10_walksSpan_104 (by decide) (fun h1 => ?_) (fun h1 => ?_)
  · have H := H.1 h1
    refine r_goto (tgt := 88) dX10_walksSpan_282 (by decide) ?_
    exact sl_At.sub [0, 1, 2] rfl H
  · have H := H.2 h1
    refine r_iconst dX10_walksSpan_107 ?_
    refine r_iload_n (k := 1) rfl rfl dX10_walksSpan_108 ?_
    refine r_iload_n (k := 3) rfl rfl dX10_walksSpan_109 ?_
    refine r_iadd dX10_walksSpan_110 ?_
    refine r_imul dX10_walksSpan_111 ?_
    obtain ⟨c2, H⟩ := H
    refine r_nm (fun y3 fy3 => ?_)
    have H := H y3 fy3
    have gy3 : sl_rg y3 := by rw [fy3]; exact c2
    refine r_istore (ls' := [(4, vI y3), (0, vR 1 0), (1, vI x1), (2, vI x2), (3, vI x3)]) gy3 (by decide) rfl dX10_walksSpan_112 ?_
    exact sl_At.sub [1, 2, 3, 4, 0] rfl H
set_option maxHeartbeats 4000000 in
set_option maxRecDepth 10000 in
theorem vX10_walksSpan_114 {l : Launch} {M : sl_M} {Q : sl_R} {x1 x2 x3 x4 : Int} (H : sl_RM M → sl_rg x1 → sl_rg x2 → sl_rg x3 → sl_rg x4 → (0 ≤ x3 ∧ x3 < 41) ∧ ((M 1 41 x3 = 0) → (sl_rg (x3 + 1)) ∧ sl_At l mX10_walksSpan 99 [(0, vR 1 0), (1, vI x1), (2, vI x2), (3, vI (x3 + 1))] [] M Q) ∧ ((¬ (M 1 41 x3 = 0)) → (0 ≤ x1 + x3 ∧ x1 + x3 < 82) ∧ (sl_rg ((4 * (x1 + x3)) + (M 1 25 (x1 + x3)))) ∧ (((4 * (x1 + x3)) + (M 1 25 (x1 + x3)) ≤ x4) → (sl_rg (x3 + 1)) ∧ sl_At l mX10_walksSpan 99 [(0, vR 1 0), (1, vI x1), (2, vI x2), (3, vI (x3 + 1))] [] M Q) ∧ ((¬ ((4 * (x1 + x3)) + (M 1 25 (x1 + x3)) ≤ x4)) → sl_RI l mX10_leavesBy [vR 1 0, vI x1, vI x4] M (fun y9 M8 => (0 ≤ x4 ∧ x4 < 328) ∧ (∀ y11 : Int, y11 = ior (M8 1 42 x3) (M8 1 27 x4) → ((y9 ≠ 0) → (∀ M13, M13 = sl_wr M8 1 0 33 (ior (M8 1 0 33) y9) → (0 ≤ sp_place y9 ∧ sp_place y9 < 4) ∧ (∀ M15, M15 = sl_wr M13 1 39 (sp_place y9) (iand (M13 1 39 (sp_place y9)) y11) → (sl_rg (x4 + 1)) ∧ sl_At l mX10_walksSpan 114 [(0, vR 1 0), (1, vI x1), (2, vI x2), (3, vI x3), (4, vI (x4 + 1))] [] M15 Q))) ∧ ((¬ (y9 ≠ 0)) → (((¬ (x2 ≠ 0)) → (0 ≤ M8 1 26 x4 ∧ M8 1 26 x4 < 41))) ∧ (∀ y21 : Int, y21 = (if (x2 ≠ 0) ∨ ((M8 1 41 (M8 1 26 x4) = 0) ∨ (¬ (iand (M8 1 42 (M8 1 26 x4)) y11 = M8 1 42 (M8 1 26 x4)))) then 1 else 0) → (0 ≤ M8 1 26 x4 ∧ M8 1 26 x4 < 41) ∧ (∀ M23, M23 = sl_wr M8 1 41 (M8 1 26 x4) 1 → (∀ M24, M24 = sl_wr M23 1 42 (M8 1 26 x4) (iand (M23 1 42 (M8 1 26 x4)) y11) → (sl_rg (x4 + 1)) ∧ sl_At l mX10_walksSpan 114 [(0, vR 1 0), (1, vI x1), (2, vI y21), (3, vI x3), (4, vI (x4 + 1))] [] M24 Q))))))))) : sl_At l mX10_walksSpan 114 [(0, vR 1 0), (1, vI x1), (2, vI x2), (3, vI x3), (4, vI x4)] [] M Q := by
  refine sl_At.in (fun hM hls => ?_)
  have g1 : sl_rg x1 := hls _ (List.mem_of_getElem? (i := 1) rfl)
  have g2 : sl_rg x2 := hls _ (List.mem_of_getElem? (i := 2) rfl)
  have g3 : sl_rg x3 := hls _ (List.mem_of_getElem? (i := 3) rfl)
  have g4 : sl_rg x4 := hls _ (List.mem_of_getElem? (i := 4) rfl)
  have H := H hM g1 g2 g3 g4
  refine r_aload_n (k := 0) rfl rfl dX10_walksSpan_114 ?_
  refine r_getR (k := 40) (o' := 1) (i' := 41) ckX10 rfl rfl (by decide) rfl rfl rfl fl_X10_82 dX10_walksSpan_115 ?_
  refine r_iload_n (k := 3) rfl rfl dX10_walksSpan_118 ?_
  obtain ⟨c1, H⟩ := H
  refine r_bald rfl rfl rfl c1 dX10_walksSpan_119 ?_
  refine r_if_eq (tgt := 276) (hM _ _ _) dX10_walksSpan_120 (by decide) (fun h2 => ?_) (fun h2 => ?_)
  · have H := H.1 h2
    obtain ⟨c3, H⟩ := H
    refine r_iinc (k := 3) (ls' := [(3, vI (x3 + 1)), (0, vR 1 0), (1, vI x1), (2, vI x2), (4, vI x4)]) rfl c3 (by decide) rfl dX10_walksSpan_276 ?_
    refine r_goto (tgt := 99) dX10_walksSpan_279 (by decide) ?_
    exact sl_At.sub [1, 2, 3, 0] rfl H
  · have H := H.2 h2
    refine r_iload (k := 4) rfl dX10_walksSpan_123 ?_
    refine r_iconst dX10_walksSpan_125 ?_
    refine r_iload_n (k := 1) rfl rfl dX10_walksSpan_126 ?_
    refine r_iload_n (k := 3) rfl rfl dX10_walksSpan_127 ?_
    refine r_iadd dX10_walksSpan_128 ?_
    refine r_imul dX10_walksSpan_129 ?_
    refine r_aload_n (k := 0) rfl rfl dX10_walksSpan_130 ?_
    refine r_getR (k := 24) (o' := 1) (i' := 25) ckX10 rfl rfl (by decide) rfl rfl rfl fl_X10_55 dX10_walksSpan_131 ?_
    refine r_iload_n (k := 1) rfl rfl dX10_walksSpan_134 ?_
    refine r_iload_n (k := 3) rfl rfl dX10_walksSpan_135 ?_
    refine r_iadd dX10_walksSpan_136 ?_
    obtain ⟨c4, H⟩ := H
    refine r_iald rfl rfl rfl c4 dX10_walksSpan_137 ?_
    refine r_iadd dX10_walksSpan_138 ?_
    obtain ⟨c5, H⟩ := H
    refine r_icmp_ge (tgt := 276) g4 c5 dX10_walksSpan_139 (by decide) (fun h6 => ?_) (fun h6 => ?_)
    · have H := H.1 h6
      obtain ⟨c7, H⟩ := H
      refine r_iinc (k := 3) (ls' := [(3, vI (x3 + 1)), (0, vR 1 0), (1, vI x1), (2, vI x2), (4, vI x4)]) rfl c7 (by decide) rfl dX10_walksSpan_276 ?_
      refine r_goto (tgt := 99) dX10_walksSpan_279 (by decide) ?_
      exact sl_At.sub [1, 2, 3, 0] rfl H
    · have H := H.2 h6
      refine r_aload_n (k := 0) rfl rfl dX10_walksSpan_142 ?_
      refine r_iload_n (k := 1) rfl rfl dX10_walksSpan_143 ?_
      refine r_iload (k := 4) rfl dX10_walksSpan_144 ?_
      refine r_callV (g := mX10_leavesBy) ckX10 rfl rfl rfl rfl mkX10_leavesBy mvX10_leavesBy ml_X10_255 ⟨by decide, by decide⟩ rfl (Nat.le_of_ble_eq_true rfl) rfl (ok_i g1 (ok_i g4 ok_n)) dX10_walksSpan_146 (sl_afterI (sl_RI.mono (fun y9 M8 gy9 hM8 H => ?_) H))
      refine r_istore (ls' := [(5, vI y9), (0, vR 1 0), (1, vI x1), (2, vI x2), (3, vI x3), (4, vI x4)]) gy9 (by decide) rfl dX10_walksSpan_149 ?_
      refine r_aload_n (k := 1) rfl rfl dX10_walksSpan_151 ?_
      refine r_getR (k := 41) (o' := 1) (i' := 42) ckX10 rfl rfl (by decide) rfl rfl rfl fl_X10_86 dX10_walksSpan_152 ?_
      refine r_iload_n (k := 4) rfl rfl dX10_walksSpan_155 ?_
      refine r_iald rfl rfl rfl c1 dX10_walksSpan_156 ?_
      refine r_aload_n (k := 1) rfl rfl dX10_walksSpan_157 ?_
      refine r_getR (k := 26) (o' := 1) (i' := 27) ckX10 rfl rfl (by decide) rfl rfl rfl fl_X10_61 dX10_walksSpan_158 ?_
      refine r_iload (k := 5) rfl dX10_walksSpan_161 ?_
      obtain ⟨c10, H⟩ := H
      refine r_iald rfl rfl rfl c10 dX10_walksSpan_163 ?_
      refine r_ior dX10_walksSpan_164 ?_
      refine r_nm (fun y11 fy11 => ?_)
      have H := H y11 fy11
      have gy11 : sl_rg y11 := by rw [fy11]; exact (rg_ior _ _)
      refine r_istore (ls' := [(6, vI y11), (5, vI y9), (0, vR 1 0), (1, vI x1), (2, vI x2), (3, vI x3), (4, vI x4)]) gy11 (by decide) rfl dX10_walksSpan_165 ?_
      refine r_iload (k := 1) rfl dX10_walksSpan_167 ?_
      refine r_if_ne (tgt := 244) gy9 dX10_walksSpan_169 (by decide) (fun h12 => ?_) (fun h12 => ?_)
      · have H := H.1 h12
        refine r_aload_n (k := 2) rfl rfl dX10_walksSpan_244 ?_
        refine r_dup rfl dX10_walksSpan_245 ?_
        refine r_gI (k := 33) (kz := 33) rfl ckX10 rfl rfl (by decide) rfl rfl fl_X10_252 dX10_walksSpan_246 ?_
        refine r_iload (k := 1) rfl dX10_walksSpan_249 ?_
        refine r_ior dX10_walksSpan_251 ?_
        refine r_pI (k := 33) (kz := 33) rfl ckX10 rfl rfl (by decide) rfl rfl rfl rfl fl_X10_252 (rg_ior _ _) dX10_walksSpan_252 ?_
        refine r_mm (fun M13 e13 => ?_)
        have H := H M13 e13
        have hM13 : sl_RM M13 := by rw [e13]; exact sl_wr_RM hM8 (rg_ior _ _)
        refine r_aload_n (k := 2) rfl rfl dX10_walksSpan_255 ?_
        refine r_getR (k := 38) (o' := 1) (i' := 39) ckX10 rfl rfl (by decide) rfl rfl rfl fl_X10_76 dX10_walksSpan_256 ?_
        refine r_iload (k := 1) rfl dX10_walksSpan_259 ?_
        refine r_callS (g := mX10_placeOf) rfl mkX10_placeOf msX10_placeOf ml_X10_215 ⟨by decide, by decide⟩ rfl (Nat.le_of_ble_eq_true rfl) rfl (ok_i gy9 ok_n) dX10_walksSpan_261 (sl_afterI (sl_RI.by kX10_placeOf ?_))
        refine r_dup2 rfl rfl dX10_walksSpan_264 ?_
        obtain ⟨c14, H⟩ := H
        refine r_iald rfl rfl rfl c14 dX10_walksSpan_265 ?_
        refine r_iload (k := 0) rfl dX10_walksSpan_266 ?_
        refine r_iand dX10_walksSpan_268 ?_
        refine r_iast rfl rfl rfl c14 (rg_iand _ _) dX10_walksSpan_269 ?_
        refine r_mm (fun M15 e15 => ?_)
        have H := H M15 e15
        have hM15 : sl_RM M15 := by rw [e15]; exact sl_wr_RM hM13 (rg_iand _ _)
        obtain ⟨c16, H⟩ := H
        refine r_iinc (k := 6) (ls' := [(4, vI (x4 + 1)), (6, vI y11), (5, vI y9), (0, vR 1 0), (1, vI x1), (2, vI x2), (3, vI x3)]) rfl c16 (by decide) rfl dX10_walksSpan_270 ?_
        refine r_goto (tgt := 114) dX10_walksSpan_273 (by decide) ?_
        exact sl_At.sub [3, 4, 5, 6, 0] rfl H
      · have H := H.2 h12
        refine r_aload_n (k := 2) rfl rfl dX10_walksSpan_172 ?_
        refine r_getR (k := 25) (o' := 1) (i' := 26) ckX10 rfl rfl (by decide) rfl rfl rfl fl_X10_58 dX10_walksSpan_173 ?_
        refine r_iload (k := 6) rfl dX10_walksSpan_176 ?_
        refine r_iald rfl rfl rfl c10 dX10_walksSpan_178 ?_
        refine r_istore (ls' := [(7, vI (M8 1 26 x4)), (6, vI y11), (5, vI y9), (0, vR 1 0), (1, vI x1), (2, vI x2), (3, vI x3), (4, vI x4)]) (hM8 _ _ _) (by decide) rfl dX10_walksSpan_179 ?_
        refine r_iload_n (k := 5) rfl rfl dX10_walksSpan_181 ?_
        obtain ⟨K, H⟩ := H
        have J : sl_At l mX10_walksSpan 220 [(7, vI (M8 1 26 x4)), (6, vI y11), (5, vI y9), (0, vR 1 0), (1, vI x1), (2, vI x2), (3, vI x3), (4, vI x4)] [vI (if (x2 ≠ 0) ∨ ((M8 1 41 (M8 1 26 x4) = 0) ∨ (¬ (iand (M8 1 42 (M8 1 26 x4)) y11 = M8 1 42 (M8 1 26 x4)))) then 1 else 0)] M8 Q := by
          refine r_nm (fun y21 fy21 => ?_)
          have H := H y21 fy21
          have gy21 : sl_rg y21 := by rw [fy21]; exact rg_b
          refine r_istore_n (ls' := [(2, vI y21), (7, vI (M8 1 26 x4)), (6, vI y11), (5, vI y9), (0, vR 1 0), (1, vI x1), (3, vI x3), (4, vI x4)]) gy21 rfl (by decide) rfl dX10_walksSpan_220 ?_
          refine r_aload_n (k := 4) rfl rfl dX10_walksSpan_221 ?_
          refine r_getR (k := 40) (o' := 1) (i' := 41) ckX10 rfl rfl (by decide) rfl rfl rfl fl_X10_82 dX10_walksSpan_222 ?_
          refine r_iload (k := 1) rfl dX10_walksSpan_225 ?_
          refine r_iconst dX10_walksSpan_227 ?_
          obtain ⟨c22, H⟩ := H
          refine r_bast rfl rfl rfl c22 (Or.inr rfl) dX10_walksSpan_228 ?_
          refine r_mm (fun M23 e23 => ?_)
          have H := H M23 e23
          have hM23 : sl_RM M23 := by rw [e23]; exact sl_wr_RM hM8 (sl_rg01 (Or.inr rfl))
          refine r_aload_n (k := 4) rfl rfl dX10_walksSpan_229 ?_
          refine r_getR (k := 41) (o' := 1) (i' := 42) ckX10 rfl rfl (by decide) rfl rfl rfl fl_X10_86 dX10_walksSpan_230 ?_
          refine r_iload (k := 1) rfl dX10_walksSpan_233 ?_
          refine r_dup2 rfl rfl dX10_walksSpan_235 ?_
          refine r_iald rfl rfl rfl c22 dX10_walksSpan_236 ?_
          refine r_iload (k := 2) rfl dX10_walksSpan_237 ?_
          refine r_iand dX10_walksSpan_239 ?_
          refine r_iast rfl rfl rfl c22 (rg_iand _ _) dX10_walksSpan_240 ?_
          refine r_mm (fun M24 e24 => ?_)
          have H := H M24 e24
          have hM24 : sl_RM M24 := by rw [e24]; exact sl_wr_RM hM23 (rg_iand _ _)
          refine r_goto (tgt := 270) dX10_walksSpan_241 (by decide) ?_
          obtain ⟨c25, H⟩ := H
          refine r_iinc (k := 7) (ls' := [(4, vI (x4 + 1)), (2, vI y21), (7, vI (M8 1 26 x4)), (6, vI y11), (5, vI y9), (0, vR 1 0), (1, vI x1), (3, vI x3)]) rfl c25 (by decide) rfl dX10_walksSpan_270 ?_
          refine r_goto (tgt := 114) dX10_walksSpan_273 (by decide) ?_
          exact sl_At.sub [5, 6, 1, 7, 0] rfl H
        refine r_if_ne (tgt := 215) g2 dX10_walksSpan_182 (by decide) (fun h18 => ?_) (fun h18 => ?_)
        · refine r_iconst dX10_walksSpan_215 ?_
          refine r_goto (tgt := 220) dX10_walksSpan_216 (by decide) ?_
          rw [if_pos (show (x2 ≠ 0) ∨ ((M8 1 41 (M8 1 26 x4) = 0) ∨ (¬ (iand (M8 1 42 (M8 1 26 x4)) y11 = M8 1 42 (M8 1 26 x4)))) by omega)] at J
          exact J
        · replace K := K h18
          have c17 := K
          refine r_aload_n (k := 3) rfl rfl dX10_walksSpan_185 ?_
          refine r_getR (k := 40) (o' := 1) (i' := 41) ckX10 rfl rfl (by decide) rfl rfl rfl fl_X10_82 dX10_walksSpan_186 ?_
          refine r_iload (k := 0) rfl dX10_walksSpan_189 ?_
          refine r_bald rfl rfl rfl c17 dX10_walksSpan_191 ?_
          refine r_if_eq (tgt := 215) (hM8 _ _ _) dX10_walksSpan_192 (by decide) (fun h19 => ?_) (fun h19 => ?_)
          · refine r_iconst dX10_walksSpan_215 ?_
            refine r_goto (tgt := 220) dX10_walksSpan_216 (by decide) ?_
            rw [if_pos (show (x2 ≠ 0) ∨ ((M8 1 41 (M8 1 26 x4) = 0) ∨ (¬ (iand (M8 1 42 (M8 1 26 x4)) y11 = M8 1 42 (M8 1 26 x4)))) by omega)] at J
            exact J
          · refine r_aload_n (k := 3) rfl rfl dX10_walksSpan_195 ?_
            refine r_getR (k := 41) (o' := 1) (i' := 42) ckX10 rfl rfl (by decide) rfl rfl rfl fl_X10_86 dX10_walksSpan_196 ?_
            refine r_iload (k := 0) rfl dX10_walksSpan_199 ?_
            refine r_iald rfl rfl rfl c17 dX10_walksSpan_201 ?_
            refine r_iload (k := 1) rfl dX10_walksSpan_202 ?_
            refine r_iand dX10_walksSpan_204 ?_
            refine r_aload_n (k := 3) rfl rfl dX10_walksSpan_205 ?_
            refine r_getR (k := 41) (o' := 1) (i' := 42) ckX10 rfl rfl (by decide) rfl rfl rfl fl_X10_86 dX10_walksSpan_206 ?_
            refine r_iload (k := 0) rfl dX10_walksSpan_209 ?_
            refine r_iald rfl rfl rfl c17 dX10_walksSpan_211 ?_
            refine r_icmp_eq (tgt := 219) (rg_iand _ _) (hM8 _ _ _) dX10_walksSpan_212 (by decide) (fun h20 => ?_) (fun h20 => ?_)
            · refine r_iconst dX10_walksSpan_219 ?_
              rw [if_neg (show ¬ ((x2 ≠ 0) ∨ ((M8 1 41 (M8 1 26 x4) = 0) ∨ (¬ (iand (M8 1 42 (M8 1 26 x4)) y11 = M8 1 42 (M8 1 26 x4))))) by omega)] at J
              exact J
            · refine r_iconst dX10_walksSpan_215 ?_
              refine r_goto (tgt := 220) dX10_walksSpan_216 (by decide) ?_
              rw [if_pos (show (x2 ≠ 0) ∨ ((M8 1 41 (M8 1 26 x4) = 0) ∨ (¬ (iand (M8 1 42 (M8 1 26 x4)) y11 = M8 1 42 (M8 1 26 x4)))) by omega)] at J
              exact J
set_option maxHeartbeats 4000000 in
set_option maxRecDepth 10000 in
theorem vX10_walksSpan_215 {l : Launch} {M : sl_M} {Q : sl_R} {x1 x3 x4 x6 x7 : Int} (H : sl_RM M → sl_rg x1 → sl_rg x3 → sl_rg x4 → sl_rg x6 → sl_rg x7 → (0 ≤ x7 ∧ x7 < 41) ∧ (∀ M2, M2 = sl_wr M 1 41 x7 1 → (∀ M3, M3 = sl_wr M2 1 42 x7 (iand (M2 1 42 x7) x6) → (sl_rg (x4 + 1)) ∧ sl_At l mX10_walksSpan 114 [(0, vR 1 0), (1, vI x1), (2, vI 1), (3, vI x3), (4, vI (x4 + 1))] [] M3 Q))) : sl_At l mX10_walksSpan 215 [(0, vR 1 0), (1, vI x1), (3, vI x3), (4, vI x4), (6, vI x6), (7, vI x7)] [] M Q := by
  refine sl_At.in (fun hM hls => ?_)
  have g1 : sl_rg x1 := hls _ (List.mem_of_getElem? (i := 1) rfl)
  have g3 : sl_rg x3 := hls _ (List.mem_of_getElem? (i := 2) rfl)
  have g4 : sl_rg x4 := hls _ (List.mem_of_getElem? (i := 3) rfl)
  have g6 : sl_rg x6 := hls _ (List.mem_of_getElem? (i := 4) rfl)
  have g7 : sl_rg x7 := hls _ (List.mem_of_getElem? (i := 5) rfl)
  have H := H hM g1 g3 g4 g6 g7
  refine r_iconst dX10_walksSpan_215 ?_
  refine r_goto (tgt := 220) dX10_walksSpan_216 (by decide) ?_
  refine r_istore_n (ls' := [(2, vI 1), (0, vR 1 0), (1, vI x1), (3, vI x3), (4, vI x4), (6, vI x6), (7, vI x7)]) ⟨by decide, by decide⟩ rfl (by decide) rfl dX10_walksSpan_220 ?_
  refine r_aload_n (k := 1) rfl rfl dX10_walksSpan_221 ?_
  refine r_getR (k := 40) (o' := 1) (i' := 41) ckX10 rfl rfl (by decide) rfl rfl rfl fl_X10_82 dX10_walksSpan_222 ?_
  refine r_iload (k := 6) rfl dX10_walksSpan_225 ?_
  refine r_iconst dX10_walksSpan_227 ?_
  obtain ⟨c1, H⟩ := H
  refine r_bast rfl rfl rfl c1 (Or.inr rfl) dX10_walksSpan_228 ?_
  refine r_mm (fun M2 e2 => ?_)
  have H := H M2 e2
  have hM2 : sl_RM M2 := by rw [e2]; exact sl_wr_RM hM (sl_rg01 (Or.inr rfl))
  refine r_aload_n (k := 1) rfl rfl dX10_walksSpan_229 ?_
  refine r_getR (k := 41) (o' := 1) (i' := 42) ckX10 rfl rfl (by decide) rfl rfl rfl fl_X10_86 dX10_walksSpan_230 ?_
  refine r_iload (k := 6) rfl dX10_walksSpan_233 ?_
  refine r_dup2 rfl rfl dX10_walksSpan_235 ?_
  refine r_iald rfl rfl rfl c1 dX10_walksSpan_236 ?_
  refine r_iload (k := 5) rfl dX10_walksSpan_237 ?_
  refine r_iand dX10_walksSpan_239 ?_
  refine r_iast rfl rfl rfl c1 (rg_iand _ _) dX10_walksSpan_240 ?_
  refine r_mm (fun M3 e3 => ?_)
  have H := H M3 e3
  have hM3 : sl_RM M3 := by rw [e3]; exact sl_wr_RM hM2 (rg_iand _ _)
  refine r_goto (tgt := 270) dX10_walksSpan_241 (by decide) ?_
  obtain ⟨c4, H⟩ := H
  refine r_iinc (k := 4) (ls' := [(4, vI (x4 + 1)), (2, vI 1), (0, vR 1 0), (1, vI x1), (3, vI x3), (6, vI x6), (7, vI x7)]) rfl c4 (by decide) rfl dX10_walksSpan_270 ?_
  refine r_goto (tgt := 114) dX10_walksSpan_273 (by decide) ?_
  exact sl_At.sub [2, 3, 1, 4, 0] rfl H
theorem eX10_walksSpan {l : Launch} {M : sl_M} {Q : sl_R} {x1 : Int} (k : sl_At l mX10_walksSpan 0 [(0, vR 1 0), (1, vI x1)] [] M Q) : sl_Runs l mX10_walksSpan [vR 1 0, vI x1] M Q := sl_Runs.of (ls := [(0, vR 1 0), (1, vI x1)]) rfl rfl (fun _ => rfl) (fun _ => Nat.le_of_ble_eq_true rfl) rfl (k)
theorem dX10_laysSpan_0 : decode cX10_laysSpan 0 = .ok (.aload_n 0, 1) := by decide +kernel
theorem dX10_laysSpan_1 : decode cX10_laysSpan 1 = .ok (.iload_n 1, 1) := by decide +kernel
theorem dX10_laysSpan_2 : decode cX10_laysSpan 2 = .ok (.putfield 246, 3) := by decide +kernel
theorem dX10_laysSpan_5 : decode cX10_laysSpan 5 = .ok (.aload_n 0, 1) := by decide +kernel
theorem dX10_laysSpan_6 : decode cX10_laysSpan 6 = .ok (.aload_n 0, 1) := by decide +kernel
theorem dX10_laysSpan_7 : decode cX10_laysSpan 7 = .ok (.getfield 40, 3) := by decide +kernel
theorem dX10_laysSpan_10 : decode cX10_laysSpan 10 = .ok (.iload_n 2, 1) := by decide +kernel
theorem dX10_laysSpan_11 : decode cX10_laysSpan 11 = .ok (.iaload, 1) := by decide +kernel
theorem dX10_laysSpan_12 : decode cX10_laysSpan 12 = .ok (.putfield 249, 3) := by decide +kernel
theorem dX10_laysSpan_15 : decode cX10_laysSpan 15 = .ok (.aload_n 0, 1) := by decide +kernel
theorem dX10_laysSpan_16 : decode cX10_laysSpan 16 = .ok (.iconst 0, 1) := by decide +kernel
theorem dX10_laysSpan_17 : decode cX10_laysSpan 17 = .ok (.invokevirtual 258, 3) := by decide +kernel
theorem dX10_laysSpan_20 : decode cX10_laysSpan 20 = .ok (.aload_n 0, 1) := by decide +kernel
theorem dX10_laysSpan_21 : decode cX10_laysSpan 21 = .ok (.getfield 49, 3) := by decide +kernel
theorem dX10_laysSpan_24 : decode cX10_laysSpan 24 = .ok (.iload_n 1, 1) := by decide +kernel
theorem dX10_laysSpan_25 : decode cX10_laysSpan 25 = .ok (.iaload, 1) := by decide +kernel
theorem dX10_laysSpan_26 : decode cX10_laysSpan 26 = .ok (.istore_n 3, 1) := by decide +kernel
theorem dX10_laysSpan_27 : decode cX10_laysSpan 27 = .ok (.aload_n 0, 1) := by decide +kernel
theorem dX10_laysSpan_28 : decode cX10_laysSpan 28 = .ok (.getfield 79, 3) := by decide +kernel
theorem dX10_laysSpan_31 : decode cX10_laysSpan 31 = .ok (.iconst 0, 1) := by decide +kernel
theorem dX10_laysSpan_32 : decode cX10_laysSpan 32 = .ok (.aload_n 0, 1) := by decide +kernel
theorem dX10_laysSpan_33 : decode cX10_laysSpan 33 = .ok (.getfield 70, 3) := by decide +kernel
theorem dX10_laysSpan_36 : decode cX10_laysSpan 36 = .ok (.aload_n 0, 1) := by decide +kernel
theorem dX10_laysSpan_37 : decode cX10_laysSpan 37 = .ok (.iconst 0, 1) := by decide +kernel
theorem dX10_laysSpan_38 : decode cX10_laysSpan 38 = .ok (.iload_n 2, 1) := by decide +kernel
theorem dX10_laysSpan_39 : decode cX10_laysSpan 39 = .ok (.invokevirtual 207, 3) := by decide +kernel
theorem dX10_laysSpan_42 : decode cX10_laysSpan 42 = .ok (.iaload, 1) := by decide +kernel
theorem dX10_laysSpan_43 : decode cX10_laysSpan 43 = .ok (.iastore, 1) := by decide +kernel
theorem dX10_laysSpan_44 : decode cX10_laysSpan 44 = .ok (.aload_n 0, 1) := by decide +kernel
theorem dX10_laysSpan_45 : decode cX10_laysSpan 45 = .ok (.getfield 79, 3) := by decide +kernel
theorem dX10_laysSpan_48 : decode cX10_laysSpan 48 = .ok (.iconst 1, 1) := by decide +kernel
theorem dX10_laysSpan_49 : decode cX10_laysSpan 49 = .ok (.iload_n 3, 1) := by decide +kernel
theorem dX10_laysSpan_50 : decode cX10_laysSpan 50 = .ok (.iconst (-1), 1) := by decide +kernel
theorem dX10_laysSpan_51 : decode cX10_laysSpan 51 = .ok (.if_icmp .ne 7, 3) := by decide +kernel
theorem dX10_laysSpan_54 : decode cX10_laysSpan 54 = .ok (.iconst 0, 1) := by decide +kernel
theorem dX10_laysSpan_55 : decode cX10_laysSpan 55 = .ok (.goto 14, 3) := by decide +kernel
theorem dX10_laysSpan_58 : decode cX10_laysSpan 58 = .ok (.aload_n 0, 1) := by decide +kernel
theorem dX10_laysSpan_59 : decode cX10_laysSpan 59 = .ok (.getfield 70, 3) := by decide +kernel
theorem dX10_laysSpan_62 : decode cX10_laysSpan 62 = .ok (.aload_n 0, 1) := by decide +kernel
theorem dX10_laysSpan_63 : decode cX10_laysSpan 63 = .ok (.iconst 0, 1) := by decide +kernel
theorem dX10_laysSpan_64 : decode cX10_laysSpan 64 = .ok (.iload_n 3, 1) := by decide +kernel
theorem dX10_laysSpan_65 : decode cX10_laysSpan 65 = .ok (.invokevirtual 207, 3) := by decide +kernel
theorem dX10_laysSpan_68 : decode cX10_laysSpan 68 = .ok (.iaload, 1) := by decide +kernel
theorem dX10_laysSpan_69 : decode cX10_laysSpan 69 = .ok (.iastore, 1) := by decide +kernel
theorem dX10_laysSpan_70 : decode cX10_laysSpan 70 = .ok (.aload_n 0, 1) := by decide +kernel
theorem dX10_laysSpan_71 : decode cX10_laysSpan 71 = .ok (.getfield 79, 3) := by decide +kernel
theorem dX10_laysSpan_74 : decode cX10_laysSpan 74 = .ok (.iconst 2, 1) := by decide +kernel
theorem dX10_laysSpan_75 : decode cX10_laysSpan 75 = .ok (.iload_n 3, 1) := by decide +kernel
theorem dX10_laysSpan_76 : decode cX10_laysSpan 76 = .ok (.iconst (-1), 1) := by decide +kernel
theorem dX10_laysSpan_77 : decode cX10_laysSpan 77 = .ok (.if_icmp .ne 7, 3) := by decide +kernel
theorem dX10_laysSpan_80 : decode cX10_laysSpan 80 = .ok (.iconst 0, 1) := by decide +kernel
theorem dX10_laysSpan_81 : decode cX10_laysSpan 81 = .ok (.goto 9, 3) := by decide +kernel
theorem dX10_laysSpan_84 : decode cX10_laysSpan 84 = .ok (.aload_n 0, 1) := by decide +kernel
theorem dX10_laysSpan_85 : decode cX10_laysSpan 85 = .ok (.getfield 70, 3) := by decide +kernel
theorem dX10_laysSpan_88 : decode cX10_laysSpan 88 = .ok (.iload_n 3, 1) := by decide +kernel
theorem dX10_laysSpan_89 : decode cX10_laysSpan 89 = .ok (.iaload, 1) := by decide +kernel
theorem dX10_laysSpan_90 : decode cX10_laysSpan 90 = .ok (.iastore, 1) := by decide +kernel
theorem dX10_laysSpan_91 : decode cX10_laysSpan 91 = .ok (.aload_n 0, 1) := by decide +kernel
theorem dX10_laysSpan_92 : decode cX10_laysSpan 92 = .ok (.getfield 79, 3) := by decide +kernel
theorem dX10_laysSpan_95 : decode cX10_laysSpan 95 = .ok (.iconst 3, 1) := by decide +kernel
theorem dX10_laysSpan_96 : decode cX10_laysSpan 96 = .ok (.iconst 0, 1) := by decide +kernel
theorem dX10_laysSpan_97 : decode cX10_laysSpan 97 = .ok (.iastore, 1) := by decide +kernel
theorem dX10_laysSpan_98 : decode cX10_laysSpan 98 = .ok (.aload_n 0, 1) := by decide +kernel
theorem dX10_laysSpan_99 : decode cX10_laysSpan 99 = .ok (.iconst 0, 1) := by decide +kernel
theorem dX10_laysSpan_100 : decode cX10_laysSpan 100 = .ok (.putfield 261, 3) := by decide +kernel
theorem dX10_laysSpan_103 : decode cX10_laysSpan 103 = .ok (.aload_n 0, 1) := by decide +kernel
theorem dX10_laysSpan_104 : decode cX10_laysSpan 104 = .ok (.iconst 0, 1) := by decide +kernel
theorem dX10_laysSpan_105 : decode cX10_laysSpan 105 = .ok (.putfield 264, 3) := by decide +kernel
theorem dX10_laysSpan_108 : decode cX10_laysSpan 108 = .ok (.iconst 0, 1) := by decide +kernel
theorem dX10_laysSpan_109 : decode cX10_laysSpan 109 = .ok (.istore 4, 2) := by decide +kernel
theorem dX10_laysSpan_111 : decode cX10_laysSpan 111 = .ok (.iconst 0, 1) := by decide +kernel
theorem dX10_laysSpan_112 : decode cX10_laysSpan 112 = .ok (.istore 5, 2) := by decide +kernel
theorem dX10_laysSpan_114 : decode cX10_laysSpan 114 = .ok (.aload_n 0, 1) := by decide +kernel
theorem dX10_laysSpan_115 : decode cX10_laysSpan 115 = .ok (.getfield 246, 3) := by decide +kernel
theorem dX10_laysSpan_118 : decode cX10_laysSpan 118 = .ok (.istore 6, 2) := by decide +kernel
theorem dX10_laysSpan_120 : decode cX10_laysSpan 120 = .ok (.iload 6, 2) := by decide +kernel
theorem dX10_laysSpan_122 : decode cX10_laysSpan 122 = .ok (.aload_n 0, 1) := by decide +kernel
theorem dX10_laysSpan_123 : decode cX10_laysSpan 123 = .ok (.getfield 249, 3) := by decide +kernel
theorem dX10_laysSpan_126 : decode cX10_laysSpan 126 = .ok (.if_icmp .ge 168, 3) := by decide +kernel
theorem dX10_laysSpan_129 : decode cX10_laysSpan 129 = .ok (.iload 5, 2) := by decide +kernel
theorem dX10_laysSpan_131 : decode cX10_laysSpan 131 = .ok (.ifCond .ne 15, 3) := by decide +kernel
theorem dX10_laysSpan_134 : decode cX10_laysSpan 134 = .ok (.aload_n 0, 1) := by decide +kernel
theorem dX10_laysSpan_135 : decode cX10_laysSpan 135 = .ok (.getfield 31, 3) := by decide +kernel
theorem dX10_laysSpan_138 : decode cX10_laysSpan 138 = .ok (.iload 6, 2) := by decide +kernel
theorem dX10_laysSpan_140 : decode cX10_laysSpan 140 = .ok (.iaload, 1) := by decide +kernel
theorem dX10_laysSpan_141 : decode cX10_laysSpan 141 = .ok (.bipush 7, 2) := by decide +kernel
theorem dX10_laysSpan_143 : decode cX10_laysSpan 143 = .ok (.if_icmp .ne 7, 3) := by decide +kernel
theorem dX10_laysSpan_146 : decode cX10_laysSpan 146 = .ok (.iconst 1, 1) := by decide +kernel
theorem dX10_laysSpan_147 : decode cX10_laysSpan 147 = .ok (.goto 4, 3) := by decide +kernel
theorem dX10_laysSpan_150 : decode cX10_laysSpan 150 = .ok (.iconst 0, 1) := by decide +kernel
theorem dX10_laysSpan_151 : decode cX10_laysSpan 151 = .ok (.istore 5, 2) := by decide +kernel
theorem dX10_laysSpan_153 : decode cX10_laysSpan 153 = .ok (.aload_n 0, 1) := by decide +kernel
theorem dX10_laysSpan_154 : decode cX10_laysSpan 154 = .ok (.getfield 31, 3) := by decide +kernel
theorem dX10_laysSpan_157 : decode cX10_laysSpan 157 = .ok (.iload 6, 2) := by decide +kernel
theorem dX10_laysSpan_159 : decode cX10_laysSpan 159 = .ok (.iaload, 1) := by decide +kernel
theorem dX10_laysSpan_160 : decode cX10_laysSpan 160 = .ok (.ifCond .ne 24, 3) := by decide +kernel
theorem dX10_laysSpan_163 : decode cX10_laysSpan 163 = .ok (.iconst 1, 1) := by decide +kernel
theorem dX10_laysSpan_164 : decode cX10_laysSpan 164 = .ok (.aload_n 0, 1) := by decide +kernel
theorem dX10_laysSpan_165 : decode cX10_laysSpan 165 = .ok (.getfield 7, 3) := by decide +kernel
theorem dX10_laysSpan_168 : decode cX10_laysSpan 168 = .ok (.sipush 201, 3) := by decide +kernel
theorem dX10_laysSpan_171 : decode cX10_laysSpan 171 = .ok (.aload_n 0, 1) := by decide +kernel
theorem dX10_laysSpan_172 : decode cX10_laysSpan 172 = .ok (.getfield 43, 3) := by decide +kernel
theorem dX10_laysSpan_175 : decode cX10_laysSpan 175 = .ok (.iload 6, 2) := by decide +kernel
theorem dX10_laysSpan_177 : decode cX10_laysSpan 177 = .ok (.iaload, 1) := by decide +kernel
theorem dX10_laysSpan_178 : decode cX10_laysSpan 178 = .ok (.iadd, 1) := by decide +kernel
theorem dX10_laysSpan_179 : decode cX10_laysSpan 179 = .ok (.iaload, 1) := by decide +kernel
theorem dX10_laysSpan_180 : decode cX10_laysSpan 180 = .ok (.ishl, 1) := by decide +kernel
theorem dX10_laysSpan_181 : decode cX10_laysSpan 181 = .ok (.goto 39, 3) := by decide +kernel
theorem dX10_laysSpan_184 : decode cX10_laysSpan 184 = .ok (.aload_n 0, 1) := by decide +kernel
theorem dX10_laysSpan_185 : decode cX10_laysSpan 185 = .ok (.getfield 31, 3) := by decide +kernel
theorem dX10_laysSpan_188 : decode cX10_laysSpan 188 = .ok (.iload 6, 2) := by decide +kernel
theorem dX10_laysSpan_190 : decode cX10_laysSpan 190 = .ok (.iaload, 1) := by decide +kernel
theorem dX10_laysSpan_191 : decode cX10_laysSpan 191 = .ok (.bipush 7, 2) := by decide +kernel
theorem dX10_laysSpan_193 : decode cX10_laysSpan 193 = .ok (.if_icmp .ne 26, 3) := by decide +kernel
theorem dX10_laysSpan_196 : decode cX10_laysSpan 196 = .ok (.aload_n 0, 1) := by decide +kernel
theorem dX10_laysSpan_197 : decode cX10_laysSpan 197 = .ok (.aload_n 0, 1) := by decide +kernel
theorem dX10_laysSpan_198 : decode cX10_laysSpan 198 = .ok (.getfield 7, 3) := by decide +kernel
theorem dX10_laysSpan_201 : decode cX10_laysSpan 201 = .ok (.sipush 950, 3) := by decide +kernel
theorem dX10_laysSpan_204 : decode cX10_laysSpan 204 = .ok (.aload_n 0, 1) := by decide +kernel
theorem dX10_laysSpan_205 : decode cX10_laysSpan 205 = .ok (.getfield 46, 3) := by decide +kernel
theorem dX10_laysSpan_208 : decode cX10_laysSpan 208 = .ok (.iload 6, 2) := by decide +kernel
theorem dX10_laysSpan_210 : decode cX10_laysSpan 210 = .ok (.iaload, 1) := by decide +kernel
theorem dX10_laysSpan_211 : decode cX10_laysSpan 211 = .ok (.iadd, 1) := by decide +kernel
theorem dX10_laysSpan_212 : decode cX10_laysSpan 212 = .ok (.iaload, 1) := by decide +kernel
theorem dX10_laysSpan_213 : decode cX10_laysSpan 213 = .ok (.invokevirtual 195, 3) := by decide +kernel
theorem dX10_laysSpan_216 : decode cX10_laysSpan 216 = .ok (.goto 4, 3) := by decide +kernel
theorem dX10_laysSpan_219 : decode cX10_laysSpan 219 = .ok (.iconst 0, 1) := by decide +kernel
theorem dX10_laysSpan_220 : decode cX10_laysSpan 220 = .ok (.istore 7, 2) := by decide +kernel
theorem dX10_laysSpan_222 : decode cX10_laysSpan 222 = .ok (.iload 4, 2) := by decide +kernel
theorem dX10_laysSpan_224 : decode cX10_laysSpan 224 = .ok (.iload 7, 2) := by decide +kernel
theorem dX10_laysSpan_226 : decode cX10_laysSpan 226 = .ok (.ior, 1) := by decide +kernel
theorem dX10_laysSpan_227 : decode cX10_laysSpan 227 = .ok (.istore 4, 2) := by decide +kernel
theorem dX10_laysSpan_229 : decode cX10_laysSpan 229 = .ok (.aload_n 0, 1) := by decide +kernel
theorem dX10_laysSpan_230 : decode cX10_laysSpan 230 = .ok (.dup, 1) := by decide +kernel
theorem dX10_laysSpan_231 : decode cX10_laysSpan 231 = .ok (.getfield 264, 3) := by decide +kernel
theorem dX10_laysSpan_234 : decode cX10_laysSpan 234 = .ok (.iload 7, 2) := by decide +kernel
theorem dX10_laysSpan_236 : decode cX10_laysSpan 236 = .ok (.aload_n 0, 1) := by decide +kernel
theorem dX10_laysSpan_237 : decode cX10_laysSpan 237 = .ok (.getfield 52, 3) := by decide +kernel
theorem dX10_laysSpan_240 : decode cX10_laysSpan 240 = .ok (.iload 6, 2) := by decide +kernel
theorem dX10_laysSpan_242 : decode cX10_laysSpan 242 = .ok (.iaload, 1) := by decide +kernel
theorem dX10_laysSpan_243 : decode cX10_laysSpan 243 = .ok (.ior, 1) := by decide +kernel
theorem dX10_laysSpan_244 : decode cX10_laysSpan 244 = .ok (.ior, 1) := by decide +kernel
theorem dX10_laysSpan_245 : decode cX10_laysSpan 245 = .ok (.putfield 264, 3) := by decide +kernel
theorem dX10_laysSpan_248 : decode cX10_laysSpan 248 = .ok (.aload_n 0, 1) := by decide +kernel
theorem dX10_laysSpan_249 : decode cX10_laysSpan 249 = .ok (.dup, 1) := by decide +kernel
theorem dX10_laysSpan_250 : decode cX10_laysSpan 250 = .ok (.getfield 261, 3) := by decide +kernel
theorem dX10_laysSpan_253 : decode cX10_laysSpan 253 = .ok (.aload_n 0, 1) := by decide +kernel
theorem dX10_laysSpan_254 : decode cX10_laysSpan 254 = .ok (.getfield 82, 3) := by decide +kernel
theorem dX10_laysSpan_257 : decode cX10_laysSpan 257 = .ok (.iload 6, 2) := by decide +kernel
theorem dX10_laysSpan_259 : decode cX10_laysSpan 259 = .ok (.baload, 1) := by decide +kernel
theorem dX10_laysSpan_260 : decode cX10_laysSpan 260 = .ok (.ifCond .eq 23, 3) := by decide +kernel
theorem dX10_laysSpan_263 : decode cX10_laysSpan 263 = .ok (.aload_n 0, 1) := by decide +kernel
theorem dX10_laysSpan_264 : decode cX10_laysSpan 264 = .ok (.getfield 52, 3) := by decide +kernel
theorem dX10_laysSpan_267 : decode cX10_laysSpan 267 = .ok (.iload 6, 2) := by decide +kernel
theorem dX10_laysSpan_269 : decode cX10_laysSpan 269 = .ok (.iaload, 1) := by decide +kernel
theorem dX10_laysSpan_270 : decode cX10_laysSpan 270 = .ok (.aload_n 0, 1) := by decide +kernel
theorem dX10_laysSpan_271 : decode cX10_laysSpan 271 = .ok (.getfield 86, 3) := by decide +kernel
theorem dX10_laysSpan_274 : decode cX10_laysSpan 274 = .ok (.iload 6, 2) := by decide +kernel
theorem dX10_laysSpan_276 : decode cX10_laysSpan 276 = .ok (.iaload, 1) := by decide +kernel
theorem dX10_laysSpan_277 : decode cX10_laysSpan 277 = .ok (.iconst (-1), 1) := by decide +kernel
theorem dX10_laysSpan_278 : decode cX10_laysSpan 278 = .ok (.ixor, 1) := by decide +kernel
theorem dX10_laysSpan_279 : decode cX10_laysSpan 279 = .ok (.iand, 1) := by decide +kernel
theorem dX10_laysSpan_280 : decode cX10_laysSpan 280 = .ok (.goto 4, 3) := by decide +kernel
theorem dX10_laysSpan_283 : decode cX10_laysSpan 283 = .ok (.iconst 0, 1) := by decide +kernel
theorem dX10_laysSpan_284 : decode cX10_laysSpan 284 = .ok (.ior, 1) := by decide +kernel
theorem dX10_laysSpan_285 : decode cX10_laysSpan 285 = .ok (.putfield 261, 3) := by decide +kernel
theorem dX10_laysSpan_288 : decode cX10_laysSpan 288 = .ok (.iinc 6 1, 3) := by decide +kernel
theorem dX10_laysSpan_291 : decode cX10_laysSpan 291 = .ok (.goto (-171), 3) := by decide +kernel
theorem dX10_laysSpan_294 : decode cX10_laysSpan 294 = .ok (.aload_n 0, 1) := by decide +kernel
theorem dX10_laysSpan_295 : decode cX10_laysSpan 295 = .ok (.iconst 0, 1) := by decide +kernel
theorem dX10_laysSpan_296 : decode cX10_laysSpan 296 = .ok (.putfield 267, 3) := by decide +kernel
theorem dX10_laysSpan_299 : decode cX10_laysSpan 299 = .ok (.iconst 1, 1) := by decide +kernel
theorem dX10_laysSpan_300 : decode cX10_laysSpan 300 = .ok (.istore 6, 2) := by decide +kernel
theorem dX10_laysSpan_302 : decode cX10_laysSpan 302 = .ok (.iload 6, 2) := by decide +kernel
theorem dX10_laysSpan_304 : decode cX10_laysSpan 304 = .ok (.bipush 8, 2) := by decide +kernel
theorem dX10_laysSpan_306 : decode cX10_laysSpan 306 = .ok (.if_icmp .gt 77, 3) := by decide +kernel
theorem dX10_laysSpan_309 : decode cX10_laysSpan 309 = .ok (.iload 6, 2) := by decide +kernel
theorem dX10_laysSpan_311 : decode cX10_laysSpan 311 = .ok (.invokestatic 215, 3) := by decide +kernel
theorem dX10_laysSpan_314 : decode cX10_laysSpan 314 = .ok (.istore 7, 2) := by decide +kernel
theorem dX10_laysSpan_316 : decode cX10_laysSpan 316 = .ok (.aload_n 0, 1) := by decide +kernel
theorem dX10_laysSpan_317 : decode cX10_laysSpan 317 = .ok (.getfield 252, 3) := by decide +kernel
theorem dX10_laysSpan_320 : decode cX10_laysSpan 320 = .ok (.iload 6, 2) := by decide +kernel
theorem dX10_laysSpan_322 : decode cX10_laysSpan 322 = .ok (.iand, 1) := by decide +kernel
theorem dX10_laysSpan_323 : decode cX10_laysSpan 323 = .ok (.ifCond .eq 51, 3) := by decide +kernel
theorem dX10_laysSpan_326 : decode cX10_laysSpan 326 = .ok (.aload_n 0, 1) := by decide +kernel
theorem dX10_laysSpan_327 : decode cX10_laysSpan 327 = .ok (.dup, 1) := by decide +kernel
theorem dX10_laysSpan_328 : decode cX10_laysSpan 328 = .ok (.getfield 267, 3) := by decide +kernel
theorem dX10_laysSpan_331 : decode cX10_laysSpan 331 = .ok (.iload 4, 2) := by decide +kernel
theorem dX10_laysSpan_333 : decode cX10_laysSpan 333 = .ok (.aload_n 0, 1) := by decide +kernel
theorem dX10_laysSpan_334 : decode cX10_laysSpan 334 = .ok (.getfield 79, 3) := by decide +kernel
theorem dX10_laysSpan_337 : decode cX10_laysSpan 337 = .ok (.iload 7, 2) := by decide +kernel
theorem dX10_laysSpan_339 : decode cX10_laysSpan 339 = .ok (.iaload, 1) := by decide +kernel
theorem dX10_laysSpan_340 : decode cX10_laysSpan 340 = .ok (.iand, 1) := by decide +kernel
theorem dX10_laysSpan_341 : decode cX10_laysSpan 341 = .ok (.ior, 1) := by decide +kernel
theorem dX10_laysSpan_342 : decode cX10_laysSpan 342 = .ok (.putfield 267, 3) := by decide +kernel
theorem dX10_laysSpan_345 : decode cX10_laysSpan 345 = .ok (.aload_n 0, 1) := by decide +kernel
theorem dX10_laysSpan_346 : decode cX10_laysSpan 346 = .ok (.dup, 1) := by decide +kernel
theorem dX10_laysSpan_347 : decode cX10_laysSpan 347 = .ok (.getfield 261, 3) := by decide +kernel
theorem dX10_laysSpan_350 : decode cX10_laysSpan 350 = .ok (.iload 4, 2) := by decide +kernel
theorem dX10_laysSpan_352 : decode cX10_laysSpan 352 = .ok (.aload_n 0, 1) := by decide +kernel
theorem dX10_laysSpan_353 : decode cX10_laysSpan 353 = .ok (.getfield 79, 3) := by decide +kernel
theorem dX10_laysSpan_356 : decode cX10_laysSpan 356 = .ok (.iload 7, 2) := by decide +kernel
theorem dX10_laysSpan_358 : decode cX10_laysSpan 358 = .ok (.iaload, 1) := by decide +kernel
theorem dX10_laysSpan_359 : decode cX10_laysSpan 359 = .ok (.iand, 1) := by decide +kernel
theorem dX10_laysSpan_360 : decode cX10_laysSpan 360 = .ok (.aload_n 0, 1) := by decide +kernel
theorem dX10_laysSpan_361 : decode cX10_laysSpan 361 = .ok (.getfield 76, 3) := by decide +kernel
theorem dX10_laysSpan_364 : decode cX10_laysSpan 364 = .ok (.iload 7, 2) := by decide +kernel
theorem dX10_laysSpan_366 : decode cX10_laysSpan 366 = .ok (.iaload, 1) := by decide +kernel
theorem dX10_laysSpan_367 : decode cX10_laysSpan 367 = .ok (.iconst (-1), 1) := by decide +kernel
theorem dX10_laysSpan_368 : decode cX10_laysSpan 368 = .ok (.ixor, 1) := by decide +kernel
theorem dX10_laysSpan_369 : decode cX10_laysSpan 369 = .ok (.iand, 1) := by decide +kernel
theorem dX10_laysSpan_370 : decode cX10_laysSpan 370 = .ok (.ior, 1) := by decide +kernel
theorem dX10_laysSpan_371 : decode cX10_laysSpan 371 = .ok (.putfield 261, 3) := by decide +kernel
theorem dX10_laysSpan_374 : decode cX10_laysSpan 374 = .ok (.iload 6, 2) := by decide +kernel
theorem dX10_laysSpan_376 : decode cX10_laysSpan 376 = .ok (.iconst 2, 1) := by decide +kernel
theorem dX10_laysSpan_377 : decode cX10_laysSpan 377 = .ok (.imul, 1) := by decide +kernel
theorem dX10_laysSpan_378 : decode cX10_laysSpan 378 = .ok (.istore 6, 2) := by decide +kernel
theorem dX10_laysSpan_380 : decode cX10_laysSpan 380 = .ok (.goto (-78), 3) := by decide +kernel
theorem dX10_laysSpan_383 : decode cX10_laysSpan 383 = .ok (.aload_n 0, 1) := by decide +kernel
theorem dX10_laysSpan_384 : decode cX10_laysSpan 384 = .ok (.getfield 261, 3) := by decide +kernel
theorem dX10_laysSpan_387 : decode cX10_laysSpan 387 = .ok (.invokestatic 270, 3) := by decide +kernel
theorem dX10_laysSpan_390 : decode cX10_laysSpan 390 = .ok (.iconst 4, 1) := by decide +kernel
theorem dX10_laysSpan_391 : decode cX10_laysSpan 391 = .ok (.if_icmp .gt 18, 3) := by decide +kernel
theorem dX10_laysSpan_394 : decode cX10_laysSpan 394 = .ok (.aload_n 0, 1) := by decide +kernel
theorem dX10_laysSpan_395 : decode cX10_laysSpan 395 = .ok (.getfield 267, 3) := by decide +kernel
theorem dX10_laysSpan_398 : decode cX10_laysSpan 398 = .ok (.invokestatic 270, 3) := by decide +kernel
theorem dX10_laysSpan_401 : decode cX10_laysSpan 401 = .ok (.iconst 3, 1) := by decide +kernel
theorem dX10_laysSpan_402 : decode cX10_laysSpan 402 = .ok (.if_icmp .gt 7, 3) := by decide +kernel
theorem dX10_laysSpan_405 : decode cX10_laysSpan 405 = .ok (.iconst 1, 1) := by decide +kernel
theorem dX10_laysSpan_406 : decode cX10_laysSpan 406 = .ok (.goto 4, 3) := by decide +kernel
theorem dX10_laysSpan_409 : decode cX10_laysSpan 409 = .ok (.iconst 0, 1) := by decide +kernel
theorem dX10_laysSpan_410 : decode cX10_laysSpan 410 = .ok (.istore 6, 2) := by decide +kernel
theorem dX10_laysSpan_412 : decode cX10_laysSpan 412 = .ok (.aload_n 0, 1) := by decide +kernel
theorem dX10_laysSpan_413 : decode cX10_laysSpan 413 = .ok (.iload 5, 2) := by decide +kernel
theorem dX10_laysSpan_415 : decode cX10_laysSpan 415 = .ok (.ifCond .eq 7, 3) := by decide +kernel
theorem dX10_laysSpan_418 : decode cX10_laysSpan 418 = .ok (.iconst 1, 1) := by decide +kernel
theorem dX10_laysSpan_419 : decode cX10_laysSpan 419 = .ok (.goto 33, 3) := by decide +kernel
theorem dX10_laysSpan_422 : decode cX10_laysSpan 422 = .ok (.iload 6, 2) := by decide +kernel
theorem dX10_laysSpan_424 : decode cX10_laysSpan 424 = .ok (.ifCond .ne 7, 3) := by decide +kernel
theorem dX10_laysSpan_427 : decode cX10_laysSpan 427 = .ok (.iconst 2, 1) := by decide +kernel
theorem dX10_laysSpan_428 : decode cX10_laysSpan 428 = .ok (.goto 24, 3) := by decide +kernel
theorem dX10_laysSpan_431 : decode cX10_laysSpan 431 = .ok (.aload_n 0, 1) := by decide +kernel
theorem dX10_laysSpan_432 : decode cX10_laysSpan 432 = .ok (.getfield 261, 3) := by decide +kernel
theorem dX10_laysSpan_435 : decode cX10_laysSpan 435 = .ok (.aload_n 0, 1) := by decide +kernel
theorem dX10_laysSpan_436 : decode cX10_laysSpan 436 = .ok (.getfield 73, 3) := by decide +kernel
theorem dX10_laysSpan_439 : decode cX10_laysSpan 439 = .ok (.iload_n 1, 1) := by decide +kernel
theorem dX10_laysSpan_440 : decode cX10_laysSpan 440 = .ok (.iaload, 1) := by decide +kernel
theorem dX10_laysSpan_441 : decode cX10_laysSpan 441 = .ok (.iconst (-1), 1) := by decide +kernel
theorem dX10_laysSpan_442 : decode cX10_laysSpan 442 = .ok (.ixor, 1) := by decide +kernel
theorem dX10_laysSpan_443 : decode cX10_laysSpan 443 = .ok (.iand, 1) := by decide +kernel
theorem dX10_laysSpan_444 : decode cX10_laysSpan 444 = .ok (.ifCond .eq 7, 3) := by decide +kernel
theorem dX10_laysSpan_447 : decode cX10_laysSpan 447 = .ok (.iconst 3, 1) := by decide +kernel
theorem dX10_laysSpan_448 : decode cX10_laysSpan 448 = .ok (.goto 4, 3) := by decide +kernel
theorem dX10_laysSpan_451 : decode cX10_laysSpan 451 = .ok (.iconst 0, 1) := by decide +kernel
theorem dX10_laysSpan_452 : decode cX10_laysSpan 452 = .ok (.putfield 273, 3) := by decide +kernel
theorem dX10_laysSpan_455 : decode cX10_laysSpan 455 = .ok (.return_, 1) := by decide +kernel
set_option maxHeartbeats 4000000 in
set_option maxRecDepth 10000 in
theorem vX10_laysSpan_0 {l : Launch} {M : sl_M} {Q : sl_R} {x1 x2 : Int} (H : sl_RM M → sl_rg x1 → sl_rg x2 → (∀ M1, M1 = sl_wr M 1 0 31 x1 → (0 ≤ x2 ∧ x2 < 82) ∧ (∀ M3, M3 = sl_wr M1 1 0 32 (M1 1 20 x2) → sl_RV l mX10_walksSpan [vR 1 0, vI 0] M3 (fun M4 => (0 ≤ x1 ∧ x1 < 82) ∧ sl_RI l mX10_behind [vR 1 0, vI 0, vI x2] M4 (fun y7 M6 => (0 ≤ y7 ∧ y7 < 82) ∧ (∀ M9, M9 = sl_wr M6 1 40 0 (M6 1 30 y7) → ((M4 1 23 x1 ≠ (-1)) → sl_RI l mX10_behind [vR 1 0, vI 0, vI (M4 1 23 x1)] M9 (fun y12 M11 => (0 ≤ y12 ∧ y12 < 82) ∧ sl_At l mX10_laysSpan 69 [(0, vR 1 0), (1, vI x1), (3, vI (M4 1 23 x1))] [vI (M11 1 30 y12), vI 1, vR 1 40] M11 Q)) ∧ ((¬ (M4 1 23 x1 ≠ (-1))) → sl_At l mX10_laysSpan 69 [(0, vR 1 0), (1, vI x1), (3, vI (M4 1 23 x1))] [vI 0, vI 1, vR 1 40] M9 Q))))))) : sl_At l mX10_laysSpan 0 [(0, vR 1 0), (1, vI x1), (2, vI x2)] [] M Q := by
  refine sl_At.in (fun hM hls => ?_)
  have g1 : sl_rg x1 := hls _ (List.mem_of_getElem? (i := 1) rfl)
  have g2 : sl_rg x2 := hls _ (List.mem_of_getElem? (i := 2) rfl)
  have H := H hM g1 g2
  refine r_aload_n (k := 0) rfl rfl dX10_laysSpan_0 ?_
  refine r_iload_n (k := 1) rfl rfl dX10_laysSpan_1 ?_
  refine r_pI (k := 31) (kz := 31) rfl ckX10 rfl rfl (by decide) rfl rfl rfl rfl fl_X10_246 g1 dX10_laysSpan_2 ?_
  refine r_mm (fun M1 e1 => ?_)
  have H := H M1 e1
  have hM1 : sl_RM M1 := by rw [e1]; exact sl_wr_RM hM g1
  refine r_aload_n (k := 0) rfl rfl dX10_laysSpan_5 ?_
  refine r_aload_n (k := 0) rfl rfl dX10_laysSpan_6 ?_
  refine r_getR (k := 19) (o' := 1) (i' := 20) ckX10 rfl rfl (by decide) rfl rfl rfl fl_X10_40 dX10_laysSpan_7 ?_
  refine r_iload_n (k := 2) rfl rfl dX10_laysSpan_10 ?_
  obtain ⟨c2, H⟩ := H
  refine r_iald rfl rfl rfl c2 dX10_laysSpan_11 ?_
  refine r_pI (k := 32) (kz := 32) rfl ckX10 rfl rfl (by decide) rfl rfl rfl rfl fl_X10_249 (hM1 _ _ _) dX10_laysSpan_12 ?_
  refine r_mm (fun M3 e3 => ?_)
  have H := H M3 e3
  have hM3 : sl_RM M3 := by rw [e3]; exact sl_wr_RM hM1 (hM1 _ _ _)
  refine r_aload_n (k := 0) rfl rfl dX10_laysSpan_15 ?_
  refine r_iconst dX10_laysSpan_16 ?_
  refine r_callV (g := mX10_walksSpan) ckX10 rfl rfl rfl rfl mkX10_walksSpan mvX10_walksSpan ml_X10_258 ⟨by decide, by decide⟩ rfl (Nat.le_of_ble_eq_true rfl) rfl (ok_i ⟨by decide, by decide⟩ ok_n) dX10_laysSpan_17 (sl_afterV (sl_RV.mono (fun M4 hM4 H => ?_) H))
  refine r_aload_n (k := 0) rfl rfl dX10_laysSpan_20 ?_
  refine r_getR (k := 22) (o' := 1) (i' := 23) ckX10 rfl rfl (by decide) rfl rfl rfl fl_X10_49 dX10_laysSpan_21 ?_
  refine r_iload_n (k := 1) rfl rfl dX10_laysSpan_24 ?_
  obtain ⟨c5, H⟩ := H
  refine r_iald rfl rfl rfl c5 dX10_laysSpan_25 ?_
  refine r_istore_n (ls' := [(3, vI (M4 1 23 x1)), (0, vR 1 0), (1, vI x1), (2, vI x2)]) (hM4 _ _ _) rfl (by decide) rfl dX10_laysSpan_26 ?_
  refine r_aload_n (k := 1) rfl rfl dX10_laysSpan_27 ?_
  refine r_getR (k := 39) (o' := 1) (i' := 40) ckX10 rfl rfl (by decide) rfl rfl rfl fl_X10_79 dX10_laysSpan_28 ?_
  refine r_iconst dX10_laysSpan_31 ?_
  refine r_aload_n (k := 1) rfl rfl dX10_laysSpan_32 ?_
  refine r_getR (k := 29) (o' := 1) (i' := 30) ckX10 rfl rfl (by decide) rfl rfl rfl fl_X10_70 dX10_laysSpan_33 ?_
  refine r_aload_n (k := 1) rfl rfl dX10_laysSpan_36 ?_
  refine r_iconst dX10_laysSpan_37 ?_
  refine r_iload_n (k := 3) rfl rfl dX10_laysSpan_38 ?_
  refine r_callV (g := mX10_behind) ckX10 rfl rfl rfl rfl mkX10_behind mvX10_behind ml_X10_207 ⟨by decide, by decide⟩ rfl (Nat.le_of_ble_eq_true rfl) rfl (ok_i ⟨by decide, by decide⟩ (ok_i g2 ok_n)) dX10_laysSpan_39 (sl_afterI (sl_RI.mono (fun y7 M6 gy7 hM6 H => ?_) H))
  obtain ⟨c8, H⟩ := H
  refine r_iald rfl rfl rfl c8 dX10_laysSpan_42 ?_
  refine r_iast rfl rfl rfl ⟨by decide, by decide⟩ (hM6 _ _ _) dX10_laysSpan_43 ?_
  refine r_mm (fun M9 e9 => ?_)
  have H := H M9 e9
  have hM9 : sl_RM M9 := by rw [e9]; exact sl_wr_RM hM6 (hM6 _ _ _)
  refine r_aload_n (k := 1) rfl rfl dX10_laysSpan_44 ?_
  refine r_getR (k := 39) (o' := 1) (i' := 40) ckX10 rfl rfl (by decide) rfl rfl rfl fl_X10_79 dX10_laysSpan_45 ?_
  refine r_iconst dX10_laysSpan_48 ?_
  refine r_iload_n (k := 0) rfl rfl dX10_laysSpan_49 ?_
  refine r_iconst dX10_laysSpan_50 ?_
  refine r_icmp_ne (tgt := 58) (hM4 _ _ _) ⟨by decide, by decide⟩ dX10_laysSpan_51 (by decide) (fun h10 => ?_) (fun h10 => ?_)
  · have H := H.1 h10
    refine r_aload_n (k := 1) rfl rfl dX10_laysSpan_58 ?_
    refine r_getR (k := 29) (o' := 1) (i' := 30) ckX10 rfl rfl (by decide) rfl rfl rfl fl_X10_70 dX10_laysSpan_59 ?_
    refine r_aload_n (k := 1) rfl rfl dX10_laysSpan_62 ?_
    refine r_iconst dX10_laysSpan_63 ?_
    refine r_iload_n (k := 0) rfl rfl dX10_laysSpan_64 ?_
    refine r_callV (g := mX10_behind) ckX10 rfl rfl rfl rfl mkX10_behind mvX10_behind ml_X10_207 ⟨by decide, by decide⟩ rfl (Nat.le_of_ble_eq_true rfl) rfl (ok_i ⟨by decide, by decide⟩ (ok_i (hM4 _ _ _) ok_n)) dX10_laysSpan_65 (sl_afterI (sl_RI.mono (fun y12 M11 gy12 hM11 H => ?_) H))
    obtain ⟨c13, H⟩ := H
    refine r_iald rfl rfl rfl c13 dX10_laysSpan_68 ?_
    exact sl_At.sub [1, 2, 0] rfl H
  · have H := H.2 h10
    refine r_iconst dX10_laysSpan_54 ?_
    refine r_goto (tgt := 69) dX10_laysSpan_55 (by decide) ?_
    exact sl_At.sub [1, 2, 0] rfl H
set_option maxHeartbeats 4000000 in
set_option maxRecDepth 10000 in
theorem vX10_laysSpan_69 {l : Launch} {M : sl_M} {Q : sl_R} {x1 x3 s1 s2 : Int} (gs1 : sl_rg s1) (gs2 : sl_rg s2) (H : sl_RM M → sl_rg x1 → sl_rg x3 → (0 ≤ s1 ∧ s1 < 4) ∧ (∀ M2, M2 = sl_wr M 1 40 s1 s2 → (((x3 ≠ (-1)) → (0 ≤ x3 ∧ x3 < 82))) ∧ (∀ M5, M5 = sl_wr M2 1 40 2 (if x3 ≠ (-1) then M2 1 30 x3 else 0) → (∀ M6, M6 = sl_wr M5 1 40 3 0 → (∀ M7, M7 = sl_wr M6 1 0 34 0 → (∀ M8, M8 = sl_wr M7 1 0 36 0 → sl_At l mX10_laysSpan 120 [(0, vR 1 0), (1, vI x1), (4, vI 0), (5, vI 0), (6, vI (M8 1 0 31))] [] M8 Q)))))) : sl_At l mX10_laysSpan 69 [(0, vR 1 0), (1, vI x1), (3, vI x3)] [vI s2, vI s1, vR 1 40] M Q := by
  refine sl_At.in (fun hM hls => ?_)
  have g1 : sl_rg x1 := hls _ (List.mem_of_getElem? (i := 1) rfl)
  have g3 : sl_rg x3 := hls _ (List.mem_of_getElem? (i := 2) rfl)
  have H := H hM g1 g3
  obtain ⟨c1, H⟩ := H
  refine r_iast rfl rfl rfl c1 gs2 dX10_laysSpan_69 ?_
  refine r_mm (fun M2 e2 => ?_)
  have H := H M2 e2
  have hM2 : sl_RM M2 := by rw [e2]; exact sl_wr_RM hM gs2
  refine r_aload_n (k := 0) rfl rfl dX10_laysSpan_70 ?_
  refine r_getR (k := 39) (o' := 1) (i' := 40) ckX10 rfl rfl (by decide) rfl rfl rfl fl_X10_79 dX10_laysSpan_71 ?_
  refine r_iconst dX10_laysSpan_74 ?_
  refine r_iload_n (k := 2) rfl rfl dX10_laysSpan_75 ?_
  refine r_iconst dX10_laysSpan_76 ?_
  obtain ⟨K, H⟩ := H
  have J : sl_At l mX10_laysSpan 90 [(0, vR 1 0), (1, vI x1), (3, vI x3)] [vI (if x3 ≠ (-1) then M2 1 30 x3 else 0), vI 2, vR 1 40] M2 Q := by
    refine r_iast rfl rfl rfl ⟨by decide, by decide⟩ (sl_rgite (hM2 _ _ _) ⟨by decide, by decide⟩) dX10_laysSpan_90 ?_
    refine r_mm (fun M5 e5 => ?_)
    have H := H M5 e5
    have hM5 : sl_RM M5 := by rw [e5]; exact sl_wr_RM hM2 (sl_rgite (hM2 _ _ _) ⟨by decide, by decide⟩)
    refine r_aload_n (k := 0) rfl rfl dX10_laysSpan_91 ?_
    refine r_getR (k := 39) (o' := 1) (i' := 40) ckX10 rfl rfl (by decide) rfl rfl rfl fl_X10_79 dX10_laysSpan_92 ?_
    refine r_iconst dX10_laysSpan_95 ?_
    refine r_iconst dX10_laysSpan_96 ?_
    refine r_iast rfl rfl rfl ⟨by decide, by decide⟩ ⟨by decide, by decide⟩ dX10_laysSpan_97 ?_
    refine r_mm (fun M6 e6 => ?_)
    have H := H M6 e6
    have hM6 : sl_RM M6 := by rw [e6]; exact sl_wr_RM hM5 ⟨by decide, by decide⟩
    refine r_aload_n (k := 0) rfl rfl dX10_laysSpan_98 ?_
    refine r_iconst dX10_laysSpan_99 ?_
    refine r_pI (k := 34) (kz := 34) rfl ckX10 rfl rfl (by decide) rfl rfl rfl rfl fl_X10_261 ⟨by decide, by decide⟩ dX10_laysSpan_100 ?_
    refine r_mm (fun M7 e7 => ?_)
    have H := H M7 e7
    have hM7 : sl_RM M7 := by rw [e7]; exact sl_wr_RM hM6 ⟨by decide, by decide⟩
    refine r_aload_n (k := 0) rfl rfl dX10_laysSpan_103 ?_
    refine r_iconst dX10_laysSpan_104 ?_
    refine r_pI (k := 36) (kz := 36) rfl ckX10 rfl rfl (by decide) rfl rfl rfl rfl fl_X10_264 ⟨by decide, by decide⟩ dX10_laysSpan_105 ?_
    refine r_mm (fun M8 e8 => ?_)
    have H := H M8 e8
    have hM8 : sl_RM M8 := by rw [e8]; exact sl_wr_RM hM7 ⟨by decide, by decide⟩
    refine r_iconst dX10_laysSpan_108 ?_
    refine r_istore (ls' := [(4, vI 0), (0, vR 1 0), (1, vI x1), (3, vI x3)]) ⟨by decide, by decide⟩ (by decide) rfl dX10_laysSpan_109 ?_
    refine r_iconst dX10_laysSpan_111 ?_
    refine r_istore (ls' := [(5, vI 0), (4, vI 0), (0, vR 1 0), (1, vI x1), (3, vI x3)]) ⟨by decide, by decide⟩ (by decide) rfl dX10_laysSpan_112 ?_
    refine r_aload_n (k := 2) rfl rfl dX10_laysSpan_114 ?_
    refine r_gI (k := 31) (kz := 31) rfl ckX10 rfl rfl (by decide) rfl rfl fl_X10_246 dX10_laysSpan_115 ?_
    refine r_istore (ls' := [(6, vI (M8 1 0 31)), (5, vI 0), (4, vI 0), (0, vR 1 0), (1, vI x1), (3, vI x3)]) (hM8 _ _ _) (by decide) rfl dX10_laysSpan_118 ?_
    exact sl_At.sub [3, 4, 2, 1, 0] rfl H
  refine r_icmp_ne (tgt := 84) g3 ⟨by decide, by decide⟩ dX10_laysSpan_77 (by decide) (fun h4 => ?_) (fun h4 => ?_)
  · replace K := K h4
    have c3 := K
    refine r_aload_n (k := 0) rfl rfl dX10_laysSpan_84 ?_
    refine r_getR (k := 29) (o' := 1) (i' := 30) ckX10 rfl rfl (by decide) rfl rfl rfl fl_X10_70 dX10_laysSpan_85 ?_
    refine r_iload_n (k := 2) rfl rfl dX10_laysSpan_88 ?_
    refine r_iald rfl rfl rfl c3 dX10_laysSpan_89 ?_
    rw [if_pos h4] at J
    exact J
  · refine r_iconst dX10_laysSpan_80 ?_
    refine r_goto (tgt := 90) dX10_laysSpan_81 (by decide) ?_
    rw [if_neg h4] at J
    exact J
set_option maxHeartbeats 4000000 in
set_option maxRecDepth 10000 in
theorem vX10_laysSpan_120 {l : Launch} {M : sl_M} {Q : sl_R} {x1 x4 x5 x6 : Int} (H : sl_RM M → sl_rg x1 → sl_rg x4 → sl_rg x5 → sl_rg x6 → ((M 1 0 32 ≤ x6) → (∀ M2, M2 = sl_wr M 1 0 35 0 → sl_At l mX10_laysSpan 302 [(0, vR 1 0), (1, vI x1), (4, vI x4), (5, vI x5), (6, vI 1)] [] M2 Q)) ∧ ((¬ (M 1 0 32 ≤ x6)) → (((¬ (x5 ≠ 0)) → (0 ≤ x6 ∧ x6 < 82))) ∧ (∀ y6 : Int, y6 = (if (x5 ≠ 0) ∨ (¬ (M 1 17 x6 ≠ 7)) then 1 else 0) → (0 ≤ x6 ∧ x6 < 82) ∧ ((M 1 17 x6 ≠ 0) → ((M 1 17 x6 ≠ 7) → sl_At l mX10_laysSpan 220 [(0, vR 1 0), (1, vI x1), (4, vI x4), (5, vI y6), (6, vI x6)] [vI 0] M Q) ∧ ((¬ (M 1 17 x6 ≠ 7)) → (0 ≤ 950 + (M 1 22 x6) ∧ 950 + (M 1 22 x6) < 990) ∧ sl_RI l mX10_listSet [vR 1 0, vI (M 1 1 (950 + (M 1 22 x6)))] M (fun y12 M11 => sl_At l mX10_laysSpan 220 [(0, vR 1 0), (1, vI x1), (4, vI x4), (5, vI y6), (6, vI x6)] [vI y12] M11 Q))) ∧ ((¬ (M 1 17 x6 ≠ 0)) → (0 ≤ 201 + (M 1 21 x6) ∧ 201 + (M 1 21 x6) < 990) ∧ sl_At l mX10_laysSpan 220 [(0, vR 1 0), (1, vI x1), (4, vI x4), (5, vI y6), (6, vI x6)] [vI (ishl 1 (M 1 1 (201 + (M 1 21 x6))))] M Q)))) : sl_At l mX10_laysSpan 120 [(0, vR 1 0), (1, vI x1), (4, vI x4), (5, vI x5), (6, vI x6)] [] M Q := by
  refine sl_At.in (fun hM hls => ?_)
  have g1 : sl_rg x1 := hls _ (List.mem_of_getElem? (i := 1) rfl)
  have g4 : sl_rg x4 := hls _ (List.mem_of_getElem? (i := 2) rfl)
  have g5 : sl_rg x5 := hls _ (List.mem_of_getElem? (i := 3) rfl)
  have g6 : sl_rg x6 := hls _ (List.mem_of_getElem? (i := 4) rfl)
  have H := H hM g1 g4 g5 g6
  refine r_iload (k := 4) rfl dX10_laysSpan_120 ?_
  refine r_aload_n (k := 0) rfl rfl dX10_laysSpan_122 ?_
  refine r_gI (k := 32) (kz := 32) rfl ckX10 rfl rfl (by decide) rfl rfl fl_X10_249 dX10_laysSpan_123 ?_
  refine r_icmp_ge (tgt := 294) g6 (hM _ _ _) dX10_laysSpan_126 (by decide) (fun h1 => ?_) (fun h1 => ?_)
  · have H := H.1 h1
    refine r_aload_n (k := 0) rfl rfl dX10_laysSpan_294 ?_
    refine r_iconst dX10_laysSpan_295 ?_
    refine r_pI (k := 35) (kz := 35) rfl ckX10 rfl rfl (by decide) rfl rfl rfl rfl fl_X10_267 ⟨by decide, by decide⟩ dX10_laysSpan_296 ?_
    refine r_mm (fun M2 e2 => ?_)
    have H := H M2 e2
    have hM2 : sl_RM M2 := by rw [e2]; exact sl_wr_RM hM ⟨by decide, by decide⟩
    refine r_iconst dX10_laysSpan_299 ?_
    refine r_istore (ls' := [(6, vI 1), (0, vR 1 0), (1, vI x1), (4, vI x4), (5, vI x5)]) ⟨by decide, by decide⟩ (by decide) rfl dX10_laysSpan_300 ?_
    exact sl_At.sub [1, 2, 3, 4, 0] rfl H
  · have H := H.2 h1
    refine r_iload (k := 3) rfl dX10_laysSpan_129 ?_
    obtain ⟨K, H⟩ := H
    have J : sl_At l mX10_laysSpan 151 [(0, vR 1 0), (1, vI x1), (4, vI x4), (5, vI x5), (6, vI x6)] [vI (if (x5 ≠ 0) ∨ (¬ (M 1 17 x6 ≠ 7)) then 1 else 0)] M Q := by
      refine r_nm (fun y6 fy6 => ?_)
      have H := H y6 fy6
      have gy6 : sl_rg y6 := by rw [fy6]; exact rg_b
      refine r_istore (ls' := [(5, vI y6), (0, vR 1 0), (1, vI x1), (4, vI x4), (6, vI x6)]) gy6 (by decide) rfl dX10_laysSpan_151 ?_
      refine r_aload_n (k := 1) rfl rfl dX10_laysSpan_153 ?_
      refine r_getR (k := 16) (o' := 1) (i' := 17) ckX10 rfl rfl (by decide) rfl rfl rfl fl_X10_31 dX10_laysSpan_154 ?_
      refine r_iload (k := 4) rfl dX10_laysSpan_157 ?_
      obtain ⟨c7, H⟩ := H
      refine r_iald rfl rfl rfl c7 dX10_laysSpan_159 ?_
      refine r_if_ne (tgt := 184) (hM _ _ _) dX10_laysSpan_160 (by decide) (fun h8 => ?_) (fun h8 => ?_)
      · have H := H.1 h8
        refine r_aload_n (k := 1) rfl rfl dX10_laysSpan_184 ?_
        refine r_getR (k := 16) (o' := 1) (i' := 17) ckX10 rfl rfl (by decide) rfl rfl rfl fl_X10_31 dX10_laysSpan_185 ?_
        refine r_iload (k := 4) rfl dX10_laysSpan_188 ?_
        refine r_iald rfl rfl rfl c7 dX10_laysSpan_190 ?_
        refine r_bipush dX10_laysSpan_191 (by decide) ?_
        refine r_icmp_ne (tgt := 219) (hM _ _ _) ⟨by decide, by decide⟩ dX10_laysSpan_193 (by decide) (fun h9 => ?_) (fun h9 => ?_)
        · have H := H.1 h9
          refine r_iconst dX10_laysSpan_219 ?_
          exact sl_At.sub [1, 2, 3, 0, 4] rfl H
        · have H := H.2 h9
          refine r_aload_n (k := 1) rfl rfl dX10_laysSpan_196 ?_
          refine r_aload_n (k := 1) rfl rfl dX10_laysSpan_197 ?_
          refine r_getR (k := 0) (o' := 1) (i' := 1) ckX10 rfl rfl (by decide) rfl rfl rfl fl_X10_7 dX10_laysSpan_198 ?_
          refine r_sipush dX10_laysSpan_201 (by decide) ?_
          refine r_aload_n (k := 1) rfl rfl dX10_laysSpan_204 ?_
          refine r_getR (k := 21) (o' := 1) (i' := 22) ckX10 rfl rfl (by decide) rfl rfl rfl fl_X10_46 dX10_laysSpan_205 ?_
          refine r_iload (k := 4) rfl dX10_laysSpan_208 ?_
          refine r_iald rfl rfl rfl c7 dX10_laysSpan_210 ?_
          refine r_iadd dX10_laysSpan_211 ?_
          obtain ⟨c10, H⟩ := H
          refine r_iald rfl rfl rfl c10 dX10_laysSpan_212 ?_
          refine r_callV (g := mX10_listSet) ckX10 rfl rfl rfl rfl mkX10_listSet mvX10_listSet ml_X10_195 ⟨by decide, by decide⟩ rfl (Nat.le_of_ble_eq_true rfl) rfl (ok_i (hM _ _ _) ok_n) dX10_laysSpan_213 (sl_afterI (sl_RI.mono (fun y12 M11 gy12 hM11 H => ?_) H))
          refine r_goto (tgt := 220) dX10_laysSpan_216 (by decide) ?_
          exact sl_At.sub [1, 2, 3, 0, 4] rfl H
      · have H := H.2 h8
        refine r_iconst dX10_laysSpan_163 ?_
        refine r_aload_n (k := 1) rfl rfl dX10_laysSpan_164 ?_
        refine r_getR (k := 0) (o' := 1) (i' := 1) ckX10 rfl rfl (by decide) rfl rfl rfl fl_X10_7 dX10_laysSpan_165 ?_
        refine r_sipush dX10_laysSpan_168 (by decide) ?_
        refine r_aload_n (k := 1) rfl rfl dX10_laysSpan_171 ?_
        refine r_getR (k := 20) (o' := 1) (i' := 21) ckX10 rfl rfl (by decide) rfl rfl rfl fl_X10_43 dX10_laysSpan_172 ?_
        refine r_iload (k := 4) rfl dX10_laysSpan_175 ?_
        refine r_iald rfl rfl rfl c7 dX10_laysSpan_177 ?_
        refine r_iadd dX10_laysSpan_178 ?_
        obtain ⟨c13, H⟩ := H
        refine r_iald rfl rfl rfl c13 dX10_laysSpan_179 ?_
        refine r_ishl dX10_laysSpan_180 ?_
        refine r_goto (tgt := 220) dX10_laysSpan_181 (by decide) ?_
        exact sl_At.sub [1, 2, 3, 0, 4] rfl H
    refine r_if_ne (tgt := 146) g5 dX10_laysSpan_131 (by decide) (fun h4 => ?_) (fun h4 => ?_)
    · refine r_iconst dX10_laysSpan_146 ?_
      refine r_goto (tgt := 151) dX10_laysSpan_147 (by decide) ?_
      rw [if_pos (show (x5 ≠ 0) ∨ (¬ (M 1 17 x6 ≠ 7)) by omega)] at J
      exact J
    · replace K := K h4
      have c3 := K
      refine r_aload_n (k := 0) rfl rfl dX10_laysSpan_134 ?_
      refine r_getR (k := 16) (o' := 1) (i' := 17) ckX10 rfl rfl (by decide) rfl rfl rfl fl_X10_31 dX10_laysSpan_135 ?_
      refine r_iload (k := 4) rfl dX10_laysSpan_138 ?_
      refine r_iald rfl rfl rfl c3 dX10_laysSpan_140 ?_
      refine r_bipush dX10_laysSpan_141 (by decide) ?_
      refine r_icmp_ne (tgt := 150) (hM _ _ _) ⟨by decide, by decide⟩ dX10_laysSpan_143 (by decide) (fun h5 => ?_) (fun h5 => ?_)
      · refine r_iconst dX10_laysSpan_150 ?_
        rw [if_neg (show ¬ ((x5 ≠ 0) ∨ (¬ (M 1 17 x6 ≠ 7))) by omega)] at J
        exact J
      · refine r_iconst dX10_laysSpan_146 ?_
        refine r_goto (tgt := 151) dX10_laysSpan_147 (by decide) ?_
        rw [if_pos (show (x5 ≠ 0) ∨ (¬ (M 1 17 x6 ≠ 7)) by omega)] at J
        exact J
set_option maxHeartbeats 4000000 in
set_option maxRecDepth 10000 in
theorem vX10_laysSpan_146 {l : Launch} {M : sl_M} {Q : sl_R} {x1 x4 x6 : Int} (H : sl_RM M → sl_rg x1 → sl_rg x4 → sl_rg x6 → (0 ≤ x6 ∧ x6 < 82) ∧ ((M 1 17 x6 ≠ 0) → ((M 1 17 x6 ≠ 7) → sl_At l mX10_laysSpan 220 [(0, vR 1 0), (1, vI x1), (4, vI x4), (5, vI 1), (6, vI x6)] [vI 0] M Q) ∧ ((¬ (M 1 17 x6 ≠ 7)) → (0 ≤ 950 + (M 1 22 x6) ∧ 950 + (M 1 22 x6) < 990) ∧ sl_RI l mX10_listSet [vR 1 0, vI (M 1 1 (950 + (M 1 22 x6)))] M (fun y6 M5 => sl_At l mX10_laysSpan 220 [(0, vR 1 0), (1, vI x1), (4, vI x4), (5, vI 1), (6, vI x6)] [vI y6] M5 Q))) ∧ ((¬ (M 1 17 x6 ≠ 0)) → (0 ≤ 201 + (M 1 21 x6) ∧ 201 + (M 1 21 x6) < 990) ∧ sl_At l mX10_laysSpan 220 [(0, vR 1 0), (1, vI x1), (4, vI x4), (5, vI 1), (6, vI x6)] [vI (ishl 1 (M 1 1 (201 + (M 1 21 x6))))] M Q)) : sl_At l mX10_laysSpan 146 [(0, vR 1 0), (1, vI x1), (4, vI x4), (6, vI x6)] [] M Q := by
  refine sl_At.in (fun hM hls => ?_)
  have g1 : sl_rg x1 := hls _ (List.mem_of_getElem? (i := 1) rfl)
  have g4 : sl_rg x4 := hls _ (List.mem_of_getElem? (i := 2) rfl)
  have g6 : sl_rg x6 := hls _ (List.mem_of_getElem? (i := 3) rfl)
  have H := H hM g1 g4 g6
  refine r_iconst dX10_laysSpan_146 ?_
  refine r_goto (tgt := 151) dX10_laysSpan_147 (by decide) ?_
  refine r_istore (ls' := [(5, vI 1), (0, vR 1 0), (1, vI x1), (4, vI x4), (6, vI x6)]) ⟨by decide, by decide⟩ (by decide) rfl dX10_laysSpan_151 ?_
  refine r_aload_n (k := 1) rfl rfl dX10_laysSpan_153 ?_
  refine r_getR (k := 16) (o' := 1) (i' := 17) ckX10 rfl rfl (by decide) rfl rfl rfl fl_X10_31 dX10_laysSpan_154 ?_
  refine r_iload (k := 4) rfl dX10_laysSpan_157 ?_
  obtain ⟨c1, H⟩ := H
  refine r_iald rfl rfl rfl c1 dX10_laysSpan_159 ?_
  refine r_if_ne (tgt := 184) (hM _ _ _) dX10_laysSpan_160 (by decide) (fun h2 => ?_) (fun h2 => ?_)
  · have H := H.1 h2
    refine r_aload_n (k := 1) rfl rfl dX10_laysSpan_184 ?_
    refine r_getR (k := 16) (o' := 1) (i' := 17) ckX10 rfl rfl (by decide) rfl rfl rfl fl_X10_31 dX10_laysSpan_185 ?_
    refine r_iload (k := 4) rfl dX10_laysSpan_188 ?_
    refine r_iald rfl rfl rfl c1 dX10_laysSpan_190 ?_
    refine r_bipush dX10_laysSpan_191 (by decide) ?_
    refine r_icmp_ne (tgt := 219) (hM _ _ _) ⟨by decide, by decide⟩ dX10_laysSpan_193 (by decide) (fun h3 => ?_) (fun h3 => ?_)
    · have H := H.1 h3
      refine r_iconst dX10_laysSpan_219 ?_
      exact sl_At.sub [1, 2, 3, 0, 4] rfl H
    · have H := H.2 h3
      refine r_aload_n (k := 1) rfl rfl dX10_laysSpan_196 ?_
      refine r_aload_n (k := 1) rfl rfl dX10_laysSpan_197 ?_
      refine r_getR (k := 0) (o' := 1) (i' := 1) ckX10 rfl rfl (by decide) rfl rfl rfl fl_X10_7 dX10_laysSpan_198 ?_
      refine r_sipush dX10_laysSpan_201 (by decide) ?_
      refine r_aload_n (k := 1) rfl rfl dX10_laysSpan_204 ?_
      refine r_getR (k := 21) (o' := 1) (i' := 22) ckX10 rfl rfl (by decide) rfl rfl rfl fl_X10_46 dX10_laysSpan_205 ?_
      refine r_iload (k := 4) rfl dX10_laysSpan_208 ?_
      refine r_iald rfl rfl rfl c1 dX10_laysSpan_210 ?_
      refine r_iadd dX10_laysSpan_211 ?_
      obtain ⟨c4, H⟩ := H
      refine r_iald rfl rfl rfl c4 dX10_laysSpan_212 ?_
      refine r_callV (g := mX10_listSet) ckX10 rfl rfl rfl rfl mkX10_listSet mvX10_listSet ml_X10_195 ⟨by decide, by decide⟩ rfl (Nat.le_of_ble_eq_true rfl) rfl (ok_i (hM _ _ _) ok_n) dX10_laysSpan_213 (sl_afterI (sl_RI.mono (fun y6 M5 gy6 hM5 H => ?_) H))
      refine r_goto (tgt := 220) dX10_laysSpan_216 (by decide) ?_
      exact sl_At.sub [1, 2, 3, 0, 4] rfl H
  · have H := H.2 h2
    refine r_iconst dX10_laysSpan_163 ?_
    refine r_aload_n (k := 1) rfl rfl dX10_laysSpan_164 ?_
    refine r_getR (k := 0) (o' := 1) (i' := 1) ckX10 rfl rfl (by decide) rfl rfl rfl fl_X10_7 dX10_laysSpan_165 ?_
    refine r_sipush dX10_laysSpan_168 (by decide) ?_
    refine r_aload_n (k := 1) rfl rfl dX10_laysSpan_171 ?_
    refine r_getR (k := 20) (o' := 1) (i' := 21) ckX10 rfl rfl (by decide) rfl rfl rfl fl_X10_43 dX10_laysSpan_172 ?_
    refine r_iload (k := 4) rfl dX10_laysSpan_175 ?_
    refine r_iald rfl rfl rfl c1 dX10_laysSpan_177 ?_
    refine r_iadd dX10_laysSpan_178 ?_
    obtain ⟨c7, H⟩ := H
    refine r_iald rfl rfl rfl c7 dX10_laysSpan_179 ?_
    refine r_ishl dX10_laysSpan_180 ?_
    refine r_goto (tgt := 220) dX10_laysSpan_181 (by decide) ?_
    exact sl_At.sub [1, 2, 3, 0, 4] rfl H
set_option maxHeartbeats 4000000 in
set_option maxRecDepth 10000 in
theorem vX10_laysSpan_220 {l : Launch} {M : sl_M} {Q : sl_R} {x1 x4 x5 x6 s0 : Int} (gs0 : sl_rg s0) (H : sl_RM M → sl_rg x1 → sl_rg x4 → sl_rg x5 → sl_rg x6 → (∀ y1 : Int, y1 = ior x4 s0 → (0 ≤ x6 ∧ x6 < 82) ∧ (∀ M3, M3 = sl_wr M 1 0 36 (ior (M 1 0 36) (ior s0 (M 1 24 x6))) → (0 ≤ x6 ∧ x6 < 41) ∧ (∀ M6, M6 = sl_wr M3 1 0 34 (ior (M3 1 0 34) (if M3 1 41 x6 = 0 then 0 else iand (M3 1 24 x6) (ixor (M3 1 42 x6) (-1)))) → (sl_rg (x6 + 1)) ∧ sl_At l mX10_laysSpan 120 [(0, vR 1 0), (1, vI x1), (4, vI y1), (5, vI x5), (6, vI (x6 + 1))] [] M6 Q)))) : sl_At l mX10_laysSpan 220 [(0, vR 1 0), (1, vI x1), (4, vI x4), (5, vI x5), (6, vI x6)] [vI s0] M Q := by
  refine sl_At.in (fun hM hls => ?_)
  have g1 : sl_rg x1 := hls _ (List.mem_of_getElem? (i := 1) rfl)
  have g4 : sl_rg x4 := hls _ (List.mem_of_getElem? (i := 2) rfl)
  have g5 : sl_rg x5 := hls _ (List.mem_of_getElem? (i := 3) rfl)
  have g6 : sl_rg x6 := hls _ (List.mem_of_getElem? (i := 4) rfl)
  have H := H hM g1 g4 g5 g6
  refine r_istore (ls' := [(7, vI s0), (0, vR 1 0), (1, vI x1), (4, vI x4), (5, vI x5), (6, vI x6)]) gs0 (by decide) rfl dX10_laysSpan_220 ?_
  refine r_iload (k := 3) rfl dX10_laysSpan_222 ?_
  refine r_iload (k := 0) rfl dX10_laysSpan_224 ?_
  refine r_ior dX10_laysSpan_226 ?_
  refine r_nm (fun y1 fy1 => ?_)
  have H := H y1 fy1
  have gy1 : sl_rg y1 := by rw [fy1]; exact (rg_ior _ _)
  refine r_istore (ls' := [(4, vI y1), (7, vI s0), (0, vR 1 0), (1, vI x1), (5, vI x5), (6, vI x6)]) gy1 (by decide) rfl dX10_laysSpan_227 ?_
  refine r_aload_n (k := 2) rfl rfl dX10_laysSpan_229 ?_
  refine r_dup rfl dX10_laysSpan_230 ?_
  refine r_gI (k := 36) (kz := 36) rfl ckX10 rfl rfl (by decide) rfl rfl fl_X10_264 dX10_laysSpan_231 ?_
  refine r_iload (k := 1) rfl dX10_laysSpan_234 ?_
  refine r_aload_n (k := 2) rfl rfl dX10_laysSpan_236 ?_
  refine r_getR (k := 23) (o' := 1) (i' := 24) ckX10 rfl rfl (by decide) rfl rfl rfl fl_X10_52 dX10_laysSpan_237 ?_
  refine r_iload (k := 5) rfl dX10_laysSpan_240 ?_
  obtain ⟨c2, H⟩ := H
  refine r_iald rfl rfl rfl c2 dX10_laysSpan_242 ?_
  refine r_ior dX10_laysSpan_243 ?_
  refine r_ior dX10_laysSpan_244 ?_
  refine r_pI (k := 36) (kz := 36) rfl ckX10 rfl rfl (by decide) rfl rfl rfl rfl fl_X10_264 (rg_ior _ _) dX10_laysSpan_245 ?_
  refine r_mm (fun M3 e3 => ?_)
  have H := H M3 e3
  have hM3 : sl_RM M3 := by rw [e3]; exact sl_wr_RM hM (rg_ior _ _)
  refine r_aload_n (k := 2) rfl rfl dX10_laysSpan_248 ?_
  refine r_dup rfl dX10_laysSpan_249 ?_
  refine r_gI (k := 34) (kz := 34) rfl ckX10 rfl rfl (by decide) rfl rfl fl_X10_261 dX10_laysSpan_250 ?_
  refine r_aload_n (k := 2) rfl rfl dX10_laysSpan_253 ?_
  refine r_getR (k := 40) (o' := 1) (i' := 41) ckX10 rfl rfl (by decide) rfl rfl rfl fl_X10_82 dX10_laysSpan_254 ?_
  refine r_iload (k := 5) rfl dX10_laysSpan_257 ?_
  obtain ⟨c4, H⟩ := H
  refine r_bald rfl rfl rfl c4 dX10_laysSpan_259 ?_
  have J : sl_At l mX10_laysSpan 284 [(4, vI y1), (7, vI s0), (0, vR 1 0), (1, vI x1), (5, vI x5), (6, vI x6)] [vI (if M3 1 41 x6 = 0 then 0 else iand (M3 1 24 x6) (ixor (M3 1 42 x6) (-1))), vI (M3 1 0 34), vR 1 0] M3 Q := by
    refine r_ior dX10_laysSpan_284 ?_
    refine r_pI (k := 34) (kz := 34) rfl ckX10 rfl rfl (by decide) rfl rfl rfl rfl fl_X10_261 (rg_ior _ _) dX10_laysSpan_285 ?_
    refine r_mm (fun M6 e6 => ?_)
    have H := H M6 e6
    have hM6 : sl_RM M6 := by rw [e6]; exact sl_wr_RM hM3 (rg_ior _ _)
    obtain ⟨c7, H⟩ := H
    refine r_iinc (k := 5) (ls' := [(6, vI (x6 + 1)), (4, vI y1), (7, vI s0), (0, vR 1 0), (1, vI x1), (5, vI x5)]) rfl c7 (by decide) rfl dX10_laysSpan_288 ?_
    refine r_goto (tgt := 120) dX10_laysSpan_291 (by decide) ?_
    exact sl_At.sub [3, 4, 1, 5, 0] rfl H
  refine r_if_eq (tgt := 283) (hM3 _ _ _) dX10_laysSpan_260 (by decide) (fun h5 => ?_) (fun h5 => ?_)
  · refine r_iconst dX10_laysSpan_283 ?_
    rw [if_pos h5] at J
    exact J
  · refine r_aload_n (k := 2) rfl rfl dX10_laysSpan_263 ?_
    refine r_getR (k := 23) (o' := 1) (i' := 24) ckX10 rfl rfl (by decide) rfl rfl rfl fl_X10_52 dX10_laysSpan_264 ?_
    refine r_iload (k := 5) rfl dX10_laysSpan_267 ?_
    refine r_iald rfl rfl rfl c2 dX10_laysSpan_269 ?_
    refine r_aload_n (k := 2) rfl rfl dX10_laysSpan_270 ?_
    refine r_getR (k := 41) (o' := 1) (i' := 42) ckX10 rfl rfl (by decide) rfl rfl rfl fl_X10_86 dX10_laysSpan_271 ?_
    refine r_iload (k := 5) rfl dX10_laysSpan_274 ?_
    refine r_iald rfl rfl rfl c4 dX10_laysSpan_276 ?_
    refine r_iconst dX10_laysSpan_277 ?_
    refine r_ixor dX10_laysSpan_278 ?_
    refine r_iand dX10_laysSpan_279 ?_
    refine r_goto (tgt := 284) dX10_laysSpan_280 (by decide) ?_
    rw [if_neg h5] at J
    exact J
set_option maxHeartbeats 4000000 in
set_option maxRecDepth 10000 in
theorem vX10_laysSpan_302 {l : Launch} {M : sl_M} {Q : sl_R} {x1 x4 x5 x6 : Int} (H : sl_RM M → sl_rg x1 → sl_rg x4 → sl_rg x5 → sl_rg x6 → ((8 < x6) → sl_RI l mX10_sizeOf [vI (M 1 0 34)] M (fun y3 M2 => ((4 < y3) → (((x5 = 0) → (((0 : Int) ≠ 0) → (0 ≤ x1 ∧ x1 < 82)))) ∧ (∀ M9, M9 = sl_wr M2 1 0 37 (if x5 = 0 then (if (0 : Int) ≠ 0 then (if iand (M2 1 0 34) (ixor (M2 1 31 x1) (-1)) = 0 then 0 else 3) else 2) else 1) → Q none M9)) ∧ ((¬ (4 < y3)) → sl_RI l mX10_sizeOf [vI (M2 1 0 35)] M2 (fun y11 M10 => (∀ y13 : Int, y13 = (if ¬ (3 < y11) then 1 else 0) → (((x5 = 0) → ((¬ (3 < y11)) → (0 ≤ x1 ∧ x1 < 82)))) ∧ (∀ M18, M18 = sl_wr M10 1 0 37 (if x5 = 0 then (if ¬ (3 < y11) then (if iand (M10 1 0 34) (ixor (M10 1 31 x1) (-1)) = 0 then 0 else 3) else 2) else 1) → Q none M18)))))) ∧ ((¬ (8 < x6)) → (∀ y19 : Int, y19 = sp_place x6 → ((iand (M 1 0 33) x6 = 0) → (sl_rg (x6 * 2)) ∧ (∀ y22 : Int, y22 = x6 * 2 → sl_At l mX10_laysSpan 302 [(0, vR 1 0), (1, vI x1), (4, vI x4), (5, vI x5), (6, vI y22)] [] M Q)) ∧ ((¬ (iand (M 1 0 33) x6 = 0)) → (0 ≤ y19 ∧ y19 < 4) ∧ (∀ M24, M24 = sl_wr M 1 0 35 (ior (M 1 0 35) (iand x4 (M 1 40 y19))) → (∀ M25, M25 = sl_wr M24 1 0 34 (ior (M24 1 0 34) (iand (iand x4 (M24 1 40 y19)) (ixor (M24 1 39 y19) (-1)))) → (sl_rg (x6 * 2)) ∧ (∀ y27 : Int, y27 = x6 * 2 → sl_At l mX10_laysSpan 302 [(0, vR 1 0), (1, vI x1), (4, vI x4), (5, vI x5), (6, vI y27)] [] M25 Q))))))) : sl_At l mX10_laysSpan 302 [(0, vR 1 0), (1, vI x1), (4, vI x4), (5, vI x5), (6, vI x6)] [] M Q := by
  refine sl_At.in (fun hM hls => ?_)
  have g1 : sl_rg x1 := hls _ (List.mem_of_getElem? (i := 1) rfl)
  have g4 : sl_rg x4 := hls _ (List.mem_of_getElem? (i := 2) rfl)
  have g5 : sl_rg x5 := hls _ (List.mem_of_getElem? (i := 3) rfl)
  have g6 : sl_rg x6 := hls _ (List.mem_of_getElem? (i := 4) rfl)
  have H := H hM g1 g4 g5 g6
  refine r_iload (k := 4) rfl dX10_laysSpan_302 ?_
  refine r_bipush dX10_laysSpan_304 (by decide) ?_
  refine r_icmp_gt (tgt := 383) g6 ⟨by decide, by decide⟩ dX10_laysSpan_306 (by decide) (fun h1 => ?_) (fun h1 => ?_)
  · have H := H.1 h1
    refine r_aload_n (k := 0) rfl rfl dX10_laysSpan_383 ?_
    refine r_gI (k := 34) (kz := 34) rfl ckX10 rfl rfl (by decide) rfl rfl fl_X10_261 dX10_laysSpan_384 ?_
    refine r_callS (g := mX10_sizeOf) rfl mkX10_sizeOf msX10_sizeOf ml_X10_270 ⟨by decide, by decide⟩ rfl (Nat.le_of_ble_eq_true rfl) rfl (ok_i (hM _ _ _) ok_n) dX10_laysSpan_387 (sl_afterI (sl_RI.mono (fun y3 M2 gy3 hM2 H => ?_) H))
    refine r_iconst dX10_laysSpan_390 ?_
    refine r_icmp_gt (tgt := 409) gy3 ⟨by decide, by decide⟩ dX10_laysSpan_391 (by decide) (fun h4 => ?_) (fun h4 => ?_)
    · have H := H.1 h4
      refine r_iconst dX10_laysSpan_409 ?_
      refine r_istore (ls' := [(6, vI 0), (0, vR 1 0), (1, vI x1), (4, vI x4), (5, vI x5)]) ⟨by decide, by decide⟩ (by decide) rfl dX10_laysSpan_410 ?_
      refine r_aload_n (k := 1) rfl rfl dX10_laysSpan_412 ?_
      refine r_iload (k := 4) rfl dX10_laysSpan_413 ?_
      obtain ⟨K, H⟩ := H
      have J : sl_At l mX10_laysSpan 452 [(6, vI 0), (0, vR 1 0), (1, vI x1), (4, vI x4), (5, vI x5)] [vI (if x5 = 0 then (if (0 : Int) ≠ 0 then (if iand (M2 1 0 34) (ixor (M2 1 31 x1) (-1)) = 0 then 0 else 3) else 2) else 1), vR 1 0] M2 Q := by
        refine r_pI (k := 37) (kz := 37) rfl ckX10 rfl rfl (by decide) rfl rfl rfl rfl fl_X10_273 (sl_rgite (sl_rgite (sl_rgite ⟨by decide, by decide⟩ ⟨by decide, by decide⟩) ⟨by decide, by decide⟩) ⟨by decide, by decide⟩) dX10_laysSpan_452 ?_
        refine r_mm (fun M9 e9 => ?_)
        have H := H M9 e9
        have hM9 : sl_RM M9 := by rw [e9]; exact sl_wr_RM hM2 (sl_rgite (sl_rgite (sl_rgite ⟨by decide, by decide⟩ ⟨by decide, by decide⟩) ⟨by decide, by decide⟩) ⟨by decide, by decide⟩)
        refine r_vret rfl dX10_laysSpan_455 ?_
        exact H
      refine r_if_eq (tgt := 422) g5 dX10_laysSpan_415 (by decide) (fun h6 => ?_) (fun h6 => ?_)
      · replace K := K h6
        refine r_iload (k := 0) rfl dX10_laysSpan_422 ?_
        refine r_if_ne (tgt := 431) ⟨by decide, by decide⟩ dX10_laysSpan_424 (by decide) (fun h7 => ?_) (fun h7 => ?_)
        · replace K := K h7
          have c5 := K
          refine r_aload_n (k := 1) rfl rfl dX10_laysSpan_431 ?_
          refine r_gI (k := 34) (kz := 34) rfl ckX10 rfl rfl (by decide) rfl rfl fl_X10_261 dX10_laysSpan_432 ?_
          refine r_aload_n (k := 1) rfl rfl dX10_laysSpan_435 ?_
          refine r_getR (k := 30) (o' := 1) (i' := 31) ckX10 rfl rfl (by decide) rfl rfl rfl fl_X10_73 dX10_laysSpan_436 ?_
          refine r_iload_n (k := 2) rfl rfl dX10_laysSpan_439 ?_
          refine r_iald rfl rfl rfl c5 dX10_laysSpan_440 ?_
          refine r_iconst dX10_laysSpan_441 ?_
          refine r_ixor dX10_laysSpan_442 ?_
          refine r_iand dX10_laysSpan_443 ?_
          refine r_if_eq (tgt := 451) (rg_iand _ _) dX10_laysSpan_444 (by decide) (fun h8 => ?_) (fun h8 => ?_)
          · refine r_iconst dX10_laysSpan_451 ?_
            rw [if_pos h6, if_pos h7, if_pos h8] at J
            exact J
          · refine r_iconst dX10_laysSpan_447 ?_
            refine r_goto (tgt := 452) dX10_laysSpan_448 (by decide) ?_
            rw [if_pos h6, if_pos h7, if_neg h8] at J
            exact J
        · refine r_iconst dX10_laysSpan_427 ?_
          refine r_goto (tgt := 452) dX10_laysSpan_428 (by decide) ?_
          rw [if_pos h6, if_neg h7] at J
          exact J
      · refine r_iconst dX10_laysSpan_418 ?_
        refine r_goto (tgt := 452) dX10_laysSpan_419 (by decide) ?_
        rw [if_neg h6] at J
        exact J
    · have H := H.2 h4
      refine r_aload_n (k := 0) rfl rfl dX10_laysSpan_394 ?_
      refine r_gI (k := 35) (kz := 35) rfl ckX10 rfl rfl (by decide) rfl rfl fl_X10_267 dX10_laysSpan_395 ?_
      refine r_callS (g := mX10_sizeOf) rfl mkX10_sizeOf msX10_sizeOf ml_X10_270 ⟨by decide, by decide⟩ rfl (Nat.le_of_ble_eq_true rfl) rfl (ok_i (hM2 _ _ _) ok_n) dX10_laysSpan_398 (sl_afterI (sl_RI.mono (fun y11 M10 gy11 hM10 H => ?_) H))
      refine r_iconst dX10_laysSpan_401 ?_
      have J : sl_At l mX10_laysSpan 410 [(0, vR 1 0), (1, vI x1), (4, vI x4), (5, vI x5), (6, vI x6)] [vI (if ¬ (3 < y11) then 1 else 0)] M10 Q := by
        refine r_nm (fun y13 fy13 => ?_)
        have H := H y13 fy13
        have gy13 : sl_rg y13 := by rw [fy13]; exact rg_b
        refine r_istore (ls' := [(6, vI y13), (0, vR 1 0), (1, vI x1), (4, vI x4), (5, vI x5)]) gy13 (by decide) rfl dX10_laysSpan_410 ?_
        refine r_aload_n (k := 1) rfl rfl dX10_laysSpan_412 ?_
        refine r_iload (k := 4) rfl dX10_laysSpan_413 ?_
        obtain ⟨K, H⟩ := H
        have J : sl_At l mX10_laysSpan 452 [(6, vI y13), (0, vR 1 0), (1, vI x1), (4, vI x4), (5, vI x5)] [vI (if x5 = 0 then (if ¬ (3 < y11) then (if iand (M10 1 0 34) (ixor (M10 1 31 x1) (-1)) = 0 then 0 else 3) else 2) else 1), vR 1 0] M10 Q := by
          refine r_pI (k := 37) (kz := 37) rfl ckX10 rfl rfl (by decide) rfl rfl rfl rfl fl_X10_273 (sl_rgite (sl_rgite (sl_rgite ⟨by decide, by decide⟩ ⟨by decide, by decide⟩) ⟨by decide, by decide⟩) ⟨by decide, by decide⟩) dX10_laysSpan_452 ?_
          refine r_mm (fun M18 e18 => ?_)
          have H := H M18 e18
          have hM18 : sl_RM M18 := by rw [e18]; exact sl_wr_RM hM10 (sl_rgite (sl_rgite (sl_rgite ⟨by decide, by decide⟩ ⟨by decide, by decide⟩) ⟨by decide, by decide⟩) ⟨by decide, by decide⟩)
          refine r_vret rfl dX10_laysSpan_455 ?_
          exact H
        refine r_if_eq (tgt := 422) g5 dX10_laysSpan_415 (by decide) (fun h15 => ?_) (fun h15 => ?_)
        · replace K := K h15
          refine r_iload (k := 0) rfl dX10_laysSpan_422 ?_
          refine r_if_ne (tgt := 431) gy13 dX10_laysSpan_424 (by decide) (fun h16 => ?_) (fun h16 => ?_)
          · replace h16 := (b_ne0.mp (fun q => h16 (fy13.trans q)))
            replace K := K h16
            have c14 := K
            refine r_aload_n (k := 1) rfl rfl dX10_laysSpan_431 ?_
            refine r_gI (k := 34) (kz := 34) rfl ckX10 rfl rfl (by decide) rfl rfl fl_X10_261 dX10_laysSpan_432 ?_
            refine r_aload_n (k := 1) rfl rfl dX10_laysSpan_435 ?_
            refine r_getR (k := 30) (o' := 1) (i' := 31) ckX10 rfl rfl (by decide) rfl rfl rfl fl_X10_73 dX10_laysSpan_436 ?_
            refine r_iload_n (k := 2) rfl rfl dX10_laysSpan_439 ?_
            refine r_iald rfl rfl rfl c14 dX10_laysSpan_440 ?_
            refine r_iconst dX10_laysSpan_441 ?_
            refine r_ixor dX10_laysSpan_442 ?_
            refine r_iand dX10_laysSpan_443 ?_
            refine r_if_eq (tgt := 451) (rg_iand _ _) dX10_laysSpan_444 (by decide) (fun h17 => ?_) (fun h17 => ?_)
            · refine r_iconst dX10_laysSpan_451 ?_
              rw [if_pos h15, if_pos h16, if_pos h17] at J
              exact J
            · refine r_iconst dX10_laysSpan_447 ?_
              refine r_goto (tgt := 452) dX10_laysSpan_448 (by decide) ?_
              rw [if_pos h15, if_pos h16, if_neg h17] at J
              exact J
          · replace h16 := (b_eq0.mp (fy13.symm.trans (Decidable.of_not_not h16)))
            refine r_iconst dX10_laysSpan_427 ?_
            refine r_goto (tgt := 452) dX10_laysSpan_428 (by decide) ?_
            rw [if_pos h15, if_neg h16] at J
            exact J
        · refine r_iconst dX10_laysSpan_418 ?_
          refine r_goto (tgt := 452) dX10_laysSpan_419 (by decide) ?_
          rw [if_neg h15] at J
          exact J
      refine r_icmp_gt (tgt := 409) gy11 ⟨by decide, by decide⟩ dX10_laysSpan_402 (by decide) (fun h12 => ?_) (fun h12 => ?_)
      · refine r_iconst dX10_laysSpan_409 ?_
        rw [if_neg (show ¬ (¬ (3 < y11)) by omega)] at J
        exact J
      · refine r_iconst dX10_laysSpan_405 ?_
        refine r_goto (tgt := 410) dX10_laysSpan_406 (by decide) ?_
        rw [if_pos (show ¬ (3 < y11) by omega)] at J
        exact J
  · have H := H.2 h1
    refine r_iload (k := 4) rfl dX10_laysSpan_309 ?_
    refine r_callS (g := mX10_placeOf) rfl mkX10_placeOf msX10_placeOf ml_X10_215 ⟨by decide, by decide⟩ rfl (Nat.le_of_ble_eq_true rfl) rfl (ok_i g6 ok_n) dX10_laysSpan_311 (sl_afterI (sl_RI.by kX10_placeOf ?_))
    refine r_nm (fun y19 fy19 => ?_)
    have H := H y19 fy19
    have gy19 : sl_rg y19 := by rw [fy19]; exact (rgkX10_placeOf _)
    refine r_istore (ls' := [(7, vI y19), (0, vR 1 0), (1, vI x1), (4, vI x4), (5, vI x5), (6, vI x6)]) gy19 (by decide) rfl dX10_laysSpan_314 ?_
    refine r_aload_n (k := 1) rfl rfl dX10_laysSpan_316 ?_
    refine r_gI (k := 33) (kz := 33) rfl ckX10 rfl rfl (by decide) rfl rfl fl_X10_252 dX10_laysSpan_317 ?_
    refine r_iload (k := 5) rfl dX10_laysSpan_320 ?_
    refine r_iand dX10_laysSpan_322 ?_
    refine r_if_eq (tgt := 374) (rg_iand _ _) dX10_laysSpan_323 (by decide) (fun h20 => ?_) (fun h20 => ?_)
    · have H := H.1 h20
      refine r_iload (k := 5) rfl dX10_laysSpan_374 ?_
      refine r_iconst dX10_laysSpan_376 ?_
      refine r_imul dX10_laysSpan_377 ?_
      obtain ⟨c21, H⟩ := H
      refine r_nm (fun y22 fy22 => ?_)
      have H := H y22 fy22
      have gy22 : sl_rg y22 := by rw [fy22]; exact c21
      refine r_istore (ls' := [(6, vI y22), (7, vI y19), (0, vR 1 0), (1, vI x1), (4, vI x4), (5, vI x5)]) gy22 (by decide) rfl dX10_laysSpan_378 ?_
      refine r_goto (tgt := 302) dX10_laysSpan_380 (by decide) ?_
      exact sl_At.sub [2, 3, 4, 5, 0] rfl H
    · have H := H.2 h20
      refine r_aload_n (k := 1) rfl rfl dX10_laysSpan_326 ?_
      refine r_dup rfl dX10_laysSpan_327 ?_
      refine r_gI (k := 35) (kz := 35) rfl ckX10 rfl rfl (by decide) rfl rfl fl_X10_267 dX10_laysSpan_328 ?_
      refine r_iload (k := 3) rfl dX10_laysSpan_331 ?_
      refine r_aload_n (k := 1) rfl rfl dX10_laysSpan_333 ?_
      refine r_getR (k := 39) (o' := 1) (i' := 40) ckX10 rfl rfl (by decide) rfl rfl rfl fl_X10_79 dX10_laysSpan_334 ?_
      refine r_iload (k := 0) rfl dX10_laysSpan_337 ?_
      obtain ⟨c23, H⟩ := H
      refine r_iald rfl rfl rfl c23 dX10_laysSpan_339 ?_
      refine r_iand dX10_laysSpan_340 ?_
      refine r_ior dX10_laysSpan_341 ?_
      refine r_pI (k := 35) (kz := 35) rfl ckX10 rfl rfl (by decide) rfl rfl rfl rfl fl_X10_267 (rg_ior _ _) dX10_laysSpan_342 ?_
      refine r_mm (fun M24 e24 => ?_)
      have H := H M24 e24
      have hM24 : sl_RM M24 := by rw [e24]; exact sl_wr_RM hM (rg_ior _ _)
      refine r_aload_n (k := 1) rfl rfl dX10_laysSpan_345 ?_
      refine r_dup rfl dX10_laysSpan_346 ?_
      refine r_gI (k := 34) (kz := 34) rfl ckX10 rfl rfl (by decide) rfl rfl fl_X10_261 dX10_laysSpan_347 ?_
      refine r_iload (k := 3) rfl dX10_laysSpan_350 ?_
      refine r_aload_n (k := 1) rfl rfl dX10_laysSpan_352 ?_
      refine r_getR (k := 39) (o' := 1) (i' := 40) ckX10 rfl rfl (by decide) rfl rfl rfl fl_X10_79 dX10_laysSpan_353 ?_
      refine r_iload (k := 0) rfl dX10_laysSpan_356 ?_
      refine r_iald rfl rfl rfl c23 dX10_laysSpan_358 ?_
      refine r_iand dX10_laysSpan_359 ?_
      refine r_aload_n (k := 1) rfl rfl dX10_laysSpan_360 ?_
      refine r_getR (k := 38) (o' := 1) (i' := 39) ckX10 rfl rfl (by decide) rfl rfl rfl fl_X10_76 dX10_laysSpan_361 ?_
      refine r_iload (k := 0) rfl dX10_laysSpan_364 ?_
      refine r_iald rfl rfl rfl c23 dX10_laysSpan_366 ?_
      refine r_iconst dX10_laysSpan_367 ?_
      refine r_ixor dX10_laysSpan_368 ?_
      refine r_iand dX10_laysSpan_369 ?_
      refine r_ior dX10_laysSpan_370 ?_
      refine r_pI (k := 34) (kz := 34) rfl ckX10 rfl rfl (by decide) rfl rfl rfl rfl fl_X10_261 (rg_ior _ _) dX10_laysSpan_371 ?_
      refine r_mm (fun M25 e25 => ?_)
      have H := H M25 e25
      have hM25 : sl_RM M25 := by rw [e25]; exact sl_wr_RM hM24 (rg_ior _ _)
      refine r_iload (k := 5) rfl dX10_laysSpan_374 ?_
      refine r_iconst dX10_laysSpan_376 ?_
      refine r_imul dX10_laysSpan_377 ?_
      obtain ⟨c26, H⟩ := H
      refine r_nm (fun y27 fy27 => ?_)
      have H := H y27 fy27
      have gy27 : sl_rg y27 := by rw [fy27]; exact c26
      refine r_istore (ls' := [(6, vI y27), (7, vI y19), (0, vR 1 0), (1, vI x1), (4, vI x4), (5, vI x5)]) gy27 (by decide) rfl dX10_laysSpan_378 ?_
      refine r_goto (tgt := 302) dX10_laysSpan_380 (by decide) ?_
      exact sl_At.sub [2, 3, 4, 5, 0] rfl H
theorem eX10_laysSpan {l : Launch} {M : sl_M} {Q : sl_R} {x1 x2 : Int} (k : sl_At l mX10_laysSpan 0 [(0, vR 1 0), (1, vI x1), (2, vI x2)] [] M Q) : sl_Runs l mX10_laysSpan [vR 1 0, vI x1, vI x2] M Q := sl_Runs.of (ls := [(0, vR 1 0), (1, vI x1), (2, vI x2)]) rfl rfl (fun _ => rfl) (fun _ => Nat.le_of_ble_eq_true rfl) rfl (k)
theorem dX10_sizeOf_0 : decode cX10_sizeOf 0 = .ok (.iconst 0, 1) := by decide +kernel
theorem dX10_sizeOf_1 : decode cX10_sizeOf 1 = .ok (.istore_n 1, 1) := by decide +kernel
theorem dX10_sizeOf_2 : decode cX10_sizeOf 2 = .ok (.iconst 0, 1) := by decide +kernel
theorem dX10_sizeOf_3 : decode cX10_sizeOf 3 = .ok (.istore_n 2, 1) := by decide +kernel
theorem dX10_sizeOf_4 : decode cX10_sizeOf 4 = .ok (.iload_n 2, 1) := by decide +kernel
theorem dX10_sizeOf_5 : decode cX10_sizeOf 5 = .ok (.bipush 8, 2) := by decide +kernel
theorem dX10_sizeOf_7 : decode cX10_sizeOf 7 = .ok (.if_icmp .ge 25, 3) := by decide +kernel
theorem dX10_sizeOf_10 : decode cX10_sizeOf 10 = .ok (.iload_n 1, 1) := by decide +kernel
theorem dX10_sizeOf_11 : decode cX10_sizeOf 11 = .ok (.iload_n 0, 1) := by decide +kernel
theorem dX10_sizeOf_12 : decode cX10_sizeOf 12 = .ok (.iload_n 2, 1) := by decide +kernel
theorem dX10_sizeOf_13 : decode cX10_sizeOf 13 = .ok (.invokestatic 218, 3) := by decide +kernel
theorem dX10_sizeOf_16 : decode cX10_sizeOf 16 = .ok (.ifCond .eq 7, 3) := by decide +kernel
theorem dX10_sizeOf_19 : decode cX10_sizeOf 19 = .ok (.iconst 1, 1) := by decide +kernel
theorem dX10_sizeOf_20 : decode cX10_sizeOf 20 = .ok (.goto 4, 3) := by decide +kernel
theorem dX10_sizeOf_23 : decode cX10_sizeOf 23 = .ok (.iconst 0, 1) := by decide +kernel
theorem dX10_sizeOf_24 : decode cX10_sizeOf 24 = .ok (.iadd, 1) := by decide +kernel
theorem dX10_sizeOf_25 : decode cX10_sizeOf 25 = .ok (.istore_n 1, 1) := by decide +kernel
theorem dX10_sizeOf_26 : decode cX10_sizeOf 26 = .ok (.iinc 2 1, 3) := by decide +kernel
theorem dX10_sizeOf_29 : decode cX10_sizeOf 29 = .ok (.goto (-25), 3) := by decide +kernel
theorem dX10_sizeOf_32 : decode cX10_sizeOf 32 = .ok (.iload_n 1, 1) := by decide +kernel
theorem dX10_sizeOf_33 : decode cX10_sizeOf 33 = .ok (.ireturn, 1) := by decide +kernel
set_option maxHeartbeats 4000000 in
set_option maxRecDepth 10000 in
theorem vX10_sizeOf_0 {l : Launch} {M : sl_M} {Q : sl_R} {x0 : Int} (H : sl_RM M → sl_rg x0 → sl_At l mX10_sizeOf 4 [(0, vI x0), (1, vI 0), (2, vI 0)] [] M Q) : sl_At l mX10_sizeOf 0 [(0, vI x0)] [] M Q := by
  refine sl_At.in (fun hM hls => ?_)
  have g0 : sl_rg x0 := hls _ (List.mem_of_getElem? (i := 0) rfl)
  have H := H hM g0
  refine r_iconst dX10_sizeOf_0 ?_
  refine r_istore_n (ls' := [(1, vI 0), (0, vI x0)]) ⟨by decide, by decide⟩ rfl (by decide) rfl dX10_sizeOf_1 ?_
  refine r_iconst dX10_sizeOf_2 ?_
  refine r_istore_n (ls' := [(2, vI 0), (1, vI 0), (0, vI x0)]) ⟨by decide, by decide⟩ rfl (by decide) rfl dX10_sizeOf_3 ?_
  exact sl_At.sub [2, 1, 0] rfl H
set_option maxHeartbeats 4000000 in
set_option maxRecDepth 10000 in
theorem vX10_sizeOf_4 {l : Launch} {M : sl_M} {Q : sl_R} {x0 x1 x2 : Int} (H : sl_RM M → sl_rg x0 → sl_rg x1 → sl_rg x2 → ((8 ≤ x2) → Q (some (vI x1)) M) ∧ ((¬ (8 ≤ x2)) → (sl_rg (x1 + (if iand (ishr x0 x2) 1 = 1 then 1 else 0))) ∧ (∀ y4 : Int, y4 = x1 + (if iand (ishr x0 x2) 1 = 1 then 1 else 0) → (sl_rg (x2 + 1)) ∧ sl_At l mX10_sizeOf 4 [(0, vI x0), (1, vI y4), (2, vI (x2 + 1))] [] M Q))) : sl_At l mX10_sizeOf 4 [(0, vI x0), (1, vI x1), (2, vI x2)] [] M Q := by
  refine sl_At.in (fun hM hls => ?_)
  have g0 : sl_rg x0 := hls _ (List.mem_of_getElem? (i := 0) rfl)
  have g1 : sl_rg x1 := hls _ (List.mem_of_getElem? (i := 1) rfl)
  have g2 : sl_rg x2 := hls _ (List.mem_of_getElem? (i := 2) rfl)
  have H := H hM g0 g1 g2
  refine r_iload_n (k := 2) rfl rfl dX10_sizeOf_4 ?_
  refine r_bipush dX10_sizeOf_5 (by decide) ?_
  refine r_icmp_ge (tgt := 32) g2 ⟨by decide, by decide⟩ dX10_sizeOf_7 (by decide) (fun h1 => ?_) (fun h1 => ?_)
  · have H := H.1 h1
    refine r_iload_n (k := 1) rfl rfl dX10_sizeOf_32 ?_
    refine r_iret rfl g1 dX10_sizeOf_33 ?_
    exact H
  · have H := H.2 h1
    refine r_iload_n (k := 1) rfl rfl dX10_sizeOf_10 ?_
    refine r_iload_n (k := 0) rfl rfl dX10_sizeOf_11 ?_
    refine r_iload_n (k := 2) rfl rfl dX10_sizeOf_12 ?_
    refine r_callS (g := mX10_has) rfl mkX10_has msX10_has ml_X10_218 ⟨by decide, by decide⟩ rfl (Nat.le_of_ble_eq_true rfl) rfl (ok_i g0 (ok_i g2 ok_n)) dX10_sizeOf_13 (sl_afterI (sl_RI.by kX10_has ?_))
    have J : sl_At l mX10_sizeOf 24 [(0, vI x0), (1, vI x1), (2, vI x2)] [vI (if iand (ishr x0 x2) 1 = 1 then 1 else 0), vI x1] M Q := by
      refine r_iadd dX10_sizeOf_24 ?_
      obtain ⟨c3, H⟩ := H
      refine r_nm (fun y4 fy4 => ?_)
      have H := H y4 fy4
      have gy4 : sl_rg y4 := by rw [fy4]; exact c3
      refine r_istore_n (ls' := [(1, vI y4), (0, vI x0), (2, vI x2)]) gy4 rfl (by decide) rfl dX10_sizeOf_25 ?_
      obtain ⟨c5, H⟩ := H
      refine r_iinc (k := 2) (ls' := [(2, vI (x2 + 1)), (1, vI y4), (0, vI x0)]) rfl c5 (by decide) rfl dX10_sizeOf_26 ?_
      refine r_goto (tgt := 4) dX10_sizeOf_29 (by decide) ?_
      exact sl_At.sub [2, 1, 0] rfl H
    refine r_if_eq (tgt := 23) rg_b dX10_sizeOf_16 (by decide) (fun h2 => ?_) (fun h2 => ?_)
    · replace h2 := (b_eq0.mp h2)
      refine r_iconst dX10_sizeOf_23 ?_
      rw [if_neg (show ¬ (iand (ishr x0 x2) 1 = 1) by omega)] at J
      exact J
    · replace h2 := (b_ne0.mp h2)
      refine r_iconst dX10_sizeOf_19 ?_
      refine r_goto (tgt := 24) dX10_sizeOf_20 (by decide) ?_
      rw [if_pos (show iand (ishr x0 x2) 1 = 1 by omega)] at J
      exact J
theorem eX10_sizeOf {l : Launch} {M : sl_M} {Q : sl_R} {x0 : Int} (k : sl_At l mX10_sizeOf 0 [(0, vI x0)] [] M Q) : sl_Runs l mX10_sizeOf [vI x0] M Q := sl_Runs.of (ls := [(0, vI x0)]) rfl rfl (fun _ => rfl) (fun _ => Nat.le_of_ble_eq_true rfl) rfl (k)
theorem dX10_lists_0 : decode cX10_lists 0 = .ok (.iconst 0, 1) := by decide +kernel
theorem dX10_lists_1 : decode cX10_lists 1 = .ok (.istore_n 2, 1) := by decide +kernel
theorem dX10_lists_2 : decode cX10_lists 2 = .ok (.iload_n 2, 1) := by decide +kernel
theorem dX10_lists_3 : decode cX10_lists 3 = .ok (.bipush 8, 2) := by decide +kernel
theorem dX10_lists_5 : decode cX10_lists 5 = .ok (.if_icmp .ge 78, 3) := by decide +kernel
theorem dX10_lists_8 : decode cX10_lists 8 = .ok (.iload_n 1, 1) := by decide +kernel
theorem dX10_lists_9 : decode cX10_lists 9 = .ok (.aload_n 0, 1) := by decide +kernel
theorem dX10_lists_10 : decode cX10_lists 10 = .ok (.getfield 276, 3) := by decide +kernel
theorem dX10_lists_13 : decode cX10_lists 13 = .ok (.iconst (-1), 1) := by decide +kernel
theorem dX10_lists_14 : decode cX10_lists 14 = .ok (.ixor, 1) := by decide +kernel
theorem dX10_lists_15 : decode cX10_lists 15 = .ok (.iand, 1) := by decide +kernel
theorem dX10_lists_16 : decode cX10_lists 16 = .ok (.iload_n 2, 1) := by decide +kernel
theorem dX10_lists_17 : decode cX10_lists 17 = .ok (.invokestatic 218, 3) := by decide +kernel
theorem dX10_lists_20 : decode cX10_lists 20 = .ok (.ifCond .eq 57, 3) := by decide +kernel
theorem dX10_lists_23 : decode cX10_lists 23 = .ok (.aload_n 0, 1) := by decide +kernel
theorem dX10_lists_24 : decode cX10_lists 24 = .ok (.dup, 1) := by decide +kernel
theorem dX10_lists_25 : decode cX10_lists 25 = .ok (.getfield 279, 3) := by decide +kernel
theorem dX10_lists_28 : decode cX10_lists 28 = .ok (.aload_n 0, 1) := by decide +kernel
theorem dX10_lists_29 : decode cX10_lists 29 = .ok (.getfield 282, 3) := by decide +kernel
theorem dX10_lists_32 : decode cX10_lists 32 = .ok (.bipush 6, 2) := by decide +kernel
theorem dX10_lists_34 : decode cX10_lists 34 = .ok (.if_icmp .ge 16, 3) := by decide +kernel
theorem dX10_lists_37 : decode cX10_lists 37 = .ok (.iload_n 2, 1) := by decide +kernel
theorem dX10_lists_38 : decode cX10_lists 38 = .ok (.iconst 4, 1) := by decide +kernel
theorem dX10_lists_39 : decode cX10_lists 39 = .ok (.iconst 4, 1) := by decide +kernel
theorem dX10_lists_40 : decode cX10_lists 40 = .ok (.aload_n 0, 1) := by decide +kernel
theorem dX10_lists_41 : decode cX10_lists 41 = .ok (.getfield 282, 3) := by decide +kernel
theorem dX10_lists_44 : decode cX10_lists 44 = .ok (.imul, 1) := by decide +kernel
theorem dX10_lists_45 : decode cX10_lists 45 = .ok (.iadd, 1) := by decide +kernel
theorem dX10_lists_46 : decode cX10_lists 46 = .ok (.ishl, 1) := by decide +kernel
theorem dX10_lists_47 : decode cX10_lists 47 = .ok (.goto 4, 3) := by decide +kernel
theorem dX10_lists_50 : decode cX10_lists 50 = .ok (.iconst 0, 1) := by decide +kernel
theorem dX10_lists_51 : decode cX10_lists 51 = .ok (.ior, 1) := by decide +kernel
theorem dX10_lists_52 : decode cX10_lists 52 = .ok (.putfield 279, 3) := by decide +kernel
theorem dX10_lists_55 : decode cX10_lists 55 = .ok (.aload_n 0, 1) := by decide +kernel
theorem dX10_lists_56 : decode cX10_lists 56 = .ok (.dup, 1) := by decide +kernel
theorem dX10_lists_57 : decode cX10_lists 57 = .ok (.getfield 282, 3) := by decide +kernel
theorem dX10_lists_60 : decode cX10_lists 60 = .ok (.iconst 1, 1) := by decide +kernel
theorem dX10_lists_61 : decode cX10_lists 61 = .ok (.iadd, 1) := by decide +kernel
theorem dX10_lists_62 : decode cX10_lists 62 = .ok (.putfield 282, 3) := by decide +kernel
theorem dX10_lists_65 : decode cX10_lists 65 = .ok (.aload_n 0, 1) := by decide +kernel
theorem dX10_lists_66 : decode cX10_lists 66 = .ok (.dup, 1) := by decide +kernel
theorem dX10_lists_67 : decode cX10_lists 67 = .ok (.getfield 276, 3) := by decide +kernel
theorem dX10_lists_70 : decode cX10_lists 70 = .ok (.iconst 1, 1) := by decide +kernel
theorem dX10_lists_71 : decode cX10_lists 71 = .ok (.iload_n 2, 1) := by decide +kernel
theorem dX10_lists_72 : decode cX10_lists 72 = .ok (.ishl, 1) := by decide +kernel
theorem dX10_lists_73 : decode cX10_lists 73 = .ok (.ior, 1) := by decide +kernel
theorem dX10_lists_74 : decode cX10_lists 74 = .ok (.putfield 276, 3) := by decide +kernel
theorem dX10_lists_77 : decode cX10_lists 77 = .ok (.iinc 2 1, 3) := by decide +kernel
theorem dX10_lists_80 : decode cX10_lists 80 = .ok (.goto (-78), 3) := by decide +kernel
theorem dX10_lists_83 : decode cX10_lists 83 = .ok (.return_, 1) := by decide +kernel
set_option maxHeartbeats 4000000 in
set_option maxRecDepth 10000 in
theorem vX10_lists_0 {l : Launch} {M : sl_M} {Q : sl_R} {x1 : Int} (H : sl_RM M → sl_rg x1 → sl_At l mX10_lists 2 [(0, vR 1 0), (1, vI x1), (2, vI 0)] [] M Q) : sl_At l mX10_lists 0 [(0, vR 1 0), (1, vI x1)] [] M Q := by
  refine sl_At.in (fun hM hls => ?_)
  have g1 : sl_rg x1 := hls _ (List.mem_of_getElem? (i := 1) rfl)
  have H := H hM g1
  refine r_iconst dX10_lists_0 ?_
  refine r_istore_n (ls' := [(2, vI 0), (0, vR 1 0), (1, vI x1)]) ⟨by decide, by decide⟩ rfl (by decide) rfl dX10_lists_1 ?_
  exact sl_At.sub [1, 2, 0] rfl H
set_option maxHeartbeats 4000000 in
set_option maxRecDepth 10000 in
theorem vX10_lists_2 {l : Launch} {M : sl_M} {Q : sl_R} {x1 x2 : Int} (H : sl_RM M → sl_rg x1 → sl_rg x2 → ((8 ≤ x2) → Q none M) ∧ ((¬ (8 ≤ x2)) → ((¬ (iand (ishr (iand x1 (ixor (M 1 0 42) (-1))) x2) 1 = 1)) → (sl_rg (x2 + 1)) ∧ sl_At l mX10_lists 2 [(0, vR 1 0), (1, vI x1), (2, vI (x2 + 1))] [] M Q) ∧ ((iand (ishr (iand x1 (ixor (M 1 0 42) (-1))) x2) 1 = 1) → (∀ M5, M5 = sl_wr M 1 0 43 (ior (M 1 0 43) (if 6 ≤ M 1 0 44 then 0 else ishl x2 (4 + (4 * (M 1 0 44))))) → (sl_rg (M5 1 0 44 + 1)) ∧ (∀ M7, M7 = sl_wr M5 1 0 44 (M5 1 0 44 + 1) → (∀ M8, M8 = sl_wr M7 1 0 42 (ior (M7 1 0 42) (ishl 1 x2)) → (sl_rg (x2 + 1)) ∧ sl_At l mX10_lists 2 [(0, vR 1 0), (1, vI x1), (2, vI (x2 + 1))] [] M8 Q)))))) : sl_At l mX10_lists 2 [(0, vR 1 0), (1, vI x1), (2, vI x2)] [] M Q := by
  refine sl_At.in (fun hM hls => ?_)
  have g1 : sl_rg x1 := hls _ (List.mem_of_getElem? (i := 1) rfl)
  have g2 : sl_rg x2 := hls _ (List.mem_of_getElem? (i := 2) rfl)
  have H := H hM g1 g2
  refine r_iload_n (k := 2) rfl rfl dX10_lists_2 ?_
  refine r_bipush dX10_lists_3 (by decide) ?_
  refine r_icmp_ge (tgt := 83) g2 ⟨by decide, by decide⟩ dX10_lists_5 (by decide) (fun h1 => ?_) (fun h1 => ?_)
  · have H := H.1 h1
    refine r_vret rfl dX10_lists_83 ?_
    exact H
  · have H := H.2 h1
    refine r_iload_n (k := 1) rfl rfl dX10_lists_8 ?_
    refine r_aload_n (k := 0) rfl rfl dX10_lists_9 ?_
    refine r_gI (k := 42) (kz := 42) rfl ckX10 rfl rfl (by decide) rfl rfl fl_X10_276 dX10_lists_10 ?_
    refine r_iconst dX10_lists_13 ?_
    refine r_ixor dX10_lists_14 ?_
    refine r_iand dX10_lists_15 ?_
    refine r_iload_n (k := 2) rfl rfl dX10_lists_16 ?_
    refine r_callS (g := mX10_has) rfl mkX10_has msX10_has ml_X10_218 ⟨by decide, by decide⟩ rfl (Nat.le_of_ble_eq_true rfl) rfl (ok_i (rg_iand _ _) (ok_i g2 ok_n)) dX10_lists_17 (sl_afterI (sl_RI.by kX10_has ?_))
    refine r_if_eq (tgt := 77) rg_b dX10_lists_20 (by decide) (fun h2 => ?_) (fun h2 => ?_)
    · have H := H.1 (b_eq0.mp h2)
      obtain ⟨c3, H⟩ := H
      refine r_iinc (k := 2) (ls' := [(2, vI (x2 + 1)), (0, vR 1 0), (1, vI x1)]) rfl c3 (by decide) rfl dX10_lists_77 ?_
      refine r_goto (tgt := 2) dX10_lists_80 (by decide) ?_
      exact sl_At.sub [1, 2, 0] rfl H
    · have H := H.2 (b_ne0.mp h2)
      refine r_aload_n (k := 0) rfl rfl dX10_lists_23 ?_
      refine r_dup rfl dX10_lists_24 ?_
      refine r_gI (k := 43) (kz := 43) rfl ckX10 rfl rfl (by decide) rfl rfl fl_X10_279 dX10_lists_25 ?_
      refine r_aload_n (k := 0) rfl rfl dX10_lists_28 ?_
      refine r_gI (k := 44) (kz := 44) rfl ckX10 rfl rfl (by decide) rfl rfl fl_X10_282 dX10_lists_29 ?_
      refine r_bipush dX10_lists_32 (by decide) ?_
      have J : sl_At l mX10_lists 51 [(0, vR 1 0), (1, vI x1), (2, vI x2)] [vI (if 6 ≤ M 1 0 44 then 0 else ishl x2 (4 + (4 * (M 1 0 44)))), vI (M 1 0 43), vR 1 0] M Q := by
        refine r_ior dX10_lists_51 ?_
        refine r_pI (k := 43) (kz := 43) rfl ckX10 rfl rfl (by decide) rfl rfl rfl rfl fl_X10_279 (rg_ior _ _) dX10_lists_52 ?_
        refine r_mm (fun M5 e5 => ?_)
        have H := H M5 e5
        have hM5 : sl_RM M5 := by rw [e5]; exact sl_wr_RM hM (rg_ior _ _)
        refine r_aload_n (k := 0) rfl rfl dX10_lists_55 ?_
        refine r_dup rfl dX10_lists_56 ?_
        refine r_gI (k := 44) (kz := 44) rfl ckX10 rfl rfl (by decide) rfl rfl fl_X10_282 dX10_lists_57 ?_
        refine r_iconst dX10_lists_60 ?_
        refine r_iadd dX10_lists_61 ?_
        obtain ⟨c6, H⟩ := H
        refine r_pI (k := 44) (kz := 44) rfl ckX10 rfl rfl (by decide) rfl rfl rfl rfl fl_X10_282 c6 dX10_lists_62 ?_
        refine r_mm (fun M7 e7 => ?_)
        have H := H M7 e7
        have hM7 : sl_RM M7 := by rw [e7]; exact sl_wr_RM hM5 c6
        refine r_aload_n (k := 0) rfl rfl dX10_lists_65 ?_
        refine r_dup rfl dX10_lists_66 ?_
        refine r_gI (k := 42) (kz := 42) rfl ckX10 rfl rfl (by decide) rfl rfl fl_X10_276 dX10_lists_67 ?_
        refine r_iconst dX10_lists_70 ?_
        refine r_iload_n (k := 2) rfl rfl dX10_lists_71 ?_
        refine r_ishl dX10_lists_72 ?_
        refine r_ior dX10_lists_73 ?_
        refine r_pI (k := 42) (kz := 42) rfl ckX10 rfl rfl (by decide) rfl rfl rfl rfl fl_X10_276 (rg_ior _ _) dX10_lists_74 ?_
        refine r_mm (fun M8 e8 => ?_)
        have H := H M8 e8
        have hM8 : sl_RM M8 := by rw [e8]; exact sl_wr_RM hM7 (rg_ior _ _)
        obtain ⟨c9, H⟩ := H
        refine r_iinc (k := 2) (ls' := [(2, vI (x2 + 1)), (0, vR 1 0), (1, vI x1)]) rfl c9 (by decide) rfl dX10_lists_77 ?_
        refine r_goto (tgt := 2) dX10_lists_80 (by decide) ?_
        exact sl_At.sub [1, 2, 0] rfl H
      refine r_icmp_ge (tgt := 50) (hM _ _ _) ⟨by decide, by decide⟩ dX10_lists_34 (by decide) (fun h4 => ?_) (fun h4 => ?_)
      · refine r_iconst dX10_lists_50 ?_
        rw [if_pos h4] at J
        exact J
      · refine r_iload_n (k := 2) rfl rfl dX10_lists_37 ?_
        refine r_iconst dX10_lists_38 ?_
        refine r_iconst dX10_lists_39 ?_
        refine r_aload_n (k := 0) rfl rfl dX10_lists_40 ?_
        refine r_gI (k := 44) (kz := 44) rfl ckX10 rfl rfl (by decide) rfl rfl fl_X10_282 dX10_lists_41 ?_
        refine r_imul dX10_lists_44 ?_
        refine r_iadd dX10_lists_45 ?_
        refine r_ishl dX10_lists_46 ?_
        refine r_goto (tgt := 51) dX10_lists_47 (by decide) ?_
        rw [if_neg h4] at J
        exact J
theorem eX10_lists {l : Launch} {M : sl_M} {Q : sl_R} {x1 : Int} (k : sl_At l mX10_lists 0 [(0, vR 1 0), (1, vI x1)] [] M Q) : sl_Runs l mX10_lists [vR 1 0, vI x1] M Q := sl_Runs.of (ls := [(0, vR 1 0), (1, vI x1)]) rfl rfl (fun _ => rfl) (fun _ => Nat.le_of_ble_eq_true rfl) rfl (k)
theorem dX10_listOf_0 : decode cX10_listOf 0 = .ok (.aload_n 0, 1) := by decide +kernel
theorem dX10_listOf_1 : decode cX10_listOf 1 = .ok (.iconst 0, 1) := by decide +kernel
theorem dX10_listOf_2 : decode cX10_listOf 2 = .ok (.putfield 276, 3) := by decide +kernel
theorem dX10_listOf_5 : decode cX10_listOf 5 = .ok (.aload_n 0, 1) := by decide +kernel
theorem dX10_listOf_6 : decode cX10_listOf 6 = .ok (.iconst 0, 1) := by decide +kernel
theorem dX10_listOf_7 : decode cX10_listOf 7 = .ok (.putfield 279, 3) := by decide +kernel
theorem dX10_listOf_10 : decode cX10_listOf 10 = .ok (.aload_n 0, 1) := by decide +kernel
theorem dX10_listOf_11 : decode cX10_listOf 11 = .ok (.iconst 0, 1) := by decide +kernel
theorem dX10_listOf_12 : decode cX10_listOf 12 = .ok (.putfield 282, 3) := by decide +kernel
theorem dX10_listOf_15 : decode cX10_listOf 15 = .ok (.iconst (-1), 1) := by decide +kernel
theorem dX10_listOf_16 : decode cX10_listOf 16 = .ok (.istore_n 3, 1) := by decide +kernel
theorem dX10_listOf_17 : decode cX10_listOf 17 = .ok (.aload_n 0, 1) := by decide +kernel
theorem dX10_listOf_18 : decode cX10_listOf 18 = .ok (.getfield 246, 3) := by decide +kernel
theorem dX10_listOf_21 : decode cX10_listOf 21 = .ok (.istore 4, 2) := by decide +kernel
theorem dX10_listOf_23 : decode cX10_listOf 23 = .ok (.iload 4, 2) := by decide +kernel
theorem dX10_listOf_25 : decode cX10_listOf 25 = .ok (.aload_n 0, 1) := by decide +kernel
theorem dX10_listOf_26 : decode cX10_listOf 26 = .ok (.getfield 249, 3) := by decide +kernel
theorem dX10_listOf_29 : decode cX10_listOf 29 = .ok (.if_icmp .ge 262, 3) := by decide +kernel
theorem dX10_listOf_32 : decode cX10_listOf 32 = .ok (.aload_n 0, 1) := by decide +kernel
theorem dX10_listOf_33 : decode cX10_listOf 33 = .ok (.getfield 43, 3) := by decide +kernel
theorem dX10_listOf_36 : decode cX10_listOf 36 = .ok (.iload 4, 2) := by decide +kernel
theorem dX10_listOf_38 : decode cX10_listOf 38 = .ok (.iaload, 1) := by decide +kernel
theorem dX10_listOf_39 : decode cX10_listOf 39 = .ok (.istore 5, 2) := by decide +kernel
theorem dX10_listOf_41 : decode cX10_listOf 41 = .ok (.aload_n 0, 1) := by decide +kernel
theorem dX10_listOf_42 : decode cX10_listOf 42 = .ok (.getfield 31, 3) := by decide +kernel
theorem dX10_listOf_45 : decode cX10_listOf 45 = .ok (.iload 4, 2) := by decide +kernel
theorem dX10_listOf_47 : decode cX10_listOf 47 = .ok (.iaload, 1) := by decide +kernel
theorem dX10_listOf_48 : decode cX10_listOf 48 = .ok (.bipush 7, 2) := by decide +kernel
theorem dX10_listOf_50 : decode cX10_listOf 50 = .ok (.if_icmp .ne 129, 3) := by decide +kernel
theorem dX10_listOf_53 : decode cX10_listOf 53 = .ok (.aload_n 0, 1) := by decide +kernel
theorem dX10_listOf_54 : decode cX10_listOf 54 = .ok (.getfield 46, 3) := by decide +kernel
theorem dX10_listOf_57 : decode cX10_listOf 57 = .ok (.iload 4, 2) := by decide +kernel
theorem dX10_listOf_59 : decode cX10_listOf 59 = .ok (.iaload, 1) := by decide +kernel
theorem dX10_listOf_60 : decode cX10_listOf 60 = .ok (.istore 6, 2) := by decide +kernel
theorem dX10_listOf_62 : decode cX10_listOf 62 = .ok (.iconst 0, 1) := by decide +kernel
theorem dX10_listOf_63 : decode cX10_listOf 63 = .ok (.istore 7, 2) := by decide +kernel
theorem dX10_listOf_65 : decode cX10_listOf 65 = .ok (.iload 7, 2) := by decide +kernel
theorem dX10_listOf_67 : decode cX10_listOf 67 = .ok (.aload_n 0, 1) := by decide +kernel
theorem dX10_listOf_68 : decode cX10_listOf 68 = .ok (.getfield 7, 3) := by decide +kernel
theorem dX10_listOf_71 : decode cX10_listOf 71 = .ok (.sipush 910, 3) := by decide +kernel
theorem dX10_listOf_74 : decode cX10_listOf 74 = .ok (.iload 6, 2) := by decide +kernel
theorem dX10_listOf_76 : decode cX10_listOf 76 = .ok (.iadd, 1) := by decide +kernel
theorem dX10_listOf_77 : decode cX10_listOf 77 = .ok (.iaload, 1) := by decide +kernel
theorem dX10_listOf_78 : decode cX10_listOf 78 = .ok (.bipush 16, 2) := by decide +kernel
theorem dX10_listOf_80 : decode cX10_listOf 80 = .ok (.irem, 1) := by decide +kernel
theorem dX10_listOf_81 : decode cX10_listOf 81 = .ok (.if_icmp .ge 38, 3) := by decide +kernel
theorem dX10_listOf_84 : decode cX10_listOf 84 = .ok (.aload_n 0, 1) := by decide +kernel
theorem dX10_listOf_85 : decode cX10_listOf 85 = .ok (.iload_n 1, 1) := by decide +kernel
theorem dX10_listOf_86 : decode cX10_listOf 86 = .ok (.aload_n 0, 1) := by decide +kernel
theorem dX10_listOf_87 : decode cX10_listOf 87 = .ok (.getfield 7, 3) := by decide +kernel
theorem dX10_listOf_90 : decode cX10_listOf 90 = .ok (.sipush 910, 3) := by decide +kernel
theorem dX10_listOf_93 : decode cX10_listOf 93 = .ok (.iload 6, 2) := by decide +kernel
theorem dX10_listOf_95 : decode cX10_listOf 95 = .ok (.iadd, 1) := by decide +kernel
theorem dX10_listOf_96 : decode cX10_listOf 96 = .ok (.iaload, 1) := by decide +kernel
theorem dX10_listOf_97 : decode cX10_listOf 97 = .ok (.iconst 4, 1) := by decide +kernel
theorem dX10_listOf_98 : decode cX10_listOf 98 = .ok (.iconst 4, 1) := by decide +kernel
theorem dX10_listOf_99 : decode cX10_listOf 99 = .ok (.iload 7, 2) := by decide +kernel
theorem dX10_listOf_101 : decode cX10_listOf 101 = .ok (.imul, 1) := by decide +kernel
theorem dX10_listOf_102 : decode cX10_listOf 102 = .ok (.iadd, 1) := by decide +kernel
theorem dX10_listOf_103 : decode cX10_listOf 103 = .ok (.ishr, 1) := by decide +kernel
theorem dX10_listOf_104 : decode cX10_listOf 104 = .ok (.bipush 15, 2) := by decide +kernel
theorem dX10_listOf_106 : decode cX10_listOf 106 = .ok (.iand, 1) := by decide +kernel
theorem dX10_listOf_107 : decode cX10_listOf 107 = .ok (.iload_n 2, 1) := by decide +kernel
theorem dX10_listOf_108 : decode cX10_listOf 108 = .ok (.iload_n 3, 1) := by decide +kernel
theorem dX10_listOf_109 : decode cX10_listOf 109 = .ok (.invokevirtual 285, 3) := by decide +kernel
theorem dX10_listOf_112 : decode cX10_listOf 112 = .ok (.istore_n 3, 1) := by decide +kernel
theorem dX10_listOf_113 : decode cX10_listOf 113 = .ok (.iinc 7 1, 3) := by decide +kernel
theorem dX10_listOf_116 : decode cX10_listOf 116 = .ok (.goto (-51), 3) := by decide +kernel
theorem dX10_listOf_119 : decode cX10_listOf 119 = .ok (.iconst 0, 1) := by decide +kernel
theorem dX10_listOf_120 : decode cX10_listOf 120 = .ok (.istore 7, 2) := by decide +kernel
theorem dX10_listOf_122 : decode cX10_listOf 122 = .ok (.iload 7, 2) := by decide +kernel
theorem dX10_listOf_124 : decode cX10_listOf 124 = .ok (.aload_n 0, 1) := by decide +kernel
theorem dX10_listOf_125 : decode cX10_listOf 125 = .ok (.getfield 7, 3) := by decide +kernel
theorem dX10_listOf_128 : decode cX10_listOf 128 = .ok (.sipush 950, 3) := by decide +kernel
theorem dX10_listOf_131 : decode cX10_listOf 131 = .ok (.iload 6, 2) := by decide +kernel
theorem dX10_listOf_133 : decode cX10_listOf 133 = .ok (.iadd, 1) := by decide +kernel
theorem dX10_listOf_134 : decode cX10_listOf 134 = .ok (.iaload, 1) := by decide +kernel
theorem dX10_listOf_135 : decode cX10_listOf 135 = .ok (.bipush 16, 2) := by decide +kernel
theorem dX10_listOf_137 : decode cX10_listOf 137 = .ok (.irem, 1) := by decide +kernel
theorem dX10_listOf_138 : decode cX10_listOf 138 = .ok (.if_icmp .ge 38, 3) := by decide +kernel
theorem dX10_listOf_141 : decode cX10_listOf 141 = .ok (.aload_n 0, 1) := by decide +kernel
theorem dX10_listOf_142 : decode cX10_listOf 142 = .ok (.iload_n 1, 1) := by decide +kernel
theorem dX10_listOf_143 : decode cX10_listOf 143 = .ok (.aload_n 0, 1) := by decide +kernel
theorem dX10_listOf_144 : decode cX10_listOf 144 = .ok (.getfield 7, 3) := by decide +kernel
theorem dX10_listOf_147 : decode cX10_listOf 147 = .ok (.sipush 950, 3) := by decide +kernel
theorem dX10_listOf_150 : decode cX10_listOf 150 = .ok (.iload 6, 2) := by decide +kernel
theorem dX10_listOf_152 : decode cX10_listOf 152 = .ok (.iadd, 1) := by decide +kernel
theorem dX10_listOf_153 : decode cX10_listOf 153 = .ok (.iaload, 1) := by decide +kernel
theorem dX10_listOf_154 : decode cX10_listOf 154 = .ok (.iconst 4, 1) := by decide +kernel
theorem dX10_listOf_155 : decode cX10_listOf 155 = .ok (.iconst 4, 1) := by decide +kernel
theorem dX10_listOf_156 : decode cX10_listOf 156 = .ok (.iload 7, 2) := by decide +kernel
theorem dX10_listOf_158 : decode cX10_listOf 158 = .ok (.imul, 1) := by decide +kernel
theorem dX10_listOf_159 : decode cX10_listOf 159 = .ok (.iadd, 1) := by decide +kernel
theorem dX10_listOf_160 : decode cX10_listOf 160 = .ok (.ishr, 1) := by decide +kernel
theorem dX10_listOf_161 : decode cX10_listOf 161 = .ok (.bipush 15, 2) := by decide +kernel
theorem dX10_listOf_163 : decode cX10_listOf 163 = .ok (.iand, 1) := by decide +kernel
theorem dX10_listOf_164 : decode cX10_listOf 164 = .ok (.iload_n 2, 1) := by decide +kernel
theorem dX10_listOf_165 : decode cX10_listOf 165 = .ok (.iload_n 3, 1) := by decide +kernel
theorem dX10_listOf_166 : decode cX10_listOf 166 = .ok (.invokevirtual 285, 3) := by decide +kernel
theorem dX10_listOf_169 : decode cX10_listOf 169 = .ok (.istore_n 3, 1) := by decide +kernel
theorem dX10_listOf_170 : decode cX10_listOf 170 = .ok (.iinc 7 1, 3) := by decide +kernel
theorem dX10_listOf_173 : decode cX10_listOf 173 = .ok (.goto (-51), 3) := by decide +kernel
theorem dX10_listOf_176 : decode cX10_listOf 176 = .ok (.goto 109, 3) := by decide +kernel
theorem dX10_listOf_179 : decode cX10_listOf 179 = .ok (.iconst 0, 1) := by decide +kernel
theorem dX10_listOf_180 : decode cX10_listOf 180 = .ok (.istore 6, 2) := by decide +kernel
theorem dX10_listOf_182 : decode cX10_listOf 182 = .ok (.iload 6, 2) := by decide +kernel
theorem dX10_listOf_184 : decode cX10_listOf 184 = .ok (.aload_n 0, 1) := by decide +kernel
theorem dX10_listOf_185 : decode cX10_listOf 185 = .ok (.getfield 7, 3) := by decide +kernel
theorem dX10_listOf_188 : decode cX10_listOf 188 = .ok (.sipush 241, 3) := by decide +kernel
theorem dX10_listOf_191 : decode cX10_listOf 191 = .ok (.iload 5, 2) := by decide +kernel
theorem dX10_listOf_193 : decode cX10_listOf 193 = .ok (.iadd, 1) := by decide +kernel
theorem dX10_listOf_194 : decode cX10_listOf 194 = .ok (.iaload, 1) := by decide +kernel
theorem dX10_listOf_195 : decode cX10_listOf 195 = .ok (.if_icmp .ge 57, 3) := by decide +kernel
theorem dX10_listOf_198 : decode cX10_listOf 198 = .ok (.aload_n 0, 1) := by decide +kernel
theorem dX10_listOf_199 : decode cX10_listOf 199 = .ok (.getfield 7, 3) := by decide +kernel
theorem dX10_listOf_202 : decode cX10_listOf 202 = .ok (.sipush 281, 3) := by decide +kernel
theorem dX10_listOf_205 : decode cX10_listOf 205 = .ok (.bipush 12, 2) := by decide +kernel
theorem dX10_listOf_207 : decode cX10_listOf 207 = .ok (.iload 5, 2) := by decide +kernel
theorem dX10_listOf_209 : decode cX10_listOf 209 = .ok (.imul, 1) := by decide +kernel
theorem dX10_listOf_210 : decode cX10_listOf 210 = .ok (.iadd, 1) := by decide +kernel
theorem dX10_listOf_211 : decode cX10_listOf 211 = .ok (.iload 6, 2) := by decide +kernel
theorem dX10_listOf_213 : decode cX10_listOf 213 = .ok (.iadd, 1) := by decide +kernel
theorem dX10_listOf_214 : decode cX10_listOf 214 = .ok (.iaload, 1) := by decide +kernel
theorem dX10_listOf_215 : decode cX10_listOf 215 = .ok (.istore 7, 2) := by decide +kernel
theorem dX10_listOf_217 : decode cX10_listOf 217 = .ok (.iload 7, 2) := by decide +kernel
theorem dX10_listOf_219 : decode cX10_listOf 219 = .ok (.bipush 97, 2) := by decide +kernel
theorem dX10_listOf_221 : decode cX10_listOf 221 = .ok (.bipush 104, 2) := by decide +kernel
theorem dX10_listOf_223 : decode cX10_listOf 223 = .ok (.invokestatic 135, 3) := by decide +kernel
theorem dX10_listOf_226 : decode cX10_listOf 226 = .ok (.ifCond .eq 18, 3) := by decide +kernel
theorem dX10_listOf_229 : decode cX10_listOf 229 = .ok (.aload_n 0, 1) := by decide +kernel
theorem dX10_listOf_230 : decode cX10_listOf 230 = .ok (.iload_n 1, 1) := by decide +kernel
theorem dX10_listOf_231 : decode cX10_listOf 231 = .ok (.iload 7, 2) := by decide +kernel
theorem dX10_listOf_233 : decode cX10_listOf 233 = .ok (.bipush 97, 2) := by decide +kernel
theorem dX10_listOf_235 : decode cX10_listOf 235 = .ok (.isub, 1) := by decide +kernel
theorem dX10_listOf_236 : decode cX10_listOf 236 = .ok (.iload_n 2, 1) := by decide +kernel
theorem dX10_listOf_237 : decode cX10_listOf 237 = .ok (.iload_n 3, 1) := by decide +kernel
theorem dX10_listOf_238 : decode cX10_listOf 238 = .ok (.invokevirtual 285, 3) := by decide +kernel
theorem dX10_listOf_241 : decode cX10_listOf 241 = .ok (.goto 4, 3) := by decide +kernel
theorem dX10_listOf_244 : decode cX10_listOf 244 = .ok (.iload_n 3, 1) := by decide +kernel
theorem dX10_listOf_245 : decode cX10_listOf 245 = .ok (.istore_n 3, 1) := by decide +kernel
theorem dX10_listOf_246 : decode cX10_listOf 246 = .ok (.iinc 6 1, 3) := by decide +kernel
theorem dX10_listOf_249 : decode cX10_listOf 249 = .ok (.goto (-67), 3) := by decide +kernel
theorem dX10_listOf_252 : decode cX10_listOf 252 = .ok (.aload_n 0, 1) := by decide +kernel
theorem dX10_listOf_253 : decode cX10_listOf 253 = .ok (.getfield 31, 3) := by decide +kernel
theorem dX10_listOf_256 : decode cX10_listOf 256 = .ok (.iload 4, 2) := by decide +kernel
theorem dX10_listOf_258 : decode cX10_listOf 258 = .ok (.iaload, 1) := by decide +kernel
theorem dX10_listOf_259 : decode cX10_listOf 259 = .ok (.ifCond .ne 24, 3) := by decide +kernel
theorem dX10_listOf_262 : decode cX10_listOf 262 = .ok (.aload_n 0, 1) := by decide +kernel
theorem dX10_listOf_263 : decode cX10_listOf 263 = .ok (.iload_n 1, 1) := by decide +kernel
theorem dX10_listOf_264 : decode cX10_listOf 264 = .ok (.aload_n 0, 1) := by decide +kernel
theorem dX10_listOf_265 : decode cX10_listOf 265 = .ok (.getfield 7, 3) := by decide +kernel
theorem dX10_listOf_268 : decode cX10_listOf 268 = .ok (.sipush 201, 3) := by decide +kernel
theorem dX10_listOf_271 : decode cX10_listOf 271 = .ok (.iload 5, 2) := by decide +kernel
theorem dX10_listOf_273 : decode cX10_listOf 273 = .ok (.iadd, 1) := by decide +kernel
theorem dX10_listOf_274 : decode cX10_listOf 274 = .ok (.iaload, 1) := by decide +kernel
theorem dX10_listOf_275 : decode cX10_listOf 275 = .ok (.iload_n 2, 1) := by decide +kernel
theorem dX10_listOf_276 : decode cX10_listOf 276 = .ok (.iload_n 3, 1) := by decide +kernel
theorem dX10_listOf_277 : decode cX10_listOf 277 = .ok (.invokevirtual 285, 3) := by decide +kernel
theorem dX10_listOf_280 : decode cX10_listOf 280 = .ok (.goto 4, 3) := by decide +kernel
theorem dX10_listOf_283 : decode cX10_listOf 283 = .ok (.iload_n 3, 1) := by decide +kernel
theorem dX10_listOf_284 : decode cX10_listOf 284 = .ok (.istore_n 3, 1) := by decide +kernel
theorem dX10_listOf_285 : decode cX10_listOf 285 = .ok (.iinc 4 1, 3) := by decide +kernel
theorem dX10_listOf_288 : decode cX10_listOf 288 = .ok (.goto (-265), 3) := by decide +kernel
theorem dX10_listOf_291 : decode cX10_listOf 291 = .ok (.aload_n 0, 1) := by decide +kernel
theorem dX10_listOf_292 : decode cX10_listOf 292 = .ok (.dup, 1) := by decide +kernel
theorem dX10_listOf_293 : decode cX10_listOf 293 = .ok (.getfield 279, 3) := by decide +kernel
theorem dX10_listOf_296 : decode cX10_listOf 296 = .ok (.aload_n 0, 1) := by decide +kernel
theorem dX10_listOf_297 : decode cX10_listOf 297 = .ok (.getfield 282, 3) := by decide +kernel
theorem dX10_listOf_300 : decode cX10_listOf 300 = .ok (.ior, 1) := by decide +kernel
theorem dX10_listOf_301 : decode cX10_listOf 301 = .ok (.putfield 279, 3) := by decide +kernel
theorem dX10_listOf_304 : decode cX10_listOf 304 = .ok (.iload_n 3, 1) := by decide +kernel
theorem dX10_listOf_305 : decode cX10_listOf 305 = .ok (.ireturn, 1) := by decide +kernel
set_option maxHeartbeats 4000000 in
set_option maxRecDepth 10000 in
theorem vX10_listOf_0 {l : Launch} {M : sl_M} {Q : sl_R} {x1 x2 : Int} (H : sl_RM M → sl_rg x1 → sl_rg x2 → (∀ M1, M1 = sl_wr M 1 0 42 0 → (∀ M2, M2 = sl_wr M1 1 0 43 0 → (∀ M3, M3 = sl_wr M2 1 0 44 0 → sl_At l mX10_listOf 23 [(0, vR 1 0), (1, vI x1), (2, vI x2), (3, vI (-1)), (4, vI (M3 1 0 31))] [] M3 Q)))) : sl_At l mX10_listOf 0 [(0, vR 1 0), (1, vI x1), (2, vI x2)] [] M Q := by
  refine sl_At.in (fun hM hls => ?_)
  have g1 : sl_rg x1 := hls _ (List.mem_of_getElem? (i := 1) rfl)
  have g2 : sl_rg x2 := hls _ (List.mem_of_getElem? (i := 2) rfl)
  have H := H hM g1 g2
  refine r_aload_n (k := 0) rfl rfl dX10_listOf_0 ?_
  refine r_iconst dX10_listOf_1 ?_
  refine r_pI (k := 42) (kz := 42) rfl ckX10 rfl rfl (by decide) rfl rfl rfl rfl fl_X10_276 ⟨by decide, by decide⟩ dX10_listOf_2 ?_
  refine r_mm (fun M1 e1 => ?_)
  have H := H M1 e1
  have hM1 : sl_RM M1 := by rw [e1]; exact sl_wr_RM hM ⟨by decide, by decide⟩
  refine r_aload_n (k := 0) rfl rfl dX10_listOf_5 ?_
  refine r_iconst dX10_listOf_6 ?_
  refine r_pI (k := 43) (kz := 43) rfl ckX10 rfl rfl (by decide) rfl rfl rfl rfl fl_X10_279 ⟨by decide, by decide⟩ dX10_listOf_7 ?_
  refine r_mm (fun M2 e2 => ?_)
  have H := H M2 e2
  have hM2 : sl_RM M2 := by rw [e2]; exact sl_wr_RM hM1 ⟨by decide, by decide⟩
  refine r_aload_n (k := 0) rfl rfl dX10_listOf_10 ?_
  refine r_iconst dX10_listOf_11 ?_
  refine r_pI (k := 44) (kz := 44) rfl ckX10 rfl rfl (by decide) rfl rfl rfl rfl fl_X10_282 ⟨by decide, by decide⟩ dX10_listOf_12 ?_
  refine r_mm (fun M3 e3 => ?_)
  have H := H M3 e3
  have hM3 : sl_RM M3 := by rw [e3]; exact sl_wr_RM hM2 ⟨by decide, by decide⟩
  refine r_iconst dX10_listOf_15 ?_
  refine r_istore_n (ls' := [(3, vI (-1)), (0, vR 1 0), (1, vI x1), (2, vI x2)]) ⟨by decide, by decide⟩ rfl (by decide) rfl dX10_listOf_16 ?_
  refine r_aload_n (k := 1) rfl rfl dX10_listOf_17 ?_
  refine r_gI (k := 31) (kz := 31) rfl ckX10 rfl rfl (by decide) rfl rfl fl_X10_246 dX10_listOf_18 ?_
  refine r_istore (ls' := [(4, vI (M3 1 0 31)), (3, vI (-1)), (0, vR 1 0), (1, vI x1), (2, vI x2)]) (hM3 _ _ _) (by decide) rfl dX10_listOf_21 ?_
  exact sl_At.sub [2, 3, 4, 1, 0] rfl H
set_option maxHeartbeats 4000000 in
set_option maxRecDepth 10000 in
theorem vX10_listOf_23 {l : Launch} {M : sl_M} {Q : sl_R} {x1 x2 x3 x4 : Int} (H : sl_RM M → sl_rg x1 → sl_rg x2 → sl_rg x3 → sl_rg x4 → ((M 1 0 32 ≤ x4) → (∀ M2, M2 = sl_wr M 1 0 43 (ior (M 1 0 43) (M 1 0 44)) → Q (some (vI x3)) M2)) ∧ ((¬ (M 1 0 32 ≤ x4)) → (0 ≤ x4 ∧ x4 < 82) ∧ ((M 1 17 x4 ≠ 7) → sl_At l mX10_listOf 182 [(0, vR 1 0), (1, vI x1), (2, vI x2), (3, vI x3), (4, vI x4), (5, vI (M 1 21 x4)), (6, vI 0)] [] M Q) ∧ ((¬ (M 1 17 x4 ≠ 7)) → sl_At l mX10_listOf 65 [(0, vR 1 0), (1, vI x1), (2, vI x2), (3, vI x3), (4, vI x4), (6, vI (M 1 22 x4)), (7, vI 0)] [] M Q))) : sl_At l mX10_listOf 23 [(0, vR 1 0), (1, vI x1), (2, vI x2), (3, vI x3), (4, vI x4)] [] M Q := by
  refine sl_At.in (fun hM hls => ?_)
  have g1 : sl_rg x1 := hls _ (List.mem_of_getElem? (i := 1) rfl)
  have g2 : sl_rg x2 := hls _ (List.mem_of_getElem? (i := 2) rfl)
  have g3 : sl_rg x3 := hls _ (List.mem_of_getElem? (i := 3) rfl)
  have g4 : sl_rg x4 := hls _ (List.mem_of_getElem? (i := 4) rfl)
  have H := H hM g1 g2 g3 g4
  refine r_iload (k := 4) rfl dX10_listOf_23 ?_
  refine r_aload_n (k := 0) rfl rfl dX10_listOf_25 ?_
  refine r_gI (k := 32) (kz := 32) rfl ckX10 rfl rfl (by decide) rfl rfl fl_X10_249 dX10_listOf_26 ?_
  refine r_icmp_ge (tgt := 291) g4 (hM _ _ _) dX10_listOf_29 (by decide) (fun h1 => ?_) (fun h1 => ?_)
  · have H := H.1 h1
    refine r_aload_n (k := 0) rfl rfl dX10_listOf_291 ?_
    refine r_dup rfl dX10_listOf_292 ?_
    refine r_gI (k := 43) (kz := 43) rfl ckX10 rfl rfl (by decide) rfl rfl fl_X10_279 dX10_listOf_293 ?_
    refine r_aload_n (k := 0) rfl rfl dX10_listOf_296 ?_
    refine r_gI (k := 44) (kz := 44) rfl ckX10 rfl rfl (by decide) rfl rfl fl_X10_282 dX10_listOf_297 ?_
    refine r_ior dX10_listOf_300 ?_
    refine r_pI (k := 43) (kz := 43) rfl ckX10 rfl rfl (by decide) rfl rfl rfl rfl fl_X10_279 (rg_ior _ _) dX10_listOf_301 ?_
    refine r_mm (fun M2 e2 => ?_)
    have H := H M2 e2
    have hM2 : sl_RM M2 := by rw [e2]; exact sl_wr_RM hM (rg_ior _ _)
    refine r_iload_n (k := 3) rfl rfl dX10_listOf_304 ?_
    refine r_iret rfl g3 dX10_listOf_305 ?_
    exact H
  · have H := H.2 h1
    refine r_aload_n (k := 0) rfl rfl dX10_listOf_32 ?_
    refine r_getR (k := 20) (o' := 1) (i' := 21) ckX10 rfl rfl (by decide) rfl rfl rfl fl_X10_43 dX10_listOf_33 ?_
    refine r_iload (k := 4) rfl dX10_listOf_36 ?_
    obtain ⟨c3, H⟩ := H
    refine r_iald rfl rfl rfl c3 dX10_listOf_38 ?_
    refine r_istore (ls' := [(5, vI (M 1 21 x4)), (0, vR 1 0), (1, vI x1), (2, vI x2), (3, vI x3), (4, vI x4)]) (hM _ _ _) (by decide) rfl dX10_listOf_39 ?_
    refine r_aload_n (k := 1) rfl rfl dX10_listOf_41 ?_
    refine r_getR (k := 16) (o' := 1) (i' := 17) ckX10 rfl rfl (by decide) rfl rfl rfl fl_X10_31 dX10_listOf_42 ?_
    refine r_iload (k := 5) rfl dX10_listOf_45 ?_
    refine r_iald rfl rfl rfl c3 dX10_listOf_47 ?_
    refine r_bipush dX10_listOf_48 (by decide) ?_
    refine r_icmp_ne (tgt := 179) (hM _ _ _) ⟨by decide, by decide⟩ dX10_listOf_50 (by decide) (fun h4 => ?_) (fun h4 => ?_)
    · have H := H.1 h4
      refine r_iconst dX10_listOf_179 ?_
      refine r_istore (ls' := [(6, vI 0), (5, vI (M 1 21 x4)), (0, vR 1 0), (1, vI x1), (2, vI x2), (3, vI x3), (4, vI x4)]) ⟨by decide, by decide⟩ (by decide) rfl dX10_listOf_180 ?_
      exact sl_At.sub [2, 3, 4, 5, 6, 1, 0] rfl H
    · have H := H.2 h4
      refine r_aload_n (k := 1) rfl rfl dX10_listOf_53 ?_
      refine r_getR (k := 21) (o' := 1) (i' := 22) ckX10 rfl rfl (by decide) rfl rfl rfl fl_X10_46 dX10_listOf_54 ?_
      refine r_iload (k := 5) rfl dX10_listOf_57 ?_
      refine r_iald rfl rfl rfl c3 dX10_listOf_59 ?_
      refine r_istore (ls' := [(6, vI (M 1 22 x4)), (5, vI (M 1 21 x4)), (0, vR 1 0), (1, vI x1), (2, vI x2), (3, vI x3), (4, vI x4)]) (hM _ _ _) (by decide) rfl dX10_listOf_60 ?_
      refine r_iconst dX10_listOf_62 ?_
      refine r_istore (ls' := [(7, vI 0), (6, vI (M 1 22 x4)), (5, vI (M 1 21 x4)), (0, vR 1 0), (1, vI x1), (2, vI x2), (3, vI x3), (4, vI x4)]) ⟨by decide, by decide⟩ (by decide) rfl dX10_listOf_63 ?_
      exact sl_At.sub [3, 4, 5, 6, 7, 1, 0] rfl H
set_option maxHeartbeats 4000000 in
set_option maxRecDepth 10000 in
theorem vX10_listOf_65 {l : Launch} {M : sl_M} {Q : sl_R} {x1 x2 x3 x4 x6 x7 : Int} (H : sl_RM M → sl_rg x1 → sl_rg x2 → sl_rg x3 → sl_rg x4 → sl_rg x6 → sl_rg x7 → (0 ≤ 910 + x6 ∧ 910 + x6 < 990) ∧ ((irem (M 1 1 (910 + x6)) 16 ≤ x7) → sl_At l mX10_listOf 122 [(0, vR 1 0), (1, vI x1), (2, vI x2), (3, vI x3), (4, vI x4), (6, vI x6), (7, vI 0)] [] M Q) ∧ ((¬ (irem (M 1 1 (910 + x6)) 16 ≤ x7)) → sl_RI l mX10_meets [vR 1 0, vI x1, vI (iand (ishr (M 1 1 (910 + x6)) (4 + (4 * x7))) 15), vI x2, vI x3] M (fun y4 M3 => (sl_rg (x7 + 1)) ∧ sl_At l mX10_listOf 65 [(0, vR 1 0), (1, vI x1), (2, vI x2), (3, vI y4), (4, vI x4), (6, vI x6), (7, vI (x7 + 1))] [] M3 Q))) : sl_At l mX10_listOf 65 [(0, vR 1 0), (1, vI x1), (2, vI x2), (3, vI x3), (4, vI x4), (6, vI x6), (7, vI x7)] [] M Q := by
  refine sl_At.in (fun hM hls => ?_)
  have g1 : sl_rg x1 := hls _ (List.mem_of_getElem? (i := 1) rfl)
  have g2 : sl_rg x2 := hls _ (List.mem_of_getElem? (i := 2) rfl)
  have g3 : sl_rg x3 := hls _ (List.mem_of_getElem? (i := 3) rfl)
  have g4 : sl_rg x4 := hls _ (List.mem_of_getElem? (i := 4) rfl)
  have g6 : sl_rg x6 := hls _ (List.mem_of_getElem? (i := 5) rfl)
  have g7 : sl_rg x7 := hls _ (List.mem_of_getElem? (i := 6) rfl)
  have H := H hM g1 g2 g3 g4 g6 g7
  refine r_iload (k := 6) rfl dX10_listOf_65 ?_
  refine r_aload_n (k := 0) rfl rfl dX10_listOf_67 ?_
  refine r_getR (k := 0) (o' := 1) (i' := 1) ckX10 rfl rfl (by decide) rfl rfl rfl fl_X10_7 dX10_listOf_68 ?_
  refine r_sipush dX10_listOf_71 (by decide) ?_
  refine r_iload (k := 5) rfl dX10_listOf_74 ?_
  refine r_iadd dX10_listOf_76 ?_
  obtain ⟨c1, H⟩ := H
  refine r_iald rfl rfl rfl c1 dX10_listOf_77 ?_
  refine r_bipush dX10_listOf_78 (by decide) ?_
  refine r_irem ⟨by decide, by decide⟩ (by decide) dX10_listOf_80 ?_
  refine r_icmp_ge (tgt := 119) g7 (rg_irem _ _) dX10_listOf_81 (by decide) (fun h2 => ?_) (fun h2 => ?_)
  · have H := H.1 h2
    refine r_iconst dX10_listOf_119 ?_
    refine r_istore (ls' := [(7, vI 0), (0, vR 1 0), (1, vI x1), (2, vI x2), (3, vI x3), (4, vI x4), (6, vI x6)]) ⟨by decide, by decide⟩ (by decide) rfl dX10_listOf_120 ?_
    exact sl_At.sub [1, 2, 3, 4, 5, 6, 0] rfl H
  · have H := H.2 h2
    refine r_aload_n (k := 0) rfl rfl dX10_listOf_84 ?_
    refine r_iload_n (k := 1) rfl rfl dX10_listOf_85 ?_
    refine r_aload_n (k := 0) rfl rfl dX10_listOf_86 ?_
    refine r_getR (k := 0) (o' := 1) (i' := 1) ckX10 rfl rfl (by decide) rfl rfl rfl fl_X10_7 dX10_listOf_87 ?_
    refine r_sipush dX10_listOf_90 (by decide) ?_
    refine r_iload (k := 5) rfl dX10_listOf_93 ?_
    refine r_iadd dX10_listOf_95 ?_
    refine r_iald rfl rfl rfl c1 dX10_listOf_96 ?_
    refine r_iconst dX10_listOf_97 ?_
    refine r_iconst dX10_listOf_98 ?_
    refine r_iload (k := 6) rfl dX10_listOf_99 ?_
    refine r_imul dX10_listOf_101 ?_
    refine r_iadd dX10_listOf_102 ?_
    refine r_ishr dX10_listOf_103 ?_
    refine r_bipush dX10_listOf_104 (by decide) ?_
    refine r_iand dX10_listOf_106 ?_
    refine r_iload_n (k := 2) rfl rfl dX10_listOf_107 ?_
    refine r_iload_n (k := 3) rfl rfl dX10_listOf_108 ?_
    refine r_callV (g := mX10_meets) ckX10 rfl rfl rfl rfl mkX10_meets mvX10_meets ml_X10_285 ⟨by decide, by decide⟩ rfl (Nat.le_of_ble_eq_true rfl) rfl (ok_i g1 (ok_i (rg_iand _ _) (ok_i g2 (ok_i g3 ok_n)))) dX10_listOf_109 (sl_afterI (sl_RI.mono (fun y4 M3 gy4 hM3 H => ?_) H))
    refine r_istore_n (ls' := [(3, vI y4), (0, vR 1 0), (1, vI x1), (2, vI x2), (4, vI x4), (6, vI x6), (7, vI x7)]) gy4 rfl (by decide) rfl dX10_listOf_112 ?_
    obtain ⟨c5, H⟩ := H
    refine r_iinc (k := 6) (ls' := [(7, vI (x7 + 1)), (3, vI y4), (0, vR 1 0), (1, vI x1), (2, vI x2), (4, vI x4), (6, vI x6)]) rfl c5 (by decide) rfl dX10_listOf_113 ?_
    refine r_goto (tgt := 65) dX10_listOf_116 (by decide) ?_
    exact sl_At.sub [2, 3, 4, 1, 5, 6, 0] rfl H
set_option maxHeartbeats 4000000 in
set_option maxRecDepth 10000 in
theorem vX10_listOf_122 {l : Launch} {M : sl_M} {Q : sl_R} {x1 x2 x3 x4 x6 x7 : Int} (H : sl_RM M → sl_rg x1 → sl_rg x2 → sl_rg x3 → sl_rg x4 → sl_rg x6 → sl_rg x7 → (0 ≤ 950 + x6 ∧ 950 + x6 < 990) ∧ ((irem (M 1 1 (950 + x6)) 16 ≤ x7) → (sl_rg (x4 + 1)) ∧ sl_At l mX10_listOf 23 [(0, vR 1 0), (1, vI x1), (2, vI x2), (3, vI x3), (4, vI (x4 + 1))] [] M Q) ∧ ((¬ (irem (M 1 1 (950 + x6)) 16 ≤ x7)) → sl_RI l mX10_meets [vR 1 0, vI x1, vI (iand (ishr (M 1 1 (950 + x6)) (4 + (4 * x7))) 15), vI x2, vI x3] M (fun y5 M4 => (sl_rg (x7 + 1)) ∧ sl_At l mX10_listOf 122 [(0, vR 1 0), (1, vI x1), (2, vI x2), (3, vI y5), (4, vI x4), (6, vI x6), (7, vI (x7 + 1))] [] M4 Q))) : sl_At l mX10_listOf 122 [(0, vR 1 0), (1, vI x1), (2, vI x2), (3, vI x3), (4, vI x4), (6, vI x6), (7, vI x7)] [] M Q := by
  refine sl_At.in (fun hM hls => ?_)
  have g1 : sl_rg x1 := hls _ (List.mem_of_getElem? (i := 1) rfl)
  have g2 : sl_rg x2 := hls _ (List.mem_of_getElem? (i := 2) rfl)
  have g3 : sl_rg x3 := hls _ (List.mem_of_getElem? (i := 3) rfl)
  have g4 : sl_rg x4 := hls _ (List.mem_of_getElem? (i := 4) rfl)
  have g6 : sl_rg x6 := hls _ (List.mem_of_getElem? (i := 5) rfl)
  have g7 : sl_rg x7 := hls _ (List.mem_of_getElem? (i := 6) rfl)
  have H := H hM g1 g2 g3 g4 g6 g7
  refine r_iload (k := 6) rfl dX10_listOf_122 ?_
  refine r_aload_n (k := 0) rfl rfl dX10_listOf_124 ?_
  refine r_getR (k := 0) (o' := 1) (i' := 1) ckX10 rfl rfl (by decide) rfl rfl rfl fl_X10_7 dX10_listOf_125 ?_
  refine r_sipush dX10_listOf_128 (by decide) ?_
  refine r_iload (k := 5) rfl dX10_listOf_131 ?_
  refine r_iadd dX10_listOf_133 ?_
  obtain ⟨c1, H⟩ := H
  refine r_iald rfl rfl rfl c1 dX10_listOf_134 ?_
  refine r_bipush dX10_listOf_135 (by decide) ?_
  refine r_irem ⟨by decide, by decide⟩ (by decide) dX10_listOf_137 ?_
  refine r_icmp_ge (tgt := 176) g7 (rg_irem _ _) dX10_listOf_138 (by decide) (fun h2 => ?_) (fun h2 => ?_)
  · have H := H.1 h2
    refine r_goto (tgt := 285) dX10_listOf_176 (by decide) ?_
    obtain ⟨c3, H⟩ := H
    refine r_iinc (k := 4) (ls' := [(4, vI (x4 + 1)), (0, vR 1 0), (1, vI x1), (2, vI x2), (3, vI x3), (6, vI x6), (7, vI x7)]) rfl c3 (by decide) rfl dX10_listOf_285 ?_
    refine r_goto (tgt := 23) dX10_listOf_288 (by decide) ?_
    exact sl_At.sub [1, 2, 3, 4, 0] rfl H
  · have H := H.2 h2
    refine r_aload_n (k := 0) rfl rfl dX10_listOf_141 ?_
    refine r_iload_n (k := 1) rfl rfl dX10_listOf_142 ?_
    refine r_aload_n (k := 0) rfl rfl dX10_listOf_143 ?_
    refine r_getR (k := 0) (o' := 1) (i' := 1) ckX10 rfl rfl (by decide) rfl rfl rfl fl_X10_7 dX10_listOf_144 ?_
    refine r_sipush dX10_listOf_147 (by decide) ?_
    refine r_iload (k := 5) rfl dX10_listOf_150 ?_
    refine r_iadd dX10_listOf_152 ?_
    refine r_iald rfl rfl rfl c1 dX10_listOf_153 ?_
    refine r_iconst dX10_listOf_154 ?_
    refine r_iconst dX10_listOf_155 ?_
    refine r_iload (k := 6) rfl dX10_listOf_156 ?_
    refine r_imul dX10_listOf_158 ?_
    refine r_iadd dX10_listOf_159 ?_
    refine r_ishr dX10_listOf_160 ?_
    refine r_bipush dX10_listOf_161 (by decide) ?_
    refine r_iand dX10_listOf_163 ?_
    refine r_iload_n (k := 2) rfl rfl dX10_listOf_164 ?_
    refine r_iload_n (k := 3) rfl rfl dX10_listOf_165 ?_
    refine r_callV (g := mX10_meets) ckX10 rfl rfl rfl rfl mkX10_meets mvX10_meets ml_X10_285 ⟨by decide, by decide⟩ rfl (Nat.le_of_ble_eq_true rfl) rfl (ok_i g1 (ok_i (rg_iand _ _) (ok_i g2 (ok_i g3 ok_n)))) dX10_listOf_166 (sl_afterI (sl_RI.mono (fun y5 M4 gy5 hM4 H => ?_) H))
    refine r_istore_n (ls' := [(3, vI y5), (0, vR 1 0), (1, vI x1), (2, vI x2), (4, vI x4), (6, vI x6), (7, vI x7)]) gy5 rfl (by decide) rfl dX10_listOf_169 ?_
    obtain ⟨c6, H⟩ := H
    refine r_iinc (k := 6) (ls' := [(7, vI (x7 + 1)), (3, vI y5), (0, vR 1 0), (1, vI x1), (2, vI x2), (4, vI x4), (6, vI x6)]) rfl c6 (by decide) rfl dX10_listOf_170 ?_
    refine r_goto (tgt := 122) dX10_listOf_173 (by decide) ?_
    exact sl_At.sub [2, 3, 4, 1, 5, 6, 0] rfl H
set_option maxHeartbeats 4000000 in
set_option maxRecDepth 10000 in
theorem vX10_listOf_182 {l : Launch} {M : sl_M} {Q : sl_R} {x1 x2 x3 x4 x5 x6 : Int} (H : sl_RM M → sl_rg x1 → sl_rg x2 → sl_rg x3 → sl_rg x4 → sl_rg x5 → sl_rg x6 → (0 ≤ 241 + x5 ∧ 241 + x5 < 990) ∧ ((M 1 1 (241 + x5) ≤ x6) → (0 ≤ x4 ∧ x4 < 82) ∧ ((M 1 17 x4 ≠ 0) → (sl_rg (x4 + 1)) ∧ sl_At l mX10_listOf 23 [(0, vR 1 0), (1, vI x1), (2, vI x2), (3, vI x3), (4, vI (x4 + 1))] [] M Q) ∧ ((¬ (M 1 17 x4 ≠ 0)) → (0 ≤ 201 + x5 ∧ 201 + x5 < 990) ∧ sl_RI l mX10_meets [vR 1 0, vI x1, vI (M 1 1 (201 + x5)), vI x2, vI x3] M (fun y8 M7 => (sl_rg (x4 + 1)) ∧ sl_At l mX10_listOf 23 [(0, vR 1 0), (1, vI x1), (2, vI x2), (3, vI y8), (4, vI (x4 + 1))] [] M7 Q))) ∧ ((¬ (M 1 1 (241 + x5) ≤ x6)) → (0 ≤ (281 + (12 * x5)) + x6 ∧ (281 + (12 * x5)) + x6 < 990) ∧ ((¬ (97 ≤ (M 1 1 ((281 + (12 * x5)) + x6)) ∧ (M 1 1 ((281 + (12 * x5)) + x6)) ≤ 104)) → (sl_rg (x6 + 1)) ∧ sl_At l mX10_listOf 182 [(0, vR 1 0), (1, vI x1), (2, vI x2), (3, vI x3), (4, vI x4), (5, vI x5), (6, vI (x6 + 1))] [] M Q) ∧ ((97 ≤ (M 1 1 ((281 + (12 * x5)) + x6)) ∧ (M 1 1 ((281 + (12 * x5)) + x6)) ≤ 104) → (sl_rg ((M 1 1 ((281 + (12 * x5)) + x6)) - 97)) ∧ sl_RI l mX10_meets [vR 1 0, vI x1, vI ((M 1 1 ((281 + (12 * x5)) + x6)) - 97), vI x2, vI x3] M (fun y15 M14 => (sl_rg (x6 + 1)) ∧ sl_At l mX10_listOf 182 [(0, vR 1 0), (1, vI x1), (2, vI x2), (3, vI y15), (4, vI x4), (5, vI x5), (6, vI (x6 + 1))] [] M14 Q)))) : sl_At l mX10_listOf 182 [(0, vR 1 0), (1, vI x1), (2, vI x2), (3, vI x3), (4, vI x4), (5, vI x5), (6, vI x6)] [] M Q := by
  refine sl_At.in (fun hM hls => ?_)
  have g1 : sl_rg x1 := hls _ (List.mem_of_getElem? (i := 1) rfl)
  have g2 : sl_rg x2 := hls _ (List.mem_of_getElem? (i := 2) rfl)
  have g3 : sl_rg x3 := hls _ (List.mem_of_getElem? (i := 3) rfl)
  have g4 : sl_rg x4 := hls _ (List.mem_of_getElem? (i := 4) rfl)
  have g5 : sl_rg x5 := hls _ (List.mem_of_getElem? (i := 5) rfl)
  have g6 : sl_rg x6 := hls _ (List.mem_of_getElem? (i := 6) rfl)
  have H := H hM g1 g2 g3 g4 g5 g6
  refine r_iload (k := 6) rfl dX10_listOf_182 ?_
  refine r_aload_n (k := 0) rfl rfl dX10_listOf_184 ?_
  refine r_getR (k := 0) (o' := 1) (i' := 1) ckX10 rfl rfl (by decide) rfl rfl rfl fl_X10_7 dX10_listOf_185 ?_
  refine r_sipush dX10_listOf_188 (by decide) ?_
  refine r_iload (k := 5) rfl dX10_listOf_191 ?_
  refine r_iadd dX10_listOf_193 ?_
  obtain ⟨c1, H⟩ := H
  refine r_iald rfl rfl rfl c1 dX10_listOf_194 ?_
  refine r_icmp_ge (tgt := 252) g6 (hM _ _ _) dX10_listOf_195 (by decide) (fun h2 => ?_) (fun h2 => ?_)
  · have H := H.1 h2
    refine r_aload_n (k := 0) rfl rfl dX10_listOf_252 ?_
    refine r_getR (k := 16) (o' := 1) (i' := 17) ckX10 rfl rfl (by decide) rfl rfl rfl fl_X10_31 dX10_listOf_253 ?_
    refine r_iload (k := 4) rfl dX10_listOf_256 ?_
    obtain ⟨c3, H⟩ := H
    refine r_iald rfl rfl rfl c3 dX10_listOf_258 ?_
    refine r_if_ne (tgt := 283) (hM _ _ _) dX10_listOf_259 (by decide) (fun h4 => ?_) (fun h4 => ?_)
    · have H := H.1 h4
      refine r_iload_n (k := 3) rfl rfl dX10_listOf_283 ?_
      refine r_istore_n (ls' := [(3, vI x3), (0, vR 1 0), (1, vI x1), (2, vI x2), (4, vI x4), (5, vI x5), (6, vI x6)]) g3 rfl (by decide) rfl dX10_listOf_284 ?_
      obtain ⟨c5, H⟩ := H
      refine r_iinc (k := 4) (ls' := [(4, vI (x4 + 1)), (3, vI x3), (0, vR 1 0), (1, vI x1), (2, vI x2), (5, vI x5), (6, vI x6)]) rfl c5 (by decide) rfl dX10_listOf_285 ?_
      refine r_goto (tgt := 23) dX10_listOf_288 (by decide) ?_
      exact sl_At.sub [2, 3, 4, 1, 0] rfl H
    · have H := H.2 h4
      refine r_aload_n (k := 0) rfl rfl dX10_listOf_262 ?_
      refine r_iload_n (k := 1) rfl rfl dX10_listOf_263 ?_
      refine r_aload_n (k := 0) rfl rfl dX10_listOf_264 ?_
      refine r_getR (k := 0) (o' := 1) (i' := 1) ckX10 rfl rfl (by decide) rfl rfl rfl fl_X10_7 dX10_listOf_265 ?_
      refine r_sipush dX10_listOf_268 (by decide) ?_
      refine r_iload (k := 5) rfl dX10_listOf_271 ?_
      refine r_iadd dX10_listOf_273 ?_
      obtain ⟨c6, H⟩ := H
      refine r_iald rfl rfl rfl c6 dX10_listOf_274 ?_
      refine r_iload_n (k := 2) rfl rfl dX10_listOf_275 ?_
      refine r_iload_n (k := 3) rfl rfl dX10_listOf_276 ?_
      refine r_callV (g := mX10_meets) ckX10 rfl rfl rfl rfl mkX10_meets mvX10_meets ml_X10_285 ⟨by decide, by decide⟩ rfl (Nat.le_of_ble_eq_true rfl) rfl (ok_i g1 (ok_i (hM _ _ _) (ok_i g2 (ok_i g3 ok_n)))) dX10_listOf_277 (sl_afterI (sl_RI.mono (fun y8 M7 gy8 hM7 H => ?_) H))
      refine r_goto (tgt := 284) dX10_listOf_280 (by decide) ?_
      refine r_istore_n (ls' := [(3, vI y8), (0, vR 1 0), (1, vI x1), (2, vI x2), (4, vI x4), (5, vI x5), (6, vI x6)]) gy8 rfl (by decide) rfl dX10_listOf_284 ?_
      obtain ⟨c9, H⟩ := H
      refine r_iinc (k := 4) (ls' := [(4, vI (x4 + 1)), (3, vI y8), (0, vR 1 0), (1, vI x1), (2, vI x2), (5, vI x5), (6, vI x6)]) rfl c9 (by decide) rfl dX10_listOf_285 ?_
      refine r_goto (tgt := 23) dX10_listOf_288 (by decide) ?_
      exact sl_At.sub [2, 3, 4, 1, 0] rfl H
  · have H := H.2 h2
    refine r_aload_n (k := 0) rfl rfl dX10_listOf_198 ?_
    refine r_getR (k := 0) (o' := 1) (i' := 1) ckX10 rfl rfl (by decide) rfl rfl rfl fl_X10_7 dX10_listOf_199 ?_
    refine r_sipush dX10_listOf_202 (by decide) ?_
    refine r_bipush dX10_listOf_205 (by decide) ?_
    refine r_iload (k := 5) rfl dX10_listOf_207 ?_
    refine r_imul dX10_listOf_209 ?_
    refine r_iadd dX10_listOf_210 ?_
    refine r_iload (k := 6) rfl dX10_listOf_211 ?_
    refine r_iadd dX10_listOf_213 ?_
    obtain ⟨c10, H⟩ := H
    refine r_iald rfl rfl rfl c10 dX10_listOf_214 ?_
    refine r_istore (ls' := [(7, vI (M 1 1 ((281 + (12 * x5)) + x6))), (0, vR 1 0), (1, vI x1), (2, vI x2), (3, vI x3), (4, vI x4), (5, vI x5), (6, vI x6)]) (hM _ _ _) (by decide) rfl dX10_listOf_215 ?_
    refine r_iload (k := 0) rfl dX10_listOf_217 ?_
    refine r_bipush dX10_listOf_219 (by decide) ?_
    refine r_bipush dX10_listOf_221 (by decide) ?_
    refine r_callS (g := mX10_in) rfl mkX10_in msX10_in ml_X10_135 ⟨by decide, by decide⟩ rfl (Nat.le_of_ble_eq_true rfl) rfl (ok_i (hM _ _ _) (ok_i ⟨by decide, by decide⟩ (ok_i ⟨by decide, by decide⟩ ok_n))) dX10_listOf_223 (sl_afterI (sl_RI.by kX10_in ?_))
    refine r_if_eq (tgt := 244) rg_b dX10_listOf_226 (by decide) (fun h11 => ?_) (fun h11 => ?_)
    · have H := H.1 (b_eq0.mp h11)
      refine r_iload_n (k := 4) rfl rfl dX10_listOf_244 ?_
      refine r_istore_n (ls' := [(3, vI x3), (7, vI (M 1 1 ((281 + (12 * x5)) + x6))), (0, vR 1 0), (1, vI x1), (2, vI x2), (4, vI x4), (5, vI x5), (6, vI x6)]) g3 rfl (by decide) rfl dX10_listOf_245 ?_
      obtain ⟨c12, H⟩ := H
      refine r_iinc (k := 7) (ls' := [(6, vI (x6 + 1)), (3, vI x3), (7, vI (M 1 1 ((281 + (12 * x5)) + x6))), (0, vR 1 0), (1, vI x1), (2, vI x2), (4, vI x4), (5, vI x5)]) rfl c12 (by decide) rfl dX10_listOf_246 ?_
      refine r_goto (tgt := 182) dX10_listOf_249 (by decide) ?_
      exact sl_At.sub [3, 4, 5, 1, 6, 7, 0] rfl H
    · have H := H.2 (b_ne0.mp h11)
      refine r_aload_n (k := 1) rfl rfl dX10_listOf_229 ?_
      refine r_iload_n (k := 2) rfl rfl dX10_listOf_230 ?_
      refine r_iload (k := 0) rfl dX10_listOf_231 ?_
      refine r_bipush dX10_listOf_233 (by decide) ?_
      refine r_isub dX10_listOf_235 ?_
      refine r_iload_n (k := 3) rfl rfl dX10_listOf_236 ?_
      refine r_iload_n (k := 4) rfl rfl dX10_listOf_237 ?_
      obtain ⟨c13, H⟩ := H
      refine r_callV (g := mX10_meets) ckX10 rfl rfl rfl rfl mkX10_meets mvX10_meets ml_X10_285 ⟨by decide, by decide⟩ rfl (Nat.le_of_ble_eq_true rfl) rfl (ok_i g1 (ok_i c13 (ok_i g2 (ok_i g3 ok_n)))) dX10_listOf_238 (sl_afterI (sl_RI.mono (fun y15 M14 gy15 hM14 H => ?_) H))
      refine r_goto (tgt := 245) dX10_listOf_241 (by decide) ?_
      refine r_istore_n (ls' := [(3, vI y15), (7, vI (M 1 1 ((281 + (12 * x5)) + x6))), (0, vR 1 0), (1, vI x1), (2, vI x2), (4, vI x4), (5, vI x5), (6, vI x6)]) gy15 rfl (by decide) rfl dX10_listOf_245 ?_
      obtain ⟨c16, H⟩ := H
      refine r_iinc (k := 7) (ls' := [(6, vI (x6 + 1)), (3, vI y15), (7, vI (M 1 1 ((281 + (12 * x5)) + x6))), (0, vR 1 0), (1, vI x1), (2, vI x2), (4, vI x4), (5, vI x5)]) rfl c16 (by decide) rfl dX10_listOf_246 ?_
      refine r_goto (tgt := 182) dX10_listOf_249 (by decide) ?_
      exact sl_At.sub [3, 4, 5, 1, 6, 7, 0] rfl H
theorem eX10_listOf {l : Launch} {M : sl_M} {Q : sl_R} {x1 x2 : Int} (k : sl_At l mX10_listOf 0 [(0, vR 1 0), (1, vI x1), (2, vI x2)] [] M Q) : sl_Runs l mX10_listOf [vR 1 0, vI x1, vI x2] M Q := sl_Runs.of (ls := [(0, vR 1 0), (1, vI x1), (2, vI x2)]) rfl rfl (fun _ => rfl) (fun _ => Nat.le_of_ble_eq_true rfl) rfl (k)
theorem dX10_meets_0 : decode cX10_meets 0 = .ok (.iload_n 1, 1) := by decide +kernel
theorem dX10_meets_1 : decode cX10_meets 1 = .ok (.aload_n 0, 1) := by decide +kernel
theorem dX10_meets_2 : decode cX10_meets 2 = .ok (.getfield 276, 3) := by decide +kernel
theorem dX10_meets_5 : decode cX10_meets 5 = .ok (.iconst (-1), 1) := by decide +kernel
theorem dX10_meets_6 : decode cX10_meets 6 = .ok (.ixor, 1) := by decide +kernel
theorem dX10_meets_7 : decode cX10_meets 7 = .ok (.iand, 1) := by decide +kernel
theorem dX10_meets_8 : decode cX10_meets 8 = .ok (.iload_n 2, 1) := by decide +kernel
theorem dX10_meets_9 : decode cX10_meets 9 = .ok (.invokestatic 218, 3) := by decide +kernel
theorem dX10_meets_12 : decode cX10_meets 12 = .ok (.ifCond .ne 6, 3) := by decide +kernel
theorem dX10_meets_15 : decode cX10_meets 15 = .ok (.iload 4, 2) := by decide +kernel
theorem dX10_meets_17 : decode cX10_meets 17 = .ok (.ireturn, 1) := by decide +kernel
theorem dX10_meets_18 : decode cX10_meets 18 = .ok (.aload_n 0, 1) := by decide +kernel
theorem dX10_meets_19 : decode cX10_meets 19 = .ok (.getfield 282, 3) := by decide +kernel
theorem dX10_meets_22 : decode cX10_meets 22 = .ok (.iload_n 3, 1) := by decide +kernel
theorem dX10_meets_23 : decode cX10_meets 23 = .ok (.if_icmp .ne 7, 3) := by decide +kernel
theorem dX10_meets_26 : decode cX10_meets 26 = .ok (.iload_n 2, 1) := by decide +kernel
theorem dX10_meets_27 : decode cX10_meets 27 = .ok (.goto 5, 3) := by decide +kernel
theorem dX10_meets_30 : decode cX10_meets 30 = .ok (.iload 4, 2) := by decide +kernel
theorem dX10_meets_32 : decode cX10_meets 32 = .ok (.istore 5, 2) := by decide +kernel
theorem dX10_meets_34 : decode cX10_meets 34 = .ok (.aload_n 0, 1) := by decide +kernel
theorem dX10_meets_35 : decode cX10_meets 35 = .ok (.iconst 1, 1) := by decide +kernel
theorem dX10_meets_36 : decode cX10_meets 36 = .ok (.iload_n 2, 1) := by decide +kernel
theorem dX10_meets_37 : decode cX10_meets 37 = .ok (.ishl, 1) := by decide +kernel
theorem dX10_meets_38 : decode cX10_meets 38 = .ok (.invokevirtual 289, 3) := by decide +kernel
theorem dX10_meets_41 : decode cX10_meets 41 = .ok (.iload 5, 2) := by decide +kernel
theorem dX10_meets_43 : decode cX10_meets 43 = .ok (.ireturn, 1) := by decide +kernel
set_option maxHeartbeats 4000000 in
set_option maxRecDepth 10000 in
theorem vX10_meets_0 {l : Launch} {M : sl_M} {Q : sl_R} {x1 x2 x3 x4 : Int} (H : sl_RM M → sl_rg x1 → sl_rg x2 → sl_rg x3 → sl_rg x4 → ((iand (ishr (iand x1 (ixor (M 1 0 42) (-1))) x2) 1 = 1) → (∀ y3 : Int, y3 = (if M 1 0 44 ≠ x3 then x4 else x2) → sl_RV l mX10_lists [vR 1 0, vI (ishl 1 x2)] M (fun M4 => Q (some (vI y3)) M4))) ∧ ((¬ (iand (ishr (iand x1 (ixor (M 1 0 42) (-1))) x2) 1 = 1)) → Q (some (vI x4)) M)) : sl_At l mX10_meets 0 [(0, vR 1 0), (1, vI x1), (2, vI x2), (3, vI x3), (4, vI x4)] [] M Q := by
  refine sl_At.in (fun hM hls => ?_)
  have g1 : sl_rg x1 := hls _ (List.mem_of_getElem? (i := 1) rfl)
  have g2 : sl_rg x2 := hls _ (List.mem_of_getElem? (i := 2) rfl)
  have g3 : sl_rg x3 := hls _ (List.mem_of_getElem? (i := 3) rfl)
  have g4 : sl_rg x4 := hls _ (List.mem_of_getElem? (i := 4) rfl)
  have H := H hM g1 g2 g3 g4
  refine r_iload_n (k := 1) rfl rfl dX10_meets_0 ?_
  refine r_aload_n (k := 0) rfl rfl dX10_meets_1 ?_
  refine r_gI (k := 42) (kz := 42) rfl ckX10 rfl rfl (by decide) rfl rfl fl_X10_276 dX10_meets_2 ?_
  refine r_iconst dX10_meets_5 ?_
  refine r_ixor dX10_meets_6 ?_
  refine r_iand dX10_meets_7 ?_
  refine r_iload_n (k := 2) rfl rfl dX10_meets_8 ?_
  refine r_callS (g := mX10_has) rfl mkX10_has msX10_has ml_X10_218 ⟨by decide, by decide⟩ rfl (Nat.le_of_ble_eq_true rfl) rfl (ok_i (rg_iand _ _) (ok_i g2 ok_n)) dX10_meets_9 (sl_afterI (sl_RI.by kX10_has ?_))
  refine r_if_ne (tgt := 18) rg_b dX10_meets_12 (by decide) (fun h1 => ?_) (fun h1 => ?_)
  · have H := H.1 (b_ne0.mp h1)
    refine r_aload_n (k := 0) rfl rfl dX10_meets_18 ?_
    refine r_gI (k := 44) (kz := 44) rfl ckX10 rfl rfl (by decide) rfl rfl fl_X10_282 dX10_meets_19 ?_
    refine r_iload_n (k := 3) rfl rfl dX10_meets_22 ?_
    have J : sl_At l mX10_meets 32 [(0, vR 1 0), (1, vI x1), (2, vI x2), (3, vI x3), (4, vI x4)] [vI (if M 1 0 44 ≠ x3 then x4 else x2)] M Q := by
      refine r_nm (fun y3 fy3 => ?_)
      have H := H y3 fy3
      have gy3 : sl_rg y3 := by rw [fy3]; exact (sl_rgite g4 g2)
      refine r_istore (ls' := [(5, vI y3), (0, vR 1 0), (1, vI x1), (2, vI x2), (3, vI x3), (4, vI x4)]) gy3 (by decide) rfl dX10_meets_32 ?_
      refine r_aload_n (k := 1) rfl rfl dX10_meets_34 ?_
      refine r_iconst dX10_meets_35 ?_
      refine r_iload_n (k := 3) rfl rfl dX10_meets_36 ?_
      refine r_ishl dX10_meets_37 ?_
      refine r_callV (g := mX10_lists) ckX10 rfl rfl rfl rfl mkX10_lists mvX10_lists ml_X10_289 ⟨by decide, by decide⟩ rfl (Nat.le_of_ble_eq_true rfl) rfl (ok_i (rg_ishl _ _) ok_n) dX10_meets_38 (sl_afterV (sl_RV.mono (fun M4 hM4 H => ?_) H))
      refine r_iload (k := 0) rfl dX10_meets_41 ?_
      refine r_iret rfl gy3 dX10_meets_43 ?_
      exact H
    refine r_icmp_ne (tgt := 30) (hM _ _ _) g3 dX10_meets_23 (by decide) (fun h2 => ?_) (fun h2 => ?_)
    · refine r_iload (k := 4) rfl dX10_meets_30 ?_
      rw [if_pos h2] at J
      exact J
    · refine r_iload_n (k := 2) rfl rfl dX10_meets_26 ?_
      refine r_goto (tgt := 32) dX10_meets_27 (by decide) ?_
      rw [if_neg h2] at J
      exact J
  · have H := H.2 (b_eq0.mp (Decidable.of_not_not h1))
    refine r_iload (k := 4) rfl dX10_meets_15 ?_
    refine r_iret rfl g4 dX10_meets_17 ?_
    exact H
theorem eX10_meets {l : Launch} {M : sl_M} {Q : sl_R} {x1 x2 x3 x4 : Int} (k : sl_At l mX10_meets 0 [(0, vR 1 0), (1, vI x1), (2, vI x2), (3, vI x3), (4, vI x4)] [] M Q) : sl_Runs l mX10_meets [vR 1 0, vI x1, vI x2, vI x3, vI x4] M Q := sl_Runs.of (ls := [(0, vR 1 0), (1, vI x1), (2, vI x2), (3, vI x3), (4, vI x4)]) rfl rfl (fun _ => rfl) (fun _ => Nat.le_of_ble_eq_true rfl) rfl (k)
theorem dX10_span_0 : decode cX10_span 0 = .ok (.aload_n 0, 1) := by decide +kernel
theorem dX10_span_1 : decode cX10_span 1 = .ok (.invokevirtual 292, 3) := by decide +kernel
theorem dX10_span_4 : decode cX10_span 4 = .ok (.iload_n 3, 1) := by decide +kernel
theorem dX10_span_5 : decode cX10_span 5 = .ok (.iconst 0, 1) := by decide +kernel
theorem dX10_span_6 : decode cX10_span 6 = .ok (.iconst 3, 1) := by decide +kernel
theorem dX10_span_7 : decode cX10_span 7 = .ok (.invokestatic 135, 3) := by decide +kernel
theorem dX10_span_10 : decode cX10_span 10 = .ok (.ifCond .ne 8, 3) := by decide +kernel
theorem dX10_span_13 : decode cX10_span 13 = .ok (.aload_n 0, 1) := by decide +kernel
theorem dX10_span_14 : decode cX10_span 14 = .ok (.invokevirtual 139, 3) := by decide +kernel
theorem dX10_span_17 : decode cX10_span 17 = .ok (.ireturn, 1) := by decide +kernel
theorem dX10_span_18 : decode cX10_span 18 = .ok (.aload_n 0, 1) := by decide +kernel
theorem dX10_span_19 : decode cX10_span 19 = .ok (.iload_n 1, 1) := by decide +kernel
theorem dX10_span_20 : decode cX10_span 20 = .ok (.iload_n 2, 1) := by decide +kernel
theorem dX10_span_21 : decode cX10_span 21 = .ok (.invokevirtual 295, 3) := by decide +kernel
theorem dX10_span_24 : decode cX10_span 24 = .ok (.ifCond .ne 8, 3) := by decide +kernel
theorem dX10_span_27 : decode cX10_span 27 = .ok (.aload_n 0, 1) := by decide +kernel
theorem dX10_span_28 : decode cX10_span 28 = .ok (.invokevirtual 298, 3) := by decide +kernel
theorem dX10_span_31 : decode cX10_span 31 = .ok (.ireturn, 1) := by decide +kernel
theorem dX10_span_32 : decode cX10_span 32 = .ok (.aload_n 0, 1) := by decide +kernel
theorem dX10_span_33 : decode cX10_span 33 = .ok (.iload_n 1, 1) := by decide +kernel
theorem dX10_span_34 : decode cX10_span 34 = .ok (.iload_n 2, 1) := by decide +kernel
theorem dX10_span_35 : decode cX10_span 35 = .ok (.invokevirtual 301, 3) := by decide +kernel
theorem dX10_span_38 : decode cX10_span 38 = .ok (.iload_n 3, 1) := by decide +kernel
theorem dX10_span_39 : decode cX10_span 39 = .ok (.ifCond .ne 10, 3) := by decide +kernel
theorem dX10_span_42 : decode cX10_span 42 = .ok (.aload_n 0, 1) := by decide +kernel
theorem dX10_span_43 : decode cX10_span 43 = .ok (.getfield 252, 3) := by decide +kernel
theorem dX10_span_46 : decode cX10_span 46 = .ok (.goto 31, 3) := by decide +kernel
theorem dX10_span_49 : decode cX10_span 49 = .ok (.iload_n 3, 1) := by decide +kernel
theorem dX10_span_50 : decode cX10_span 50 = .ok (.iconst 1, 1) := by decide +kernel
theorem dX10_span_51 : decode cX10_span 51 = .ok (.if_icmp .ne 10, 3) := by decide +kernel
theorem dX10_span_54 : decode cX10_span 54 = .ok (.aload_n 0, 1) := by decide +kernel
theorem dX10_span_55 : decode cX10_span 55 = .ok (.getfield 261, 3) := by decide +kernel
theorem dX10_span_58 : decode cX10_span 58 = .ok (.goto 19, 3) := by decide +kernel
theorem dX10_span_61 : decode cX10_span 61 = .ok (.iload_n 3, 1) := by decide +kernel
theorem dX10_span_62 : decode cX10_span 62 = .ok (.iconst 2, 1) := by decide +kernel
theorem dX10_span_63 : decode cX10_span 63 = .ok (.if_icmp .ne 10, 3) := by decide +kernel
theorem dX10_span_66 : decode cX10_span 66 = .ok (.aload_n 0, 1) := by decide +kernel
theorem dX10_span_67 : decode cX10_span 67 = .ok (.getfield 267, 3) := by decide +kernel
theorem dX10_span_70 : decode cX10_span 70 = .ok (.goto 7, 3) := by decide +kernel
theorem dX10_span_73 : decode cX10_span 73 = .ok (.aload_n 0, 1) := by decide +kernel
theorem dX10_span_74 : decode cX10_span 74 = .ok (.getfield 273, 3) := by decide +kernel
theorem dX10_span_77 : decode cX10_span 77 = .ok (.ireturn, 1) := by decide +kernel
set_option maxHeartbeats 4000000 in
set_option maxRecDepth 10000 in
theorem vX10_span_0 {l : Launch} {M : sl_M} {Q : sl_R} {x1 x2 x3 : Int} (H : sl_RM M → sl_rg x1 → sl_rg x2 → sl_rg x3 → sl_RV l mX10_lays [vR 1 0] M (fun M1 => ((0 ≤ x3 ∧ x3 ≤ 3) → sl_RI l mX10_isSpan [vR 1 0, vI x1, vI x2] M1 (fun y4 M3 => ((y4 ≠ 0) → sl_RV l mX10_laysSpan [vR 1 0, vI x1, vI x2] M3 (fun M6 => Q (some (vI (if x3 ≠ 0 then (if x3 ≠ 1 then (if x3 ≠ 2 then M6 1 0 37 else M6 1 0 35) else M6 1 0 34) else M6 1 0 33))) M6)) ∧ ((¬ (y4 ≠ 0)) → sl_RI l mX10_no [vR 1 0] M3 (fun y11 M10 => Q (some (vI y11)) M10)))) ∧ ((¬ (0 ≤ x3 ∧ x3 ≤ 3)) → sl_RI l mX10_bad [vR 1 0] M1 (fun y13 M12 => Q (some (vI y13)) M12)))) : sl_At l mX10_span 0 [(0, vR 1 0), (1, vI x1), (2, vI x2), (3, vI x3)] [] M Q := by
  refine sl_At.in (fun hM hls => ?_)
  have g1 : sl_rg x1 := hls _ (List.mem_of_getElem? (i := 1) rfl)
  have g2 : sl_rg x2 := hls _ (List.mem_of_getElem? (i := 2) rfl)
  have g3 : sl_rg x3 := hls _ (List.mem_of_getElem? (i := 3) rfl)
  have H := H hM g1 g2 g3
  refine r_aload_n (k := 0) rfl rfl dX10_span_0 ?_
  refine r_callV (g := mX10_lays) ckX10 rfl rfl rfl rfl mkX10_lays mvX10_lays ml_X10_292 ⟨by decide, by decide⟩ rfl (Nat.le_of_ble_eq_true rfl) rfl ok_n dX10_span_1 (sl_afterV (sl_RV.mono (fun M1 hM1 H => ?_) H))
  refine r_iload_n (k := 3) rfl rfl dX10_span_4 ?_
  refine r_iconst dX10_span_5 ?_
  refine r_iconst dX10_span_6 ?_
  refine r_callS (g := mX10_in) rfl mkX10_in msX10_in ml_X10_135 ⟨by decide, by decide⟩ rfl (Nat.le_of_ble_eq_true rfl) rfl (ok_i g3 (ok_i ⟨by decide, by decide⟩ (ok_i ⟨by decide, by decide⟩ ok_n))) dX10_span_7 (sl_afterI (sl_RI.by kX10_in ?_))
  refine r_if_ne (tgt := 18) rg_b dX10_span_10 (by decide) (fun h2 => ?_) (fun h2 => ?_)
  · have H := H.1 (b_ne0.mp h2)
    refine r_aload_n (k := 0) rfl rfl dX10_span_18 ?_
    refine r_iload_n (k := 1) rfl rfl dX10_span_19 ?_
    refine r_iload_n (k := 2) rfl rfl dX10_span_20 ?_
    refine r_callV (g := mX10_isSpan) ckX10 rfl rfl rfl rfl mkX10_isSpan mvX10_isSpan ml_X10_295 ⟨by decide, by decide⟩ rfl (Nat.le_of_ble_eq_true rfl) rfl (ok_i g1 (ok_i g2 ok_n)) dX10_span_21 (sl_afterI (sl_RI.mono (fun y4 M3 gy4 hM3 H => ?_) H))
    refine r_if_ne (tgt := 32) gy4 dX10_span_24 (by decide) (fun h5 => ?_) (fun h5 => ?_)
    · have H := H.1 h5
      refine r_aload_n (k := 0) rfl rfl dX10_span_32 ?_
      refine r_iload_n (k := 1) rfl rfl dX10_span_33 ?_
      refine r_iload_n (k := 2) rfl rfl dX10_span_34 ?_
      refine r_callV (g := mX10_laysSpan) ckX10 rfl rfl rfl rfl mkX10_laysSpan mvX10_laysSpan ml_X10_301 ⟨by decide, by decide⟩ rfl (Nat.le_of_ble_eq_true rfl) rfl (ok_i g1 (ok_i g2 ok_n)) dX10_span_35 (sl_afterV (sl_RV.mono (fun M6 hM6 H => ?_) H))
      refine r_iload_n (k := 3) rfl rfl dX10_span_38 ?_
      have J : sl_At l mX10_span 77 [(0, vR 1 0), (1, vI x1), (2, vI x2), (3, vI x3)] [vI (if x3 ≠ 0 then (if x3 ≠ 1 then (if x3 ≠ 2 then M6 1 0 37 else M6 1 0 35) else M6 1 0 34) else M6 1 0 33)] M6 Q := by
        refine r_iret rfl (sl_rgite (sl_rgite (sl_rgite (hM6 _ _ _) (hM6 _ _ _)) (hM6 _ _ _)) (hM6 _ _ _)) dX10_span_77 ?_
        exact H
      refine r_if_ne (tgt := 49) g3 dX10_span_39 (by decide) (fun h7 => ?_) (fun h7 => ?_)
      · refine r_iload_n (k := 3) rfl rfl dX10_span_49 ?_
        refine r_iconst dX10_span_50 ?_
        refine r_icmp_ne (tgt := 61) g3 ⟨by decide, by decide⟩ dX10_span_51 (by decide) (fun h8 => ?_) (fun h8 => ?_)
        · refine r_iload_n (k := 3) rfl rfl dX10_span_61 ?_
          refine r_iconst dX10_span_62 ?_
          refine r_icmp_ne (tgt := 73) g3 ⟨by decide, by decide⟩ dX10_span_63 (by decide) (fun h9 => ?_) (fun h9 => ?_)
          · refine r_aload_n (k := 0) rfl rfl dX10_span_73 ?_
            refine r_gI (k := 37) (kz := 37) rfl ckX10 rfl rfl (by decide) rfl rfl fl_X10_273 dX10_span_74 ?_
            rw [if_pos h7, if_pos h8, if_pos h9] at J
            exact J
          · refine r_aload_n (k := 0) rfl rfl dX10_span_66 ?_
            refine r_gI (k := 35) (kz := 35) rfl ckX10 rfl rfl (by decide) rfl rfl fl_X10_267 dX10_span_67 ?_
            refine r_goto (tgt := 77) dX10_span_70 (by decide) ?_
            rw [if_pos h7, if_pos h8, if_neg h9] at J
            exact J
        · refine r_aload_n (k := 0) rfl rfl dX10_span_54 ?_
          refine r_gI (k := 34) (kz := 34) rfl ckX10 rfl rfl (by decide) rfl rfl fl_X10_261 dX10_span_55 ?_
          refine r_goto (tgt := 77) dX10_span_58 (by decide) ?_
          rw [if_pos h7, if_neg h8] at J
          exact J
      · refine r_aload_n (k := 0) rfl rfl dX10_span_42 ?_
        refine r_gI (k := 33) (kz := 33) rfl ckX10 rfl rfl (by decide) rfl rfl fl_X10_252 dX10_span_43 ?_
        refine r_goto (tgt := 77) dX10_span_46 (by decide) ?_
        rw [if_neg h7] at J
        exact J
    · have H := H.2 h5
      refine r_aload_n (k := 0) rfl rfl dX10_span_27 ?_
      refine r_callV (g := mX10_no) ckX10 rfl rfl rfl rfl mkX10_no mvX10_no ml_X10_298 ⟨by decide, by decide⟩ rfl (Nat.le_of_ble_eq_true rfl) rfl ok_n dX10_span_28 (sl_afterI (sl_RI.mono (fun y11 M10 gy11 hM10 H => ?_) H))
      refine r_iret rfl gy11 dX10_span_31 ?_
      exact H
  · have H := H.2 (b_eq0.mp (Decidable.of_not_not h2))
    refine r_aload_n (k := 0) rfl rfl dX10_span_13 ?_
    refine r_callV (g := mX10_bad) ckX10 rfl rfl rfl rfl mkX10_bad mvX10_bad ml_X10_139 ⟨by decide, by decide⟩ rfl (Nat.le_of_ble_eq_true rfl) rfl ok_n dX10_span_14 (sl_afterI (sl_RI.mono (fun y13 M12 gy13 hM12 H => ?_) H))
    refine r_iret rfl gy13 dX10_span_17 ?_
    exact H
theorem eX10_span {l : Launch} {M : sl_M} {Q : sl_R} {x1 x2 x3 : Int} (k : sl_At l mX10_span 0 [(0, vR 1 0), (1, vI x1), (2, vI x2), (3, vI x3)] [] M Q) : sl_Runs l mX10_span [vR 1 0, vI x1, vI x2, vI x3] M Q := sl_Runs.of (ls := [(0, vR 1 0), (1, vI x1), (2, vI x2), (3, vI x3)]) rfl rfl (fun _ => rfl) (fun _ => Nat.le_of_ble_eq_true rfl) rfl (k)
theorem dX10_hands_0 : decode cX10_hands 0 = .ok (.aload_n 0, 1) := by decide +kernel
theorem dX10_hands_1 : decode cX10_hands 1 = .ok (.invokevirtual 292, 3) := by decide +kernel
theorem dX10_hands_4 : decode cX10_hands 4 = .ok (.iload_n 3, 1) := by decide +kernel
theorem dX10_hands_5 : decode cX10_hands 5 = .ok (.iconst 0, 1) := by decide +kernel
theorem dX10_hands_6 : decode cX10_hands 6 = .ok (.iconst 1, 1) := by decide +kernel
theorem dX10_hands_7 : decode cX10_hands 7 = .ok (.invokestatic 135, 3) := by decide +kernel
theorem dX10_hands_10 : decode cX10_hands 10 = .ok (.ifCond .eq 8, 3) := by decide +kernel
theorem dX10_hands_13 : decode cX10_hands 13 = .ok (.iload 4, 2) := by decide +kernel
theorem dX10_hands_15 : decode cX10_hands 15 = .ok (.ifCond .ge 8, 3) := by decide +kernel
theorem dX10_hands_18 : decode cX10_hands 18 = .ok (.aload_n 0, 1) := by decide +kernel
theorem dX10_hands_19 : decode cX10_hands 19 = .ok (.invokevirtual 139, 3) := by decide +kernel
theorem dX10_hands_22 : decode cX10_hands 22 = .ok (.ireturn, 1) := by decide +kernel
theorem dX10_hands_23 : decode cX10_hands 23 = .ok (.aload_n 0, 1) := by decide +kernel
theorem dX10_hands_24 : decode cX10_hands 24 = .ok (.iload_n 1, 1) := by decide +kernel
theorem dX10_hands_25 : decode cX10_hands 25 = .ok (.iload_n 2, 1) := by decide +kernel
theorem dX10_hands_26 : decode cX10_hands 26 = .ok (.invokevirtual 295, 3) := by decide +kernel
theorem dX10_hands_29 : decode cX10_hands 29 = .ok (.ifCond .ne 8, 3) := by decide +kernel
theorem dX10_hands_32 : decode cX10_hands 32 = .ok (.aload_n 0, 1) := by decide +kernel
theorem dX10_hands_33 : decode cX10_hands 33 = .ok (.invokevirtual 298, 3) := by decide +kernel
theorem dX10_hands_36 : decode cX10_hands 36 = .ok (.ireturn, 1) := by decide +kernel
theorem dX10_hands_37 : decode cX10_hands 37 = .ok (.aload_n 0, 1) := by decide +kernel
theorem dX10_hands_38 : decode cX10_hands 38 = .ok (.iload_n 1, 1) := by decide +kernel
theorem dX10_hands_39 : decode cX10_hands 39 = .ok (.iload_n 2, 1) := by decide +kernel
theorem dX10_hands_40 : decode cX10_hands 40 = .ok (.invokevirtual 301, 3) := by decide +kernel
theorem dX10_hands_43 : decode cX10_hands 43 = .ok (.aload_n 0, 1) := by decide +kernel
theorem dX10_hands_44 : decode cX10_hands 44 = .ok (.iload_n 3, 1) := by decide +kernel
theorem dX10_hands_45 : decode cX10_hands 45 = .ok (.ifCond .ne 10, 3) := by decide +kernel
theorem dX10_hands_48 : decode cX10_hands 48 = .ok (.aload_n 0, 1) := by decide +kernel
theorem dX10_hands_49 : decode cX10_hands 49 = .ok (.getfield 261, 3) := by decide +kernel
theorem dX10_hands_52 : decode cX10_hands 52 = .ok (.goto 7, 3) := by decide +kernel
theorem dX10_hands_55 : decode cX10_hands 55 = .ok (.aload_n 0, 1) := by decide +kernel
theorem dX10_hands_56 : decode cX10_hands 56 = .ok (.getfield 267, 3) := by decide +kernel
theorem dX10_hands_59 : decode cX10_hands 59 = .ok (.iload 4, 2) := by decide +kernel
theorem dX10_hands_61 : decode cX10_hands 61 = .ok (.invokevirtual 304, 3) := by decide +kernel
theorem dX10_hands_64 : decode cX10_hands 64 = .ok (.ireturn, 1) := by decide +kernel
set_option maxHeartbeats 4000000 in
set_option maxRecDepth 10000 in
theorem vX10_hands_0 {l : Launch} {M : sl_M} {Q : sl_R} {x1 x2 x3 x4 : Int} (H : sl_RM M → sl_rg x1 → sl_rg x2 → sl_rg x3 → sl_rg x4 → sl_RV l mX10_lays [vR 1 0] M (fun M1 => ((¬ (0 ≤ x3 ∧ x3 ≤ 1)) → sl_RI l mX10_bad [vR 1 0] M1 (fun y4 M3 => Q (some (vI y4)) M3)) ∧ ((0 ≤ x3 ∧ x3 ≤ 1) → ((0 ≤ x4) → sl_RI l mX10_isSpan [vR 1 0, vI x1, vI x2] M1 (fun y7 M6 => ((y7 ≠ 0) → sl_RV l mX10_laysSpan [vR 1 0, vI x1, vI x2] M6 (fun M9 => sl_RI l mX10_listOf [vR 1 0, vI (if x3 ≠ 0 then M9 1 0 35 else M9 1 0 34), vI x4] M9 (fun y12 M11 => Q (some (vI y12)) M11))) ∧ ((¬ (y7 ≠ 0)) → sl_RI l mX10_no [vR 1 0] M6 (fun y14 M13 => Q (some (vI y14)) M13)))) ∧ ((¬ (0 ≤ x4)) → sl_RI l mX10_bad [vR 1 0] M1 (fun y16 M15 => Q (some (vI y16)) M15))))) : sl_At l mX10_hands 0 [(0, vR 1 0), (1, vI x1), (2, vI x2), (3, vI x3), (4, vI x4)] [] M Q := by
  refine sl_At.in (fun hM hls => ?_)
  have g1 : sl_rg x1 := hls _ (List.mem_of_getElem? (i := 1) rfl)
  have g2 : sl_rg x2 := hls _ (List.mem_of_getElem? (i := 2) rfl)
  have g3 : sl_rg x3 := hls _ (List.mem_of_getElem? (i := 3) rfl)
  have g4 : sl_rg x4 := hls _ (List.mem_of_getElem? (i := 4) rfl)
  have H := H hM g1 g2 g3 g4
  refine r_aload_n (k := 0) rfl rfl dX10_hands_0 ?_
  refine r_callV (g := mX10_lays) ckX10 rfl rfl rfl rfl mkX10_lays mvX10_lays ml_X10_292 ⟨by decide, by decide⟩ rfl (Nat.le_of_ble_eq_true rfl) rfl ok_n dX10_hands_1 (sl_afterV (sl_RV.mono (fun M1 hM1 H => ?_) H))
  refine r_iload_n (k := 3) rfl rfl dX10_hands_4 ?_
  refine r_iconst dX10_hands_5 ?_
  refine r_iconst dX10_hands_6 ?_
  refine r_callS (g := mX10_in) rfl mkX10_in msX10_in ml_X10_135 ⟨by decide, by decide⟩ rfl (Nat.le_of_ble_eq_true rfl) rfl (ok_i g3 (ok_i ⟨by decide, by decide⟩ (ok_i ⟨by decide, by decide⟩ ok_n))) dX10_hands_7 (sl_afterI (sl_RI.by kX10_in ?_))
  refine r_if_eq (tgt := 18) rg_b dX10_hands_10 (by decide) (fun h2 => ?_) (fun h2 => ?_)
  · have H := H.1 (b_eq0.mp h2)
    refine r_aload_n (k := 0) rfl rfl dX10_hands_18 ?_
    refine r_callV (g := mX10_bad) ckX10 rfl rfl rfl rfl mkX10_bad mvX10_bad ml_X10_139 ⟨by decide, by decide⟩ rfl (Nat.le_of_ble_eq_true rfl) rfl ok_n dX10_hands_19 (sl_afterI (sl_RI.mono (fun y4 M3 gy4 hM3 H => ?_) H))
    refine r_iret rfl gy4 dX10_hands_22 ?_
    exact H
  · have H := H.2 (b_ne0.mp h2)
    refine r_iload (k := 4) rfl dX10_hands_13 ?_
    refine r_if_ge (tgt := 23) g4 dX10_hands_15 (by decide) (fun h5 => ?_) (fun h5 => ?_)
    · have H := H.1 h5
      refine r_aload_n (k := 0) rfl rfl dX10_hands_23 ?_
      refine r_iload_n (k := 1) rfl rfl dX10_hands_24 ?_
      refine r_iload_n (k := 2) rfl rfl dX10_hands_25 ?_
      refine r_callV (g := mX10_isSpan) ckX10 rfl rfl rfl rfl mkX10_isSpan mvX10_isSpan ml_X10_295 ⟨by decide, by decide⟩ rfl (Nat.le_of_ble_eq_true rfl) rfl (ok_i g1 (ok_i g2 ok_n)) dX10_hands_26 (sl_afterI (sl_RI.mono (fun y7 M6 gy7 hM6 H => ?_) H))
      refine r_if_ne (tgt := 37) gy7 dX10_hands_29 (by decide) (fun h8 => ?_) (fun h8 => ?_)
      · have H := H.1 h8
        refine r_aload_n (k := 0) rfl rfl dX10_hands_37 ?_
        refine r_iload_n (k := 1) rfl rfl dX10_hands_38 ?_
        refine r_iload_n (k := 2) rfl rfl dX10_hands_39 ?_
        refine r_callV (g := mX10_laysSpan) ckX10 rfl rfl rfl rfl mkX10_laysSpan mvX10_laysSpan ml_X10_301 ⟨by decide, by decide⟩ rfl (Nat.le_of_ble_eq_true rfl) rfl (ok_i g1 (ok_i g2 ok_n)) dX10_hands_40 (sl_afterV (sl_RV.mono (fun M9 hM9 H => ?_) H))
        refine r_aload_n (k := 0) rfl rfl dX10_hands_43 ?_
        refine r_iload_n (k := 3) rfl rfl dX10_hands_44 ?_
        have J : sl_At l mX10_hands 59 [(0, vR 1 0), (1, vI x1), (2, vI x2), (3, vI x3), (4, vI x4)] [vI (if x3 ≠ 0 then M9 1 0 35 else M9 1 0 34), vR 1 0] M9 Q := by
          refine r_iload (k := 4) rfl dX10_hands_59 ?_
          refine r_callV (g := mX10_listOf) ckX10 rfl rfl rfl rfl mkX10_listOf mvX10_listOf ml_X10_304 ⟨by decide, by decide⟩ rfl (Nat.le_of_ble_eq_true rfl) rfl (ok_i (sl_rgite (hM9 _ _ _) (hM9 _ _ _)) (ok_i g4 ok_n)) dX10_hands_61 (sl_afterI (sl_RI.mono (fun y12 M11 gy12 hM11 H => ?_) H))
          refine r_iret rfl gy12 dX10_hands_64 ?_
          exact H
        refine r_if_ne (tgt := 55) g3 dX10_hands_45 (by decide) (fun h10 => ?_) (fun h10 => ?_)
        · refine r_aload_n (k := 0) rfl rfl dX10_hands_55 ?_
          refine r_gI (k := 35) (kz := 35) rfl ckX10 rfl rfl (by decide) rfl rfl fl_X10_267 dX10_hands_56 ?_
          rw [if_pos h10] at J
          exact J
        · refine r_aload_n (k := 0) rfl rfl dX10_hands_48 ?_
          refine r_gI (k := 34) (kz := 34) rfl ckX10 rfl rfl (by decide) rfl rfl fl_X10_261 dX10_hands_49 ?_
          refine r_goto (tgt := 59) dX10_hands_52 (by decide) ?_
          rw [if_neg h10] at J
          exact J
      · have H := H.2 h8
        refine r_aload_n (k := 0) rfl rfl dX10_hands_32 ?_
        refine r_callV (g := mX10_no) ckX10 rfl rfl rfl rfl mkX10_no mvX10_no ml_X10_298 ⟨by decide, by decide⟩ rfl (Nat.le_of_ble_eq_true rfl) rfl ok_n dX10_hands_33 (sl_afterI (sl_RI.mono (fun y14 M13 gy14 hM13 H => ?_) H))
        refine r_iret rfl gy14 dX10_hands_36 ?_
        exact H
    · have H := H.2 h5
      refine r_aload_n (k := 0) rfl rfl dX10_hands_18 ?_
      refine r_callV (g := mX10_bad) ckX10 rfl rfl rfl rfl mkX10_bad mvX10_bad ml_X10_139 ⟨by decide, by decide⟩ rfl (Nat.le_of_ble_eq_true rfl) rfl ok_n dX10_hands_19 (sl_afterI (sl_RI.mono (fun y16 M15 gy16 hM15 H => ?_) H))
      refine r_iret rfl gy16 dX10_hands_22 ?_
      exact H
theorem eX10_hands {l : Launch} {M : sl_M} {Q : sl_R} {x1 x2 x3 x4 : Int} (k : sl_At l mX10_hands 0 [(0, vR 1 0), (1, vI x1), (2, vI x2), (3, vI x3), (4, vI x4)] [] M Q) : sl_Runs l mX10_hands [vR 1 0, vI x1, vI x2, vI x3, vI x4] M Q := sl_Runs.of (ls := [(0, vR 1 0), (1, vI x1), (2, vI x2), (3, vI x3), (4, vI x4)]) rfl rfl (fun _ => rfl) (fun _ => Nat.le_of_ble_eq_true rfl) rfl (k)
theorem dX10_live_0 : decode cX10_live 0 = .ok (.aload_n 0, 1) := by decide +kernel
theorem dX10_live_1 : decode cX10_live 1 = .ok (.invokevirtual 292, 3) := by decide +kernel
theorem dX10_live_4 : decode cX10_live 4 = .ok (.iload_n 3, 1) := by decide +kernel
theorem dX10_live_5 : decode cX10_live 5 = .ok (.iconst 1, 1) := by decide +kernel
theorem dX10_live_6 : decode cX10_live 6 = .ok (.if_icmp .eq 19, 3) := by decide +kernel
theorem dX10_live_9 : decode cX10_live 9 = .ok (.iload_n 3, 1) := by decide +kernel
theorem dX10_live_10 : decode cX10_live 10 = .ok (.iconst 2, 1) := by decide +kernel
theorem dX10_live_11 : decode cX10_live 11 = .ok (.if_icmp .eq 14, 3) := by decide +kernel
theorem dX10_live_14 : decode cX10_live 14 = .ok (.iload_n 3, 1) := by decide +kernel
theorem dX10_live_15 : decode cX10_live 15 = .ok (.iconst 4, 1) := by decide +kernel
theorem dX10_live_16 : decode cX10_live 16 = .ok (.if_icmp .eq 9, 3) := by decide +kernel
theorem dX10_live_19 : decode cX10_live 19 = .ok (.iload_n 3, 1) := by decide +kernel
theorem dX10_live_20 : decode cX10_live 20 = .ok (.bipush 8, 2) := by decide +kernel
theorem dX10_live_22 : decode cX10_live 22 = .ok (.if_icmp .ne 7, 3) := by decide +kernel
theorem dX10_live_25 : decode cX10_live 25 = .ok (.iconst 1, 1) := by decide +kernel
theorem dX10_live_26 : decode cX10_live 26 = .ok (.goto 4, 3) := by decide +kernel
theorem dX10_live_29 : decode cX10_live 29 = .ok (.iconst 0, 1) := by decide +kernel
theorem dX10_live_30 : decode cX10_live 30 = .ok (.istore 5, 2) := by decide +kernel
theorem dX10_live_32 : decode cX10_live 32 = .ok (.iload 5, 2) := by decide +kernel
theorem dX10_live_34 : decode cX10_live 34 = .ok (.ifCond .eq 14, 3) := by decide +kernel
theorem dX10_live_37 : decode cX10_live 37 = .ok (.iload 4, 2) := by decide +kernel
theorem dX10_live_39 : decode cX10_live 39 = .ok (.iconst 0, 1) := by decide +kernel
theorem dX10_live_40 : decode cX10_live 40 = .ok (.bipush 7, 2) := by decide +kernel
theorem dX10_live_42 : decode cX10_live 42 = .ok (.invokestatic 135, 3) := by decide +kernel
theorem dX10_live_45 : decode cX10_live 45 = .ok (.ifCond .ne 8, 3) := by decide +kernel
theorem dX10_live_48 : decode cX10_live 48 = .ok (.aload_n 0, 1) := by decide +kernel
theorem dX10_live_49 : decode cX10_live 49 = .ok (.invokevirtual 139, 3) := by decide +kernel
theorem dX10_live_52 : decode cX10_live 52 = .ok (.ireturn, 1) := by decide +kernel
theorem dX10_live_53 : decode cX10_live 53 = .ok (.aload_n 0, 1) := by decide +kernel
theorem dX10_live_54 : decode cX10_live 54 = .ok (.iload_n 1, 1) := by decide +kernel
theorem dX10_live_55 : decode cX10_live 55 = .ok (.iload_n 2, 1) := by decide +kernel
theorem dX10_live_56 : decode cX10_live 56 = .ok (.invokevirtual 295, 3) := by decide +kernel
theorem dX10_live_59 : decode cX10_live 59 = .ok (.ifCond .ne 8, 3) := by decide +kernel
theorem dX10_live_62 : decode cX10_live 62 = .ok (.aload_n 0, 1) := by decide +kernel
theorem dX10_live_63 : decode cX10_live 63 = .ok (.invokevirtual 298, 3) := by decide +kernel
theorem dX10_live_66 : decode cX10_live 66 = .ok (.ireturn, 1) := by decide +kernel
theorem dX10_live_67 : decode cX10_live 67 = .ok (.aload_n 0, 1) := by decide +kernel
theorem dX10_live_68 : decode cX10_live 68 = .ok (.iload_n 1, 1) := by decide +kernel
theorem dX10_live_69 : decode cX10_live 69 = .ok (.iload_n 2, 1) := by decide +kernel
theorem dX10_live_70 : decode cX10_live 70 = .ok (.invokevirtual 301, 3) := by decide +kernel
theorem dX10_live_73 : decode cX10_live 73 = .ok (.aload_n 0, 1) := by decide +kernel
theorem dX10_live_74 : decode cX10_live 74 = .ok (.getfield 252, 3) := by decide +kernel
theorem dX10_live_77 : decode cX10_live 77 = .ok (.iload_n 3, 1) := by decide +kernel
theorem dX10_live_78 : decode cX10_live 78 = .ok (.iand, 1) := by decide +kernel
theorem dX10_live_79 : decode cX10_live 79 = .ok (.ifCond .ne 8, 3) := by decide +kernel
theorem dX10_live_82 : decode cX10_live 82 = .ok (.aload_n 0, 1) := by decide +kernel
theorem dX10_live_83 : decode cX10_live 83 = .ok (.invokevirtual 298, 3) := by decide +kernel
theorem dX10_live_86 : decode cX10_live 86 = .ok (.ireturn, 1) := by decide +kernel
theorem dX10_live_87 : decode cX10_live 87 = .ok (.aload_n 0, 1) := by decide +kernel
theorem dX10_live_88 : decode cX10_live 88 = .ok (.getfield 79, 3) := by decide +kernel
theorem dX10_live_91 : decode cX10_live 91 = .ok (.iload_n 3, 1) := by decide +kernel
theorem dX10_live_92 : decode cX10_live 92 = .ok (.invokestatic 215, 3) := by decide +kernel
theorem dX10_live_95 : decode cX10_live 95 = .ok (.iaload, 1) := by decide +kernel
theorem dX10_live_96 : decode cX10_live 96 = .ok (.iload 4, 2) := by decide +kernel
theorem dX10_live_98 : decode cX10_live 98 = .ok (.invokestatic 218, 3) := by decide +kernel
theorem dX10_live_101 : decode cX10_live 101 = .ok (.ifCond .eq 7, 3) := by decide +kernel
theorem dX10_live_104 : decode cX10_live 104 = .ok (.iconst 1, 1) := by decide +kernel
theorem dX10_live_105 : decode cX10_live 105 = .ok (.goto 4, 3) := by decide +kernel
theorem dX10_live_108 : decode cX10_live 108 = .ok (.iconst 0, 1) := by decide +kernel
theorem dX10_live_109 : decode cX10_live 109 = .ok (.ireturn, 1) := by decide +kernel
set_option maxHeartbeats 4000000 in
set_option maxRecDepth 10000 in
theorem vX10_live_0 {l : Launch} {M : sl_M} {Q : sl_R} {x1 x2 x3 x4 : Int} (H : sl_RM M → sl_rg x1 → sl_rg x2 → sl_rg x3 → sl_rg x4 → sl_RV l mX10_lays [vR 1 0] M (fun M1 => (∀ y6 : Int, y6 = (if (x3 = 1) ∨ ((x3 = 2) ∨ ((x3 = 4) ∨ (¬ (x3 ≠ 8)))) then 1 else 0) → ((¬ ((x3 = 1) ∨ ((x3 = 2) ∨ ((x3 = 4) ∨ (¬ (x3 ≠ 8)))))) → sl_RI l mX10_bad [vR 1 0] M1 (fun y9 M8 => Q (some (vI y9)) M8)) ∧ (((x3 = 1) ∨ ((x3 = 2) ∨ ((x3 = 4) ∨ (¬ (x3 ≠ 8))))) → ((0 ≤ x4 ∧ x4 ≤ 7) → sl_RI l mX10_isSpan [vR 1 0, vI x1, vI x2] M1 (fun y12 M11 => ((y12 ≠ 0) → sl_RV l mX10_laysSpan [vR 1 0, vI x1, vI x2] M11 (fun M14 => ((iand (M14 1 0 33) x3 ≠ 0) → (0 ≤ sp_place x3 ∧ sp_place x3 < 4) ∧ Q (some (vI (if iand (ishr (M14 1 40 (sp_place x3)) x4) 1 = 1 then 1 else 0))) M14) ∧ ((¬ (iand (M14 1 0 33) x3 ≠ 0)) → sl_RI l mX10_no [vR 1 0] M14 (fun y19 M18 => Q (some (vI y19)) M18)))) ∧ ((¬ (y12 ≠ 0)) → sl_RI l mX10_no [vR 1 0] M11 (fun y21 M20 => Q (some (vI y21)) M20)))) ∧ ((¬ (0 ≤ x4 ∧ x4 ≤ 7)) → sl_RI l mX10_bad [vR 1 0] M1 (fun y23 M22 => Q (some (vI y23)) M22)))))) : sl_At l mX10_live 0 [(0, vR 1 0), (1, vI x1), (2, vI x2), (3, vI x3), (4, vI x4)] [] M Q := by
  refine sl_At.in (fun hM hls => ?_)
  have g1 : sl_rg x1 := hls _ (List.mem_of_getElem? (i := 1) rfl)
  have g2 : sl_rg x2 := hls _ (List.mem_of_getElem? (i := 2) rfl)
  have g3 : sl_rg x3 := hls _ (List.mem_of_getElem? (i := 3) rfl)
  have g4 : sl_rg x4 := hls _ (List.mem_of_getElem? (i := 4) rfl)
  have H := H hM g1 g2 g3 g4
  refine r_aload_n (k := 0) rfl rfl dX10_live_0 ?_
  refine r_callV (g := mX10_lays) ckX10 rfl rfl rfl rfl mkX10_lays mvX10_lays ml_X10_292 ⟨by decide, by decide⟩ rfl (Nat.le_of_ble_eq_true rfl) rfl ok_n dX10_live_1 (sl_afterV (sl_RV.mono (fun M1 hM1 H => ?_) H))
  refine r_iload_n (k := 3) rfl rfl dX10_live_4 ?_
  refine r_iconst dX10_live_5 ?_
  have J : sl_At l mX10_live 30 [(0, vR 1 0), (1, vI x1), (2, vI x2), (3, vI x3), (4, vI x4)] [vI (if (x3 = 1) ∨ ((x3 = 2) ∨ ((x3 = 4) ∨ (¬ (x3 ≠ 8)))) then 1 else 0)] M1 Q := by
    refine r_nm (fun y6 fy6 => ?_)
    have H := H y6 fy6
    have gy6 : sl_rg y6 := by rw [fy6]; exact rg_b
    refine r_istore (ls' := [(5, vI y6), (0, vR 1 0), (1, vI x1), (2, vI x2), (3, vI x3), (4, vI x4)]) gy6 (by decide) rfl dX10_live_30 ?_
    refine r_iload (k := 0) rfl dX10_live_32 ?_
    refine r_if_eq (tgt := 48) gy6 dX10_live_34 (by decide) (fun h7 => ?_) (fun h7 => ?_)
    · have H := H.1 (b_eq0.mp (fy6.symm.trans h7))
      refine r_aload_n (k := 1) rfl rfl dX10_live_48 ?_
      refine r_callV (g := mX10_bad) ckX10 rfl rfl rfl rfl mkX10_bad mvX10_bad ml_X10_139 ⟨by decide, by decide⟩ rfl (Nat.le_of_ble_eq_true rfl) rfl ok_n dX10_live_49 (sl_afterI (sl_RI.mono (fun y9 M8 gy9 hM8 H => ?_) H))
      refine r_iret rfl gy9 dX10_live_52 ?_
      exact H
    · have H := H.2 (b_ne0.mp (fun q => h7 (fy6.trans q)))
      refine r_iload (k := 5) rfl dX10_live_37 ?_
      refine r_iconst dX10_live_39 ?_
      refine r_bipush dX10_live_40 (by decide) ?_
      refine r_callS (g := mX10_in) rfl mkX10_in msX10_in ml_X10_135 ⟨by decide, by decide⟩ rfl (Nat.le_of_ble_eq_true rfl) rfl (ok_i g4 (ok_i ⟨by decide, by decide⟩ (ok_i ⟨by decide, by decide⟩ ok_n))) dX10_live_42 (sl_afterI (sl_RI.by kX10_in ?_))
      refine r_if_ne (tgt := 53) rg_b dX10_live_45 (by decide) (fun h10 => ?_) (fun h10 => ?_)
      · have H := H.1 (b_ne0.mp h10)
        refine r_aload_n (k := 1) rfl rfl dX10_live_53 ?_
        refine r_iload_n (k := 2) rfl rfl dX10_live_54 ?_
        refine r_iload_n (k := 3) rfl rfl dX10_live_55 ?_
        refine r_callV (g := mX10_isSpan) ckX10 rfl rfl rfl rfl mkX10_isSpan mvX10_isSpan ml_X10_295 ⟨by decide, by decide⟩ rfl (Nat.le_of_ble_eq_true rfl) rfl (ok_i g1 (ok_i g2 ok_n)) dX10_live_56 (sl_afterI (sl_RI.mono (fun y12 M11 gy12 hM11 H => ?_) H))
        refine r_if_ne (tgt := 67) gy12 dX10_live_59 (by decide) (fun h13 => ?_) (fun h13 => ?_)
        · have H := H.1 h13
          refine r_aload_n (k := 1) rfl rfl dX10_live_67 ?_
          refine r_iload_n (k := 2) rfl rfl dX10_live_68 ?_
          refine r_iload_n (k := 3) rfl rfl dX10_live_69 ?_
          refine r_callV (g := mX10_laysSpan) ckX10 rfl rfl rfl rfl mkX10_laysSpan mvX10_laysSpan ml_X10_301 ⟨by decide, by decide⟩ rfl (Nat.le_of_ble_eq_true rfl) rfl (ok_i g1 (ok_i g2 ok_n)) dX10_live_70 (sl_afterV (sl_RV.mono (fun M14 hM14 H => ?_) H))
          refine r_aload_n (k := 1) rfl rfl dX10_live_73 ?_
          refine r_gI (k := 33) (kz := 33) rfl ckX10 rfl rfl (by decide) rfl rfl fl_X10_252 dX10_live_74 ?_
          refine r_iload_n (k := 4) rfl rfl dX10_live_77 ?_
          refine r_iand dX10_live_78 ?_
          refine r_if_ne (tgt := 87) (rg_iand _ _) dX10_live_79 (by decide) (fun h15 => ?_) (fun h15 => ?_)
          · have H := H.1 h15
            refine r_aload_n (k := 1) rfl rfl dX10_live_87 ?_
            refine r_getR (k := 39) (o' := 1) (i' := 40) ckX10 rfl rfl (by decide) rfl rfl rfl fl_X10_79 dX10_live_88 ?_
            refine r_iload_n (k := 4) rfl rfl dX10_live_91 ?_
            refine r_callS (g := mX10_placeOf) rfl mkX10_placeOf msX10_placeOf ml_X10_215 ⟨by decide, by decide⟩ rfl (Nat.le_of_ble_eq_true rfl) rfl (ok_i g3 ok_n) dX10_live_92 (sl_afterI (sl_RI.by kX10_placeOf ?_))
            obtain ⟨c16, H⟩ := H
            refine r_iald rfl rfl rfl c16 dX10_live_95 ?_
            refine r_iload (k := 5) rfl dX10_live_96 ?_
            refine r_callS (g := mX10_has) rfl mkX10_has msX10_has ml_X10_218 ⟨by decide, by decide⟩ rfl (Nat.le_of_ble_eq_true rfl) rfl (ok_i (hM14 _ _ _) (ok_i g4 ok_n)) dX10_live_98 (sl_afterI (sl_RI.by kX10_has ?_))
            have J : sl_At l mX10_live 109 [(5, vI y6), (0, vR 1 0), (1, vI x1), (2, vI x2), (3, vI x3), (4, vI x4)] [vI (if iand (ishr (M14 1 40 (sp_place x3)) x4) 1 = 1 then 1 else 0)] M14 Q := by
              refine r_iret rfl rg_b dX10_live_109 ?_
              exact H
            refine r_if_eq (tgt := 108) rg_b dX10_live_101 (by decide) (fun h17 => ?_) (fun h17 => ?_)
            · replace h17 := (b_eq0.mp h17)
              refine r_iconst dX10_live_108 ?_
              rw [if_neg (show ¬ (iand (ishr (M14 1 40 (sp_place x3)) x4) 1 = 1) by omega)] at J
              exact J
            · replace h17 := (b_ne0.mp h17)
              refine r_iconst dX10_live_104 ?_
              refine r_goto (tgt := 109) dX10_live_105 (by decide) ?_
              rw [if_pos (show iand (ishr (M14 1 40 (sp_place x3)) x4) 1 = 1 by omega)] at J
              exact J
          · have H := H.2 h15
            refine r_aload_n (k := 1) rfl rfl dX10_live_82 ?_
            refine r_callV (g := mX10_no) ckX10 rfl rfl rfl rfl mkX10_no mvX10_no ml_X10_298 ⟨by decide, by decide⟩ rfl (Nat.le_of_ble_eq_true rfl) rfl ok_n dX10_live_83 (sl_afterI (sl_RI.mono (fun y19 M18 gy19 hM18 H => ?_) H))
            refine r_iret rfl gy19 dX10_live_86 ?_
            exact H
        · have H := H.2 h13
          refine r_aload_n (k := 1) rfl rfl dX10_live_62 ?_
          refine r_callV (g := mX10_no) ckX10 rfl rfl rfl rfl mkX10_no mvX10_no ml_X10_298 ⟨by decide, by decide⟩ rfl (Nat.le_of_ble_eq_true rfl) rfl ok_n dX10_live_63 (sl_afterI (sl_RI.mono (fun y21 M20 gy21 hM20 H => ?_) H))
          refine r_iret rfl gy21 dX10_live_66 ?_
          exact H
      · have H := H.2 (b_eq0.mp (Decidable.of_not_not h10))
        refine r_aload_n (k := 1) rfl rfl dX10_live_48 ?_
        refine r_callV (g := mX10_bad) ckX10 rfl rfl rfl rfl mkX10_bad mvX10_bad ml_X10_139 ⟨by decide, by decide⟩ rfl (Nat.le_of_ble_eq_true rfl) rfl ok_n dX10_live_49 (sl_afterI (sl_RI.mono (fun y23 M22 gy23 hM22 H => ?_) H))
        refine r_iret rfl gy23 dX10_live_52 ?_
        exact H
  refine r_icmp_eq (tgt := 25) g3 ⟨by decide, by decide⟩ dX10_live_6 (by decide) (fun h2 => ?_) (fun h2 => ?_)
  · refine r_iconst dX10_live_25 ?_
    refine r_goto (tgt := 30) dX10_live_26 (by decide) ?_
    rw [if_pos (show (x3 = 1) ∨ ((x3 = 2) ∨ ((x3 = 4) ∨ (¬ (x3 ≠ 8)))) by omega)] at J
    exact J
  · refine r_iload_n (k := 3) rfl rfl dX10_live_9 ?_
    refine r_iconst dX10_live_10 ?_
    refine r_icmp_eq (tgt := 25) g3 ⟨by decide, by decide⟩ dX10_live_11 (by decide) (fun h3 => ?_) (fun h3 => ?_)
    · refine r_iconst dX10_live_25 ?_
      refine r_goto (tgt := 30) dX10_live_26 (by decide) ?_
      rw [if_pos (show (x3 = 1) ∨ ((x3 = 2) ∨ ((x3 = 4) ∨ (¬ (x3 ≠ 8)))) by omega)] at J
      exact J
    · refine r_iload_n (k := 3) rfl rfl dX10_live_14 ?_
      refine r_iconst dX10_live_15 ?_
      refine r_icmp_eq (tgt := 25) g3 ⟨by decide, by decide⟩ dX10_live_16 (by decide) (fun h4 => ?_) (fun h4 => ?_)
      · refine r_iconst dX10_live_25 ?_
        refine r_goto (tgt := 30) dX10_live_26 (by decide) ?_
        rw [if_pos (show (x3 = 1) ∨ ((x3 = 2) ∨ ((x3 = 4) ∨ (¬ (x3 ≠ 8)))) by omega)] at J
        exact J
      · refine r_iload_n (k := 3) rfl rfl dX10_live_19 ?_
        refine r_bipush dX10_live_20 (by decide) ?_
        refine r_icmp_ne (tgt := 29) g3 ⟨by decide, by decide⟩ dX10_live_22 (by decide) (fun h5 => ?_) (fun h5 => ?_)
        · refine r_iconst dX10_live_29 ?_
          rw [if_neg (show ¬ ((x3 = 1) ∨ ((x3 = 2) ∨ ((x3 = 4) ∨ (¬ (x3 ≠ 8))))) by omega)] at J
          exact J
        · refine r_iconst dX10_live_25 ?_
          refine r_goto (tgt := 30) dX10_live_26 (by decide) ?_
          rw [if_pos (show (x3 = 1) ∨ ((x3 = 2) ∨ ((x3 = 4) ∨ (¬ (x3 ≠ 8)))) by omega)] at J
          exact J
set_option maxHeartbeats 4000000 in
set_option maxRecDepth 10000 in
theorem vX10_live_25 {l : Launch} {M : sl_M} {Q : sl_R} {x1 x2 x3 x4 : Int} (H : sl_RM M → sl_rg x1 → sl_rg x2 → sl_rg x3 → sl_rg x4 → (((1 : Int) = 0) → sl_RI l mX10_bad [vR 1 0] M (fun y3 M2 => Q (some (vI y3)) M2)) ∧ ((¬ ((1 : Int) = 0)) → ((0 ≤ x4 ∧ x4 ≤ 7) → sl_RI l mX10_isSpan [vR 1 0, vI x1, vI x2] M (fun y6 M5 => ((y6 ≠ 0) → sl_RV l mX10_laysSpan [vR 1 0, vI x1, vI x2] M5 (fun M8 => ((iand (M8 1 0 33) x3 ≠ 0) → (0 ≤ sp_place x3 ∧ sp_place x3 < 4) ∧ Q (some (vI (if iand (ishr (M8 1 40 (sp_place x3)) x4) 1 = 1 then 1 else 0))) M8) ∧ ((¬ (iand (M8 1 0 33) x3 ≠ 0)) → sl_RI l mX10_no [vR 1 0] M8 (fun y13 M12 => Q (some (vI y13)) M12)))) ∧ ((¬ (y6 ≠ 0)) → sl_RI l mX10_no [vR 1 0] M5 (fun y15 M14 => Q (some (vI y15)) M14)))) ∧ ((¬ (0 ≤ x4 ∧ x4 ≤ 7)) → sl_RI l mX10_bad [vR 1 0] M (fun y17 M16 => Q (some (vI y17)) M16)))) : sl_At l mX10_live 25 [(0, vR 1 0), (1, vI x1), (2, vI x2), (3, vI x3), (4, vI x4)] [] M Q := by
  refine sl_At.in (fun hM hls => ?_)
  have g1 : sl_rg x1 := hls _ (List.mem_of_getElem? (i := 1) rfl)
  have g2 : sl_rg x2 := hls _ (List.mem_of_getElem? (i := 2) rfl)
  have g3 : sl_rg x3 := hls _ (List.mem_of_getElem? (i := 3) rfl)
  have g4 : sl_rg x4 := hls _ (List.mem_of_getElem? (i := 4) rfl)
  have H := H hM g1 g2 g3 g4
  refine r_iconst dX10_live_25 ?_
  refine r_goto (tgt := 30) dX10_live_26 (by decide) ?_
  refine r_istore (ls' := [(5, vI 1), (0, vR 1 0), (1, vI x1), (2, vI x2), (3, vI x3), (4, vI x4)]) ⟨by decide, by decide⟩ (by decide) rfl dX10_live_30 ?_
  refine r_iload (k := 0) rfl dX10_live_32 ?_
  refine r_if_eq (tgt := 48) ⟨by decide, by decide⟩ dX10_live_34 (by decide) (fun h1 => ?_) (fun h1 => ?_)
  · have H := H.1 h1
    refine r_aload_n (k := 1) rfl rfl dX10_live_48 ?_
    refine r_callV (g := mX10_bad) ckX10 rfl rfl rfl rfl mkX10_bad mvX10_bad ml_X10_139 ⟨by decide, by decide⟩ rfl (Nat.le_of_ble_eq_true rfl) rfl ok_n dX10_live_49 (sl_afterI (sl_RI.mono (fun y3 M2 gy3 hM2 H => ?_) H))
    refine r_iret rfl gy3 dX10_live_52 ?_
    exact H
  · have H := H.2 h1
    refine r_iload (k := 5) rfl dX10_live_37 ?_
    refine r_iconst dX10_live_39 ?_
    refine r_bipush dX10_live_40 (by decide) ?_
    refine r_callS (g := mX10_in) rfl mkX10_in msX10_in ml_X10_135 ⟨by decide, by decide⟩ rfl (Nat.le_of_ble_eq_true rfl) rfl (ok_i g4 (ok_i ⟨by decide, by decide⟩ (ok_i ⟨by decide, by decide⟩ ok_n))) dX10_live_42 (sl_afterI (sl_RI.by kX10_in ?_))
    refine r_if_ne (tgt := 53) rg_b dX10_live_45 (by decide) (fun h4 => ?_) (fun h4 => ?_)
    · have H := H.1 (b_ne0.mp h4)
      refine r_aload_n (k := 1) rfl rfl dX10_live_53 ?_
      refine r_iload_n (k := 2) rfl rfl dX10_live_54 ?_
      refine r_iload_n (k := 3) rfl rfl dX10_live_55 ?_
      refine r_callV (g := mX10_isSpan) ckX10 rfl rfl rfl rfl mkX10_isSpan mvX10_isSpan ml_X10_295 ⟨by decide, by decide⟩ rfl (Nat.le_of_ble_eq_true rfl) rfl (ok_i g1 (ok_i g2 ok_n)) dX10_live_56 (sl_afterI (sl_RI.mono (fun y6 M5 gy6 hM5 H => ?_) H))
      refine r_if_ne (tgt := 67) gy6 dX10_live_59 (by decide) (fun h7 => ?_) (fun h7 => ?_)
      · have H := H.1 h7
        refine r_aload_n (k := 1) rfl rfl dX10_live_67 ?_
        refine r_iload_n (k := 2) rfl rfl dX10_live_68 ?_
        refine r_iload_n (k := 3) rfl rfl dX10_live_69 ?_
        refine r_callV (g := mX10_laysSpan) ckX10 rfl rfl rfl rfl mkX10_laysSpan mvX10_laysSpan ml_X10_301 ⟨by decide, by decide⟩ rfl (Nat.le_of_ble_eq_true rfl) rfl (ok_i g1 (ok_i g2 ok_n)) dX10_live_70 (sl_afterV (sl_RV.mono (fun M8 hM8 H => ?_) H))
        refine r_aload_n (k := 1) rfl rfl dX10_live_73 ?_
        refine r_gI (k := 33) (kz := 33) rfl ckX10 rfl rfl (by decide) rfl rfl fl_X10_252 dX10_live_74 ?_
        refine r_iload_n (k := 4) rfl rfl dX10_live_77 ?_
        refine r_iand dX10_live_78 ?_
        refine r_if_ne (tgt := 87) (rg_iand _ _) dX10_live_79 (by decide) (fun h9 => ?_) (fun h9 => ?_)
        · have H := H.1 h9
          refine r_aload_n (k := 1) rfl rfl dX10_live_87 ?_
          refine r_getR (k := 39) (o' := 1) (i' := 40) ckX10 rfl rfl (by decide) rfl rfl rfl fl_X10_79 dX10_live_88 ?_
          refine r_iload_n (k := 4) rfl rfl dX10_live_91 ?_
          refine r_callS (g := mX10_placeOf) rfl mkX10_placeOf msX10_placeOf ml_X10_215 ⟨by decide, by decide⟩ rfl (Nat.le_of_ble_eq_true rfl) rfl (ok_i g3 ok_n) dX10_live_92 (sl_afterI (sl_RI.by kX10_placeOf ?_))
          obtain ⟨c10, H⟩ := H
          refine r_iald rfl rfl rfl c10 dX10_live_95 ?_
          refine r_iload (k := 5) rfl dX10_live_96 ?_
          refine r_callS (g := mX10_has) rfl mkX10_has msX10_has ml_X10_218 ⟨by decide, by decide⟩ rfl (Nat.le_of_ble_eq_true rfl) rfl (ok_i (hM8 _ _ _) (ok_i g4 ok_n)) dX10_live_98 (sl_afterI (sl_RI.by kX10_has ?_))
          have J : sl_At l mX10_live 109 [(5, vI 1), (0, vR 1 0), (1, vI x1), (2, vI x2), (3, vI x3), (4, vI x4)] [vI (if iand (ishr (M8 1 40 (sp_place x3)) x4) 1 = 1 then 1 else 0)] M8 Q := by
            refine r_iret rfl rg_b dX10_live_109 ?_
            exact H
          refine r_if_eq (tgt := 108) rg_b dX10_live_101 (by decide) (fun h11 => ?_) (fun h11 => ?_)
          · replace h11 := (b_eq0.mp h11)
            refine r_iconst dX10_live_108 ?_
            rw [if_neg (show ¬ (iand (ishr (M8 1 40 (sp_place x3)) x4) 1 = 1) by omega)] at J
            exact J
          · replace h11 := (b_ne0.mp h11)
            refine r_iconst dX10_live_104 ?_
            refine r_goto (tgt := 109) dX10_live_105 (by decide) ?_
            rw [if_pos (show iand (ishr (M8 1 40 (sp_place x3)) x4) 1 = 1 by omega)] at J
            exact J
        · have H := H.2 h9
          refine r_aload_n (k := 1) rfl rfl dX10_live_82 ?_
          refine r_callV (g := mX10_no) ckX10 rfl rfl rfl rfl mkX10_no mvX10_no ml_X10_298 ⟨by decide, by decide⟩ rfl (Nat.le_of_ble_eq_true rfl) rfl ok_n dX10_live_83 (sl_afterI (sl_RI.mono (fun y13 M12 gy13 hM12 H => ?_) H))
          refine r_iret rfl gy13 dX10_live_86 ?_
          exact H
      · have H := H.2 h7
        refine r_aload_n (k := 1) rfl rfl dX10_live_62 ?_
        refine r_callV (g := mX10_no) ckX10 rfl rfl rfl rfl mkX10_no mvX10_no ml_X10_298 ⟨by decide, by decide⟩ rfl (Nat.le_of_ble_eq_true rfl) rfl ok_n dX10_live_63 (sl_afterI (sl_RI.mono (fun y15 M14 gy15 hM14 H => ?_) H))
        refine r_iret rfl gy15 dX10_live_66 ?_
        exact H
    · have H := H.2 (b_eq0.mp (Decidable.of_not_not h4))
      refine r_aload_n (k := 1) rfl rfl dX10_live_48 ?_
      refine r_callV (g := mX10_bad) ckX10 rfl rfl rfl rfl mkX10_bad mvX10_bad ml_X10_139 ⟨by decide, by decide⟩ rfl (Nat.le_of_ble_eq_true rfl) rfl ok_n dX10_live_49 (sl_afterI (sl_RI.mono (fun y17 M16 gy17 hM16 H => ?_) H))
      refine r_iret rfl gy17 dX10_live_52 ?_
      exact H
theorem eX10_live {l : Launch} {M : sl_M} {Q : sl_R} {x1 x2 x3 x4 : Int} (k : sl_At l mX10_live 0 [(0, vR 1 0), (1, vI x1), (2, vI x2), (3, vI x3), (4, vI x4)] [] M Q) : sl_Runs l mX10_live [vR 1 0, vI x1, vI x2, vI x3, vI x4] M Q := sl_Runs.of (ls := [(0, vR 1 0), (1, vI x1), (2, vI x2), (3, vI x3), (4, vI x4)]) rfl rfl (fun _ => rfl) (fun _ => Nat.le_of_ble_eq_true rfl) rfl (k)
theorem dX10_sure_0 : decode cX10_sure 0 = .ok (.aload_n 0, 1) := by decide +kernel
theorem dX10_sure_1 : decode cX10_sure 1 = .ok (.invokevirtual 292, 3) := by decide +kernel
theorem dX10_sure_4 : decode cX10_sure 4 = .ok (.aload_n 0, 1) := by decide +kernel
theorem dX10_sure_5 : decode cX10_sure 5 = .ok (.iload_n 1, 1) := by decide +kernel
theorem dX10_sure_6 : decode cX10_sure 6 = .ok (.invokevirtual 243, 3) := by decide +kernel
theorem dX10_sure_9 : decode cX10_sure 9 = .ok (.ifCond .eq 13, 3) := by decide +kernel
theorem dX10_sure_12 : decode cX10_sure 12 = .ok (.iload_n 2, 1) := by decide +kernel
theorem dX10_sure_13 : decode cX10_sure 13 = .ok (.iconst 0, 1) := by decide +kernel
theorem dX10_sure_14 : decode cX10_sure 14 = .ok (.bipush 7, 2) := by decide +kernel
theorem dX10_sure_16 : decode cX10_sure 16 = .ok (.invokestatic 135, 3) := by decide +kernel
theorem dX10_sure_19 : decode cX10_sure 19 = .ok (.ifCond .ne 8, 3) := by decide +kernel
theorem dX10_sure_22 : decode cX10_sure 22 = .ok (.aload_n 0, 1) := by decide +kernel
theorem dX10_sure_23 : decode cX10_sure 23 = .ok (.invokevirtual 139, 3) := by decide +kernel
theorem dX10_sure_26 : decode cX10_sure 26 = .ok (.ireturn, 1) := by decide +kernel
theorem dX10_sure_27 : decode cX10_sure 27 = .ok (.aload_n 0, 1) := by decide +kernel
theorem dX10_sure_28 : decode cX10_sure 28 = .ok (.getfield 73, 3) := by decide +kernel
theorem dX10_sure_31 : decode cX10_sure 31 = .ok (.iload_n 1, 1) := by decide +kernel
theorem dX10_sure_32 : decode cX10_sure 32 = .ok (.iaload, 1) := by decide +kernel
theorem dX10_sure_33 : decode cX10_sure 33 = .ok (.iconst 3, 1) := by decide +kernel
theorem dX10_sure_34 : decode cX10_sure 34 = .ok (.ior, 1) := by decide +kernel
theorem dX10_sure_35 : decode cX10_sure 35 = .ok (.iload_n 2, 1) := by decide +kernel
theorem dX10_sure_36 : decode cX10_sure 36 = .ok (.invokestatic 218, 3) := by decide +kernel
theorem dX10_sure_39 : decode cX10_sure 39 = .ok (.ifCond .eq 7, 3) := by decide +kernel
theorem dX10_sure_42 : decode cX10_sure 42 = .ok (.iconst 1, 1) := by decide +kernel
theorem dX10_sure_43 : decode cX10_sure 43 = .ok (.goto 4, 3) := by decide +kernel
theorem dX10_sure_46 : decode cX10_sure 46 = .ok (.iconst 0, 1) := by decide +kernel
theorem dX10_sure_47 : decode cX10_sure 47 = .ok (.ireturn, 1) := by decide +kernel
set_option maxHeartbeats 4000000 in
set_option maxRecDepth 10000 in
theorem vX10_sure_0 {l : Launch} {M : sl_M} {Q : sl_R} {x1 x2 : Int} (H : sl_RM M → sl_rg x1 → sl_rg x2 → sl_RV l mX10_lays [vR 1 0] M (fun M1 => sl_RI l mX10_isStatement [vR 1 0, vI x1] M1 (fun y3 M2 => ((y3 = 0) → sl_RI l mX10_bad [vR 1 0] M2 (fun y6 M5 => Q (some (vI y6)) M5)) ∧ ((¬ (y3 = 0)) → ((0 ≤ x2 ∧ x2 ≤ 7) → (0 ≤ x1 ∧ x1 < 82) ∧ Q (some (vI (if iand (ishr (ior (M2 1 31 x1) 3) x2) 1 = 1 then 1 else 0))) M2) ∧ ((¬ (0 ≤ x2 ∧ x2 ≤ 7)) → sl_RI l mX10_bad [vR 1 0] M2 (fun y11 M10 => Q (some (vI y11)) M10)))))) : sl_At l mX10_sure 0 [(0, vR 1 0), (1, vI x1), (2, vI x2)] [] M Q := by
  refine sl_At.in (fun hM hls => ?_)
  have g1 : sl_rg x1 := hls _ (List.mem_of_getElem? (i := 1) rfl)
  have g2 : sl_rg x2 := hls _ (List.mem_of_getElem? (i := 2) rfl)
  have H := H hM g1 g2
  refine r_aload_n (k := 0) rfl rfl dX10_sure_0 ?_
  refine r_callV (g := mX10_lays) ckX10 rfl rfl rfl rfl mkX10_lays mvX10_lays ml_X10_292 ⟨by decide, by decide⟩ rfl (Nat.le_of_ble_eq_true rfl) rfl ok_n dX10_sure_1 (sl_afterV (sl_RV.mono (fun M1 hM1 H => ?_) H))
  refine r_aload_n (k := 0) rfl rfl dX10_sure_4 ?_
  refine r_iload_n (k := 1) rfl rfl dX10_sure_5 ?_
  refine r_callV (g := mX10_isStatement) ckX10 rfl rfl rfl rfl mkX10_isStatement mvX10_isStatement ml_X10_243 ⟨by decide, by decide⟩ rfl (Nat.le_of_ble_eq_true rfl) rfl (ok_i g1 ok_n) dX10_sure_6 (sl_afterI (sl_RI.mono (fun y3 M2 gy3 hM2 H => ?_) H))
  refine r_if_eq (tgt := 22) gy3 dX10_sure_9 (by decide) (fun h4 => ?_) (fun h4 => ?_)
  · have H := H.1 h4
    refine r_aload_n (k := 0) rfl rfl dX10_sure_22 ?_
    refine r_callV (g := mX10_bad) ckX10 rfl rfl rfl rfl mkX10_bad mvX10_bad ml_X10_139 ⟨by decide, by decide⟩ rfl (Nat.le_of_ble_eq_true rfl) rfl ok_n dX10_sure_23 (sl_afterI (sl_RI.mono (fun y6 M5 gy6 hM5 H => ?_) H))
    refine r_iret rfl gy6 dX10_sure_26 ?_
    exact H
  · have H := H.2 h4
    refine r_iload_n (k := 2) rfl rfl dX10_sure_12 ?_
    refine r_iconst dX10_sure_13 ?_
    refine r_bipush dX10_sure_14 (by decide) ?_
    refine r_callS (g := mX10_in) rfl mkX10_in msX10_in ml_X10_135 ⟨by decide, by decide⟩ rfl (Nat.le_of_ble_eq_true rfl) rfl (ok_i g2 (ok_i ⟨by decide, by decide⟩ (ok_i ⟨by decide, by decide⟩ ok_n))) dX10_sure_16 (sl_afterI (sl_RI.by kX10_in ?_))
    refine r_if_ne (tgt := 27) rg_b dX10_sure_19 (by decide) (fun h7 => ?_) (fun h7 => ?_)
    · have H := H.1 (b_ne0.mp h7)
      refine r_aload_n (k := 0) rfl rfl dX10_sure_27 ?_
      refine r_getR (k := 30) (o' := 1) (i' := 31) ckX10 rfl rfl (by decide) rfl rfl rfl fl_X10_73 dX10_sure_28 ?_
      refine r_iload_n (k := 1) rfl rfl dX10_sure_31 ?_
      obtain ⟨c8, H⟩ := H
      refine r_iald rfl rfl rfl c8 dX10_sure_32 ?_
      refine r_iconst dX10_sure_33 ?_
      refine r_ior dX10_sure_34 ?_
      refine r_iload_n (k := 2) rfl rfl dX10_sure_35 ?_
      refine r_callS (g := mX10_has) rfl mkX10_has msX10_has ml_X10_218 ⟨by decide, by decide⟩ rfl (Nat.le_of_ble_eq_true rfl) rfl (ok_i (rg_ior _ _) (ok_i g2 ok_n)) dX10_sure_36 (sl_afterI (sl_RI.by kX10_has ?_))
      have J : sl_At l mX10_sure 47 [(0, vR 1 0), (1, vI x1), (2, vI x2)] [vI (if iand (ishr (ior (M2 1 31 x1) 3) x2) 1 = 1 then 1 else 0)] M2 Q := by
        refine r_iret rfl rg_b dX10_sure_47 ?_
        exact H
      refine r_if_eq (tgt := 46) rg_b dX10_sure_39 (by decide) (fun h9 => ?_) (fun h9 => ?_)
      · replace h9 := (b_eq0.mp h9)
        refine r_iconst dX10_sure_46 ?_
        rw [if_neg (show ¬ (iand (ishr (ior (M2 1 31 x1) 3) x2) 1 = 1) by omega)] at J
        exact J
      · replace h9 := (b_ne0.mp h9)
        refine r_iconst dX10_sure_42 ?_
        refine r_goto (tgt := 47) dX10_sure_43 (by decide) ?_
        rw [if_pos (show iand (ishr (ior (M2 1 31 x1) 3) x2) 1 = 1 by omega)] at J
        exact J
    · have H := H.2 (b_eq0.mp (Decidable.of_not_not h7))
      refine r_aload_n (k := 0) rfl rfl dX10_sure_22 ?_
      refine r_callV (g := mX10_bad) ckX10 rfl rfl rfl rfl mkX10_bad mvX10_bad ml_X10_139 ⟨by decide, by decide⟩ rfl (Nat.le_of_ble_eq_true rfl) rfl ok_n dX10_sure_23 (sl_afterI (sl_RI.mono (fun y11 M10 gy11 hM10 H => ?_) H))
      refine r_iret rfl gy11 dX10_sure_26 ?_
      exact H
theorem eX10_sure {l : Launch} {M : sl_M} {Q : sl_R} {x1 x2 : Int} (k : sl_At l mX10_sure 0 [(0, vR 1 0), (1, vI x1), (2, vI x2)] [] M Q) : sl_Runs l mX10_sure [vR 1 0, vI x1, vI x2] M Q := sl_Runs.of (ls := [(0, vR 1 0), (1, vI x1), (2, vI x2)]) rfl rfl (fun _ => rfl) (fun _ => Nat.le_of_ble_eq_true rfl) rfl (k)
