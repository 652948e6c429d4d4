/-! The law: its cases -/
theorem lg_cmp_s (x : Int64) : lg_cmp x x = 0 := by simp [lg_cmp]
section LC
variable {p : Program} {l : Launch} {e : Env} {s : State} {m : MethodId} {below : List Frame} {meth : Method} {c : Code} {b L : Nat} {xs : Nat → Int32} {G : sl_G} {H : Heap} {locs : List Loc} {k w : Nat} {arr : Array Slot} {Qz : State → Prop}
theorem lc_type (C0 : lw_At p s m meth c b L xs) (hL : L ≤ 2560) (hK : sl_K G s) (hG : lwG G s.heap.size) (hk : k ≤ room_1.cells ∧ w ≤ room_1.slots) {i : Nat} {n : Int} {Mc Mr : sl_M} (hi : i + 4 < L) (hJ : Jv n Mc Mr) (hn : n ≤ 1000000) (hH : lwH G s Mc Mr H locs) (hv : lv_has arr 4 [(3, .int (Int32.ofInt (i : Int))), (2, .ref (G.2.2 1 0)), (1, .ref (G.2.2 0 0)), (0, .ref b)]) (next : ∀ (Nc Nr : sl_M) (H2 : Heap) (locs2 : List Loc), Jv (n + 1) Nc Nr → lwH G s Nc Nr H2 locs2 → W p l e room_1 s m #[Value.ref b] below meth c H2 locs2 k w Qz (F0 m 732 arr [])) : W p l e room_1 s m #[Value.ref b] below meth c H locs k w Qz (F0 m 124 arr []) := by
  obtain ⟨hx, hb, hr, hml, hown, hts, hX, hbl, hlocks, hgv⟩ := id C0
  obtain ⟨rh, hJ⟩ := hJ
  refine lv_aload_n hx hb dw_124 rfl (lv_at hv 2 rfl) ?_
  refine lw_arg (G := G) (i := i) (j := 1) C0 hH.2.2 hL hv rfl rfl rfl (by omega) dw_125 dw_126 dw_127 dw_128 dw_129 ?_
  refine lw_pair (As := [vI (xs (i + 1)).toInt]) (J' := Jv (n + 1)) C0 hK hG lmX9_type lmX10_type rfl (by intro v hv; simp only [List.mem_cons, List.not_mem_nil, or_false] at hv; rcases hv with rfl <;> exact sl_rgT _) hk (p_type hJ hn) hH hv.1 (fun v H1 locs1 hS1 kk => ?_) (fun v Nc Nr H2 locs2 hkd hJ2 hH2 => ?_)
  · refine lv_aload_n hx hb dw_133 rfl (lv_at hv 1 rfl) ?_
    refine lw_arg (G := G) (i := i) (j := 1) C0 hS1 hL hv rfl rfl rfl (by omega) dw_134 dw_135 dw_136 dw_137 dw_138 ?_
    exact kk
  · obtain ⟨z, rfl⟩ := hkd
    exact lv_icmp_eq hx hb (tgt := 732) dw_142 rfl (fun _ => next Nc Nr H2 locs2 hJ2 hH2) (fun y => (y rfl).elim)
theorem lc_clear (C0 : lw_At p s m meth c b L xs) (hL : L ≤ 2560) (hK : sl_K G s) (hG : lwG G s.heap.size) (hk : k ≤ room_1.cells ∧ w ≤ room_1.slots) {i : Nat} {n : Int} {Mc Mr : sl_M} (hi : i + 4 < L) (hJ : Jv n Mc Mr) (hn : n ≤ 1000000) (hH : lwH G s Mc Mr H locs) (hv : lv_has arr 4 [(3, .int (Int32.ofInt (i : Int))), (2, .ref (G.2.2 1 0)), (1, .ref (G.2.2 0 0)), (0, .ref b)]) (next : ∀ (Nc Nr : sl_M) (H2 : Heap) (locs2 : List Loc), Jv (n + 1) Nc Nr → lwH G s Nc Nr H2 locs2 → W p l e room_1 s m #[Value.ref b] below meth c H2 locs2 k w Qz (F0 m 732 arr [])) : W p l e room_1 s m #[Value.ref b] below meth c H locs k w Qz (F0 m 147 arr []) := by
  obtain ⟨hx, hb, hr, hml, hown, hts, hX, hbl, hlocks, hgv⟩ := id C0
  obtain ⟨rh, hJ⟩ := hJ
  refine lv_aload_n hx hb dw_147 rfl (lv_at hv 2 rfl) ?_
  refine lw_pair (As := []) (J' := Jv (n + 1)) C0 hK hG lmX9_clear lmX10_clear rfl (fun v hv => (List.not_mem_nil hv).elim) hk (p_clear hJ) hH hv.1 (fun v H1 locs1 hS1 kk => ?_) (fun v Nc Nr H2 locs2 hkd hJ2 hH2 => ?_)
  · refine lv_aload_n hx hb dw_151 rfl (lv_at hv 1 rfl) ?_
    exact kk
  · obtain ⟨z, rfl⟩ := hkd
    exact lv_icmp_eq hx hb (tgt := 732) dw_155 rfl (fun _ => next Nc Nr H2 locs2 hJ2 hH2) (fun y => (y rfl).elim)
theorem lc_reads (C0 : lw_At p s m meth c b L xs) (hL : L ≤ 2560) (hK : sl_K G s) (hG : lwG G s.heap.size) (hk : k ≤ room_1.cells ∧ w ≤ room_1.slots) {i : Nat} {n : Int} {Mc Mr : sl_M} (hi : i + 4 < L) (hJ : Jv n Mc Mr) (hn : n ≤ 1000000) (hH : lwH G s Mc Mr H locs) (hv : lv_has arr 4 [(3, .int (Int32.ofInt (i : Int))), (2, .ref (G.2.2 1 0)), (1, .ref (G.2.2 0 0)), (0, .ref b)]) (next : ∀ (Nc Nr : sl_M) (H2 : Heap) (locs2 : List Loc), Jv (n + 1) Nc Nr → lwH G s Nc Nr H2 locs2 → W p l e room_1 s m #[Value.ref b] below meth c H2 locs2 k w Qz (F0 m 732 arr [])) : W p l e room_1 s m #[Value.ref b] below meth c H locs k w Qz (F0 m 160 arr []) := by
  obtain ⟨hx, hb, hr, hml, hown, hts, hX, hbl, hlocks, hgv⟩ := id C0
  obtain ⟨rh, hJ⟩ := hJ
  refine lv_aload_n hx hb dw_160 rfl (lv_at hv 2 rfl) ?_
  refine lw_pair (As := []) (J' := Jv (n + 1)) C0 hK hG lmX9_reads lmX10_reads rfl (fun v hv => (List.not_mem_nil hv).elim) hk (p_reads hJ) hH hv.1 (fun v H1 locs1 hS1 kk => ?_) (fun v Nc Nr H2 locs2 hkd hJ2 hH2 => ?_)
  · refine lv_aload_n hx hb dw_164 rfl (lv_at hv 1 rfl) ?_
    exact kk
  · obtain ⟨z, rfl⟩ := hkd
    exact lv_icmp_eq hx hb (tgt := 732) dw_168 rfl (fun _ => next Nc Nr H2 locs2 hJ2 hH2) (fun y => (y rfl).elim)
theorem lc_statement (C0 : lw_At p s m meth c b L xs) (hL : L ≤ 2560) (hK : sl_K G s) (hG : lwG G s.heap.size) (hk : k ≤ room_1.cells ∧ w ≤ room_1.slots) {i : Nat} {n : Int} {Mc Mr : sl_M} (hi : i + 4 < L) (hJ : Jv n Mc Mr) (hn : n ≤ 1000000) (hH : lwH G s Mc Mr H locs) (hv : lv_has arr 4 [(3, .int (Int32.ofInt (i : Int))), (2, .ref (G.2.2 1 0)), (1, .ref (G.2.2 0 0)), (0, .ref b)]) (next : ∀ (Nc Nr : sl_M) (H2 : Heap) (locs2 : List Loc), Jv (n + 1) Nc Nr → lwH G s Nc Nr H2 locs2 → W p l e room_1 s m #[Value.ref b] below meth c H2 locs2 k w Qz (F0 m 732 arr [])) : W p l e room_1 s m #[Value.ref b] below meth c H locs k w Qz (F0 m 173 arr []) := by
  obtain ⟨hx, hb, hr, hml, hown, hts, hX, hbl, hlocks, hgv⟩ := id C0
  obtain ⟨rh, hJ⟩ := hJ
  refine lv_aload_n hx hb dw_173 rfl (lv_at hv 2 rfl) ?_
  refine lw_arg (G := G) (i := i) (j := 1) C0 hH.2.2 hL hv rfl rfl rfl (by omega) dw_174 dw_175 dw_176 dw_177 dw_178 ?_
  refine lw_arg (G := G) (i := i) (j := 2) C0 hH.2.2 hL hv rfl rfl rfl (by omega) dw_179 dw_180 dw_181 dw_182 dw_183 ?_
  refine lw_pair (As := [vI (xs (i + 1)).toInt, vI (xs (i + 2)).toInt]) (J' := Jv (n + 1)) C0 hK hG lmX9_statement lmX10_statement rfl (by intro v hv; simp only [List.mem_cons, List.not_mem_nil, or_false] at hv; rcases hv with rfl | rfl <;> exact sl_rgT _) hk (p_statement hJ hn) hH hv.1 (fun v H1 locs1 hS1 kk => ?_) (fun v Nc Nr H2 locs2 hkd hJ2 hH2 => ?_)
  · refine lv_aload_n hx hb dw_187 rfl (lv_at hv 1 rfl) ?_
    refine lw_arg (G := G) (i := i) (j := 1) C0 hS1 hL hv rfl rfl rfl (by omega) dw_188 dw_189 dw_190 dw_191 dw_192 ?_
    refine lw_arg (G := G) (i := i) (j := 2) C0 hS1 hL hv rfl rfl rfl (by omega) dw_193 dw_194 dw_195 dw_196 dw_197 ?_
    exact kk
  · obtain ⟨z, rfl⟩ := hkd
    exact lv_icmp_eq hx hb (tgt := 732) dw_201 rfl (fun _ => next Nc Nr H2 locs2 hJ2 hH2) (fun y => (y rfl).elim)
theorem lc_sign (C0 : lw_At p s m meth c b L xs) (hL : L ≤ 2560) (hK : sl_K G s) (hG : lwG G s.heap.size) (hk : k ≤ room_1.cells ∧ w ≤ room_1.slots) {i : Nat} {n : Int} {Mc Mr : sl_M} (hi : i + 4 < L) (hJ : Jv n Mc Mr) (hn : n ≤ 1000000) (hH : lwH G s Mc Mr H locs) (hv : lv_has arr 4 [(3, .int (Int32.ofInt (i : Int))), (2, .ref (G.2.2 1 0)), (1, .ref (G.2.2 0 0)), (0, .ref b)]) (next : ∀ (Nc Nr : sl_M) (H2 : Heap) (locs2 : List Loc), Jv (n + 1) Nc Nr → lwH G s Nc Nr H2 locs2 → W p l e room_1 s m #[Value.ref b] below meth c H2 locs2 k w Qz (F0 m 732 arr [])) : W p l e room_1 s m #[Value.ref b] below meth c H locs k w Qz (F0 m 206 arr []) := by
  obtain ⟨hx, hb, hr, hml, hown, hts, hX, hbl, hlocks, hgv⟩ := id C0
  obtain ⟨rh, hJ⟩ := hJ
  refine lv_aload_n hx hb dw_206 rfl (lv_at hv 2 rfl) ?_
  refine lw_arg (G := G) (i := i) (j := 1) C0 hH.2.2 hL hv rfl rfl rfl (by omega) dw_207 dw_208 dw_209 dw_210 dw_211 ?_
  refine lw_arg (G := G) (i := i) (j := 2) C0 hH.2.2 hL hv rfl rfl rfl (by omega) dw_212 dw_213 dw_214 dw_215 dw_216 ?_
  refine lw_pair (As := [vI (xs (i + 1)).toInt, vI (xs (i + 2)).toInt]) (J' := Jv (n + 1)) C0 hK hG lmX9_sign lmX10_sign rfl (by intro v hv; simp only [List.mem_cons, List.not_mem_nil, or_false] at hv; rcases hv with rfl | rfl <;> exact sl_rgT _) hk (p_sign hJ hn) hH hv.1 (fun v H1 locs1 hS1 kk => ?_) (fun v Nc Nr H2 locs2 hkd hJ2 hH2 => ?_)
  · refine lv_aload_n hx hb dw_220 rfl (lv_at hv 1 rfl) ?_
    refine lw_arg (G := G) (i := i) (j := 1) C0 hS1 hL hv rfl rfl rfl (by omega) dw_221 dw_222 dw_223 dw_224 dw_225 ?_
    refine lw_arg (G := G) (i := i) (j := 2) C0 hS1 hL hv rfl rfl rfl (by omega) dw_226 dw_227 dw_228 dw_229 dw_230 ?_
    exact kk
  · obtain ⟨z, rfl⟩ := hkd
    exact lv_icmp_eq hx hb (tgt := 732) dw_234 rfl (fun _ => next Nc Nr H2 locs2 hJ2 hH2) (fun y => (y rfl).elim)
theorem lc_runs (C0 : lw_At p s m meth c b L xs) (hL : L ≤ 2560) (hK : sl_K G s) (hG : lwG G s.heap.size) (hk : k ≤ room_1.cells ∧ w ≤ room_1.slots) {i : Nat} {n : Int} {Mc Mr : sl_M} (hi : i + 4 < L) (hJ : Jv n Mc Mr) (hn : n ≤ 1000000) (hH : lwH G s Mc Mr H locs) (hv : lv_has arr 4 [(3, .int (Int32.ofInt (i : Int))), (2, .ref (G.2.2 1 0)), (1, .ref (G.2.2 0 0)), (0, .ref b)]) (next : ∀ (Nc Nr : sl_M) (H2 : Heap) (locs2 : List Loc), Jv (n + 1) Nc Nr → lwH G s Nc Nr H2 locs2 → W p l e room_1 s m #[Value.ref b] below meth c H2 locs2 k w Qz (F0 m 732 arr [])) : W p l e room_1 s m #[Value.ref b] below meth c H locs k w Qz (F0 m 239 arr []) := by
  obtain ⟨hx, hb, hr, hml, hown, hts, hX, hbl, hlocks, hgv⟩ := id C0
  obtain ⟨rh, hJ⟩ := hJ
  refine lv_aload_n hx hb dw_239 rfl (lv_at hv 2 rfl) ?_
  refine lw_arg (G := G) (i := i) (j := 1) C0 hH.2.2 hL hv rfl rfl rfl (by omega) dw_240 dw_241 dw_242 dw_243 dw_244 ?_
  refine lw_arg (G := G) (i := i) (j := 2) C0 hH.2.2 hL hv rfl rfl rfl (by omega) dw_245 dw_246 dw_247 dw_248 dw_249 ?_
  refine lw_pair (As := [vI (xs (i + 1)).toInt, vI (xs (i + 2)).toInt]) (J' := Jv (n + 1)) C0 hK hG lmX9_runs lmX10_runs rfl (by intro v hv; simp only [List.mem_cons, List.not_mem_nil, or_false] at hv; rcases hv with rfl | rfl <;> exact sl_rgT _) hk (p_runs hJ) hH hv.1 (fun v H1 locs1 hS1 kk => ?_) (fun v Nc Nr H2 locs2 hkd hJ2 hH2 => ?_)
  · refine lv_aload_n hx hb dw_253 rfl (lv_at hv 1 rfl) ?_
    refine lw_arg (G := G) (i := i) (j := 1) C0 hS1 hL hv rfl rfl rfl (by omega) dw_254 dw_255 dw_256 dw_257 dw_258 ?_
    refine lw_arg (G := G) (i := i) (j := 2) C0 hS1 hL hv rfl rfl rfl (by omega) dw_259 dw_260 dw_261 dw_262 dw_263 ?_
    exact kk
  · obtain ⟨z, rfl⟩ := hkd
    exact lv_icmp_eq hx hb (tgt := 732) dw_267 rfl (fun _ => next Nc Nr H2 locs2 hJ2 hH2) (fun y => (y rfl).elim)
theorem lc_ran (C0 : lw_At p s m meth c b L xs) (hL : L ≤ 2560) (hK : sl_K G s) (hG : lwG G s.heap.size) (hk : k ≤ room_1.cells ∧ w ≤ room_1.slots) {i : Nat} {n : Int} {Mc Mr : sl_M} (hi : i + 4 < L) (hJ : Jv n Mc Mr) (hn : n ≤ 1000000) (hH : lwH G s Mc Mr H locs) (hv : lv_has arr 4 [(3, .int (Int32.ofInt (i : Int))), (2, .ref (G.2.2 1 0)), (1, .ref (G.2.2 0 0)), (0, .ref b)]) (next : ∀ (Nc Nr : sl_M) (H2 : Heap) (locs2 : List Loc), Jv (n + 1) Nc Nr → lwH G s Nc Nr H2 locs2 → W p l e room_1 s m #[Value.ref b] below meth c H2 locs2 k w Qz (F0 m 732 arr [])) : W p l e room_1 s m #[Value.ref b] below meth c H locs k w Qz (F0 m 272 arr []) := by
  obtain ⟨hx, hb, hr, hml, hown, hts, hX, hbl, hlocks, hgv⟩ := id C0
  obtain ⟨rh, hJ⟩ := hJ
  refine lv_aload_n hx hb dw_272 rfl (lv_at hv 2 rfl) ?_
  refine lw_arg (G := G) (i := i) (j := 1) C0 hH.2.2 hL hv rfl rfl rfl (by omega) dw_273 dw_274 dw_275 dw_276 dw_277 ?_
  refine lw_arg (G := G) (i := i) (j := 2) C0 hH.2.2 hL hv rfl rfl rfl (by omega) dw_278 dw_279 dw_280 dw_281 dw_282 ?_
  refine lw_pair (As := [vI (xs (i + 1)).toInt, vI (xs (i + 2)).toInt]) (J' := Jv (n + 1)) C0 hK hG lmX9_ran lmX10_ran rfl (by intro v hv; simp only [List.mem_cons, List.not_mem_nil, or_false] at hv; rcases hv with rfl | rfl <;> exact sl_rgT _) hk (p_ran hJ hn) hH hv.1 (fun v H1 locs1 hS1 kk => ?_) (fun v Nc Nr H2 locs2 hkd hJ2 hH2 => ?_)
  · refine lv_aload_n hx hb dw_286 rfl (lv_at hv 1 rfl) ?_
    refine lw_arg (G := G) (i := i) (j := 1) C0 hS1 hL hv rfl rfl rfl (by omega) dw_287 dw_288 dw_289 dw_290 dw_291 ?_
    refine lw_arg (G := G) (i := i) (j := 2) C0 hS1 hL hv rfl rfl rfl (by omega) dw_292 dw_293 dw_294 dw_295 dw_296 ?_
    exact kk
  · obtain ⟨z, rfl⟩ := hkd
    exact lv_icmp_eq hx hb (tgt := 732) dw_300 rfl (fun _ => next Nc Nr H2 locs2 hJ2 hH2) (fun y => (y rfl).elim)
theorem lc_span (C0 : lw_At p s m meth c b L xs) (hL : L ≤ 2560) (hK : sl_K G s) (hG : lwG G s.heap.size) (hk : k ≤ room_1.cells ∧ w ≤ room_1.slots) {i : Nat} {n : Int} {Mc Mr : sl_M} (hi : i + 4 < L) (hJ : Jv n Mc Mr) (hn : n ≤ 1000000) (hH : lwH G s Mc Mr H locs) (hv : lv_has arr 4 [(3, .int (Int32.ofInt (i : Int))), (2, .ref (G.2.2 1 0)), (1, .ref (G.2.2 0 0)), (0, .ref b)]) (next : ∀ (Nc Nr : sl_M) (H2 : Heap) (locs2 : List Loc), Jv (n + 1) Nc Nr → lwH G s Nc Nr H2 locs2 → W p l e room_1 s m #[Value.ref b] below meth c H2 locs2 k w Qz (F0 m 732 arr [])) : W p l e room_1 s m #[Value.ref b] below meth c H locs k w Qz (F0 m 305 arr []) := by
  obtain ⟨hx, hb, hr, hml, hown, hts, hX, hbl, hlocks, hgv⟩ := id C0
  obtain ⟨rh, hJ⟩ := hJ
  refine lv_aload_n hx hb dw_305 rfl (lv_at hv 2 rfl) ?_
  refine lw_arg (G := G) (i := i) (j := 1) C0 hH.2.2 hL hv rfl rfl rfl (by omega) dw_306 dw_307 dw_308 dw_309 dw_310 ?_
  refine lw_arg (G := G) (i := i) (j := 2) C0 hH.2.2 hL hv rfl rfl rfl (by omega) dw_311 dw_312 dw_313 dw_314 dw_315 ?_
  refine lw_arg (G := G) (i := i) (j := 3) C0 hH.2.2 hL hv rfl rfl rfl (by omega) dw_316 dw_317 dw_318 dw_319 dw_320 ?_
  refine lw_pair (As := [vI (xs (i + 1)).toInt, vI (xs (i + 2)).toInt, vI (xs (i + 3)).toInt]) (J' := Jv (n + 1)) C0 hK hG lmX9_span lmX10_span rfl (by intro v hv; simp only [List.mem_cons, List.not_mem_nil, or_false] at hv; rcases hv with rfl | rfl | rfl <;> exact sl_rgT _) hk (p_span hJ hn) hH hv.1 (fun v H1 locs1 hS1 kk => ?_) (fun v Nc Nr H2 locs2 hkd hJ2 hH2 => ?_)
  · refine lv_aload_n hx hb dw_324 rfl (lv_at hv 1 rfl) ?_
    refine lw_arg (G := G) (i := i) (j := 1) C0 hS1 hL hv rfl rfl rfl (by omega) dw_325 dw_326 dw_327 dw_328 dw_329 ?_
    refine lw_arg (G := G) (i := i) (j := 2) C0 hS1 hL hv rfl rfl rfl (by omega) dw_330 dw_331 dw_332 dw_333 dw_334 ?_
    refine lw_arg (G := G) (i := i) (j := 3) C0 hS1 hL hv rfl rfl rfl (by omega) dw_335 dw_336 dw_337 dw_338 dw_339 ?_
    exact kk
  · obtain ⟨z, rfl⟩ := hkd
    exact lv_icmp_eq hx hb (tgt := 732) dw_343 rfl (fun _ => next Nc Nr H2 locs2 hJ2 hH2) (fun y => (y rfl).elim)
theorem lc_hands (C0 : lw_At p s m meth c b L xs) (hL : L ≤ 2560) (hK : sl_K G s) (hG : lwG G s.heap.size) (hk : k ≤ room_1.cells ∧ w ≤ room_1.slots) {i : Nat} {n : Int} {Mc Mr : sl_M} (hi : i + 4 < L) (hJ : Jv n Mc Mr) (hn : n ≤ 1000000) (hH : lwH G s Mc Mr H locs) (hv : lv_has arr 4 [(3, .int (Int32.ofInt (i : Int))), (2, .ref (G.2.2 1 0)), (1, .ref (G.2.2 0 0)), (0, .ref b)]) (next : ∀ (Nc Nr : sl_M) (H2 : Heap) (locs2 : List Loc), Jv (n + 1) Nc Nr → lwH G s Nc Nr H2 locs2 → W p l e room_1 s m #[Value.ref b] below meth c H2 locs2 k w Qz (F0 m 732 arr [])) : W p l e room_1 s m #[Value.ref b] below meth c H locs k w Qz (F0 m 348 arr []) := by
  obtain ⟨hx, hb, hr, hml, hown, hts, hX, hbl, hlocks, hgv⟩ := id C0
  obtain ⟨rh, hJ⟩ := hJ
  refine lv_aload_n hx hb dw_348 rfl (lv_at hv 2 rfl) ?_
  refine lw_arg (G := G) (i := i) (j := 1) C0 hH.2.2 hL hv rfl rfl rfl (by omega) dw_349 dw_350 dw_351 dw_352 dw_353 ?_
  refine lw_arg (G := G) (i := i) (j := 2) C0 hH.2.2 hL hv rfl rfl rfl (by omega) dw_354 dw_355 dw_356 dw_357 dw_358 ?_
  refine lw_arg (G := G) (i := i) (j := 3) C0 hH.2.2 hL hv rfl rfl rfl (by omega) dw_359 dw_360 dw_361 dw_362 dw_363 ?_
  refine lw_arg (G := G) (i := i) (j := 4) C0 hH.2.2 hL hv rfl rfl rfl (by omega) dw_364 dw_365 dw_366 dw_367 dw_368 ?_
  refine lw_pair (As := [vI (xs (i + 1)).toInt, vI (xs (i + 2)).toInt, vI (xs (i + 3)).toInt, vI (xs (i + 4)).toInt]) (J' := Jv (n + 1)) C0 hK hG lmX9_hands lmX10_hands rfl (by intro v hv; simp only [List.mem_cons, List.not_mem_nil, or_false] at hv; rcases hv with rfl | rfl | rfl | rfl <;> exact sl_rgT _) hk (p_hands hJ hn) hH hv.1 (fun v H1 locs1 hS1 kk => ?_) (fun v Nc Nr H2 locs2 hkd hJ2 hH2 => ?_)
  · refine lv_aload_n hx hb dw_372 rfl (lv_at hv 1 rfl) ?_
    refine lw_arg (G := G) (i := i) (j := 1) C0 hS1 hL hv rfl rfl rfl (by omega) dw_373 dw_374 dw_375 dw_376 dw_377 ?_
    refine lw_arg (G := G) (i := i) (j := 2) C0 hS1 hL hv rfl rfl rfl (by omega) dw_378 dw_379 dw_380 dw_381 dw_382 ?_
    refine lw_arg (G := G) (i := i) (j := 3) C0 hS1 hL hv rfl rfl rfl (by omega) dw_383 dw_384 dw_385 dw_386 dw_387 ?_
    refine lw_arg (G := G) (i := i) (j := 4) C0 hS1 hL hv rfl rfl rfl (by omega) dw_388 dw_389 dw_390 dw_391 dw_392 ?_
    exact kk
  · obtain ⟨z, rfl⟩ := hkd
    exact lv_icmp_eq hx hb (tgt := 732) dw_396 rfl (fun _ => next Nc Nr H2 locs2 hJ2 hH2) (fun y => (y rfl).elim)
theorem lc_live (C0 : lw_At p s m meth c b L xs) (hL : L ≤ 2560) (hK : sl_K G s) (hG : lwG G s.heap.size) (hk : k ≤ room_1.cells ∧ w ≤ room_1.slots) {i : Nat} {n : Int} {Mc Mr : sl_M} (hi : i + 4 < L) (hJ : Jv n Mc Mr) (hn : n ≤ 1000000) (hH : lwH G s Mc Mr H locs) (hv : lv_has arr 4 [(3, .int (Int32.ofInt (i : Int))), (2, .ref (G.2.2 1 0)), (1, .ref (G.2.2 0 0)), (0, .ref b)]) (next : ∀ (Nc Nr : sl_M) (H2 : Heap) (locs2 : List Loc), Jv (n + 1) Nc Nr → lwH G s Nc Nr H2 locs2 → W p l e room_1 s m #[Value.ref b] below meth c H2 locs2 k w Qz (F0 m 732 arr [])) : W p l e room_1 s m #[Value.ref b] below meth c H locs k w Qz (F0 m 401 arr []) := by
  obtain ⟨hx, hb, hr, hml, hown, hts, hX, hbl, hlocks, hgv⟩ := id C0
  obtain ⟨rh, hJ⟩ := hJ
  refine lv_aload_n hx hb dw_401 rfl (lv_at hv 2 rfl) ?_
  refine lw_arg (G := G) (i := i) (j := 1) C0 hH.2.2 hL hv rfl rfl rfl (by omega) dw_402 dw_403 dw_404 dw_405 dw_406 ?_
  refine lw_arg (G := G) (i := i) (j := 2) C0 hH.2.2 hL hv rfl rfl rfl (by omega) dw_407 dw_408 dw_409 dw_410 dw_411 ?_
  refine lw_arg (G := G) (i := i) (j := 3) C0 hH.2.2 hL hv rfl rfl rfl (by omega) dw_412 dw_413 dw_414 dw_415 dw_416 ?_
  refine lw_arg (G := G) (i := i) (j := 4) C0 hH.2.2 hL hv rfl rfl rfl (by omega) dw_417 dw_418 dw_419 dw_420 dw_421 ?_
  refine lw_pair (As := [vI (xs (i + 1)).toInt, vI (xs (i + 2)).toInt, vI (xs (i + 3)).toInt, vI (xs (i + 4)).toInt]) (J' := Jv (n + 1)) C0 hK hG lmX9_live lmX10_live rfl (by intro v hv; simp only [List.mem_cons, List.not_mem_nil, or_false] at hv; rcases hv with rfl | rfl | rfl | rfl <;> exact sl_rgT _) hk (p_live hJ hn) hH hv.1 (fun v H1 locs1 hS1 kk => ?_) (fun v Nc Nr H2 locs2 hkd hJ2 hH2 => ?_)
  · refine lv_aload_n hx hb dw_425 rfl (lv_at hv 1 rfl) ?_
    refine lw_arg (G := G) (i := i) (j := 1) C0 hS1 hL hv rfl rfl rfl (by omega) dw_426 dw_427 dw_428 dw_429 dw_430 ?_
    refine lw_arg (G := G) (i := i) (j := 2) C0 hS1 hL hv rfl rfl rfl (by omega) dw_431 dw_432 dw_433 dw_434 dw_435 ?_
    refine lw_arg (G := G) (i := i) (j := 3) C0 hS1 hL hv rfl rfl rfl (by omega) dw_436 dw_437 dw_438 dw_439 dw_440 ?_
    refine lw_arg (G := G) (i := i) (j := 4) C0 hS1 hL hv rfl rfl rfl (by omega) dw_441 dw_442 dw_443 dw_444 dw_445 ?_
    exact kk
  · obtain ⟨z, rfl⟩ := hkd
    exact lv_icmp_eq hx hb (tgt := 732) dw_449 rfl (fun _ => next Nc Nr H2 locs2 hJ2 hH2) (fun y => (y rfl).elim)
theorem lc_sure (C0 : lw_At p s m meth c b L xs) (hL : L ≤ 2560) (hK : sl_K G s) (hG : lwG G s.heap.size) (hk : k ≤ room_1.cells ∧ w ≤ room_1.slots) {i : Nat} {n : Int} {Mc Mr : sl_M} (hi : i + 4 < L) (hJ : Jv n Mc Mr) (hn : n ≤ 1000000) (hH : lwH G s Mc Mr H locs) (hv : lv_has arr 4 [(3, .int (Int32.ofInt (i : Int))), (2, .ref (G.2.2 1 0)), (1, .ref (G.2.2 0 0)), (0, .ref b)]) (next : ∀ (Nc Nr : sl_M) (H2 : Heap) (locs2 : List Loc), Jv (n + 1) Nc Nr → lwH G s Nc Nr H2 locs2 → W p l e room_1 s m #[Value.ref b] below meth c H2 locs2 k w Qz (F0 m 732 arr [])) : W p l e room_1 s m #[Value.ref b] below meth c H locs k w Qz (F0 m 454 arr []) := by
  obtain ⟨hx, hb, hr, hml, hown, hts, hX, hbl, hlocks, hgv⟩ := id C0
  obtain ⟨rh, hJ⟩ := hJ
  refine lv_aload_n hx hb dw_454 rfl (lv_at hv 2 rfl) ?_
  refine lw_arg (G := G) (i := i) (j := 1) C0 hH.2.2 hL hv rfl rfl rfl (by omega) dw_455 dw_456 dw_457 dw_458 dw_459 ?_
  refine lw_arg (G := G) (i := i) (j := 2) C0 hH.2.2 hL hv rfl rfl rfl (by omega) dw_460 dw_461 dw_462 dw_463 dw_464 ?_
  refine lw_pair (As := [vI (xs (i + 1)).toInt, vI (xs (i + 2)).toInt]) (J' := Jv (n + 1)) C0 hK hG lmX9_sure lmX10_sure rfl (by intro v hv; simp only [List.mem_cons, List.not_mem_nil, or_false] at hv; rcases hv with rfl | rfl <;> exact sl_rgT _) hk (p_sure hJ hn) hH hv.1 (fun v H1 locs1 hS1 kk => ?_) (fun v Nc Nr H2 locs2 hkd hJ2 hH2 => ?_)
  · refine lv_aload_n hx hb dw_468 rfl (lv_at hv 1 rfl) ?_
    refine lw_arg (G := G) (i := i) (j := 1) C0 hS1 hL hv rfl rfl rfl (by omega) dw_469 dw_470 dw_471 dw_472 dw_473 ?_
    refine lw_arg (G := G) (i := i) (j := 2) C0 hS1 hL hv rfl rfl rfl (by omega) dw_474 dw_475 dw_476 dw_477 dw_478 ?_
    exact kk
  · obtain ⟨z, rfl⟩ := hkd
    exact lv_icmp_eq hx hb (tgt := 732) dw_482 rfl (fun _ => next Nc Nr H2 locs2 hJ2 hH2) (fun y => (y rfl).elim)
theorem lc_alike (C0 : lw_At p s m meth c b L xs) (hL : L ≤ 2560) (hK : sl_K G s) (hG : lwG G s.heap.size) (hk : k ≤ room_1.cells ∧ w ≤ room_1.slots) {i : Nat} {n : Int} {Mc Mr : sl_M} (hi : i + 4 < L) (hJ : Jv n Mc Mr) (hn : n ≤ 1000000) (hH : lwH G s Mc Mr H locs) (hv : lv_has arr 4 [(3, .int (Int32.ofInt (i : Int))), (2, .ref (G.2.2 1 0)), (1, .ref (G.2.2 0 0)), (0, .ref b)]) (next : ∀ (Nc Nr : sl_M) (H2 : Heap) (locs2 : List Loc), Jv (n + 1) Nc Nr → lwH G s Nc Nr H2 locs2 → W p l e room_1 s m #[Value.ref b] below meth c H2 locs2 k w Qz (F0 m 732 arr [])) : W p l e room_1 s m #[Value.ref b] below meth c H locs k w Qz (F0 m 487 arr []) := by
  obtain ⟨hx, hb, hr, hml, hown, hts, hX, hbl, hlocks, hgv⟩ := id C0
  obtain ⟨rh, hJ⟩ := hJ
  refine lv_aload_n hx hb dw_487 rfl (lv_at hv 2 rfl) ?_
  refine lw_arg (G := G) (i := i) (j := 1) C0 hH.2.2 hL hv rfl rfl rfl (by omega) dw_488 dw_489 dw_490 dw_491 dw_492 ?_
  refine lw_arg (G := G) (i := i) (j := 2) C0 hH.2.2 hL hv rfl rfl rfl (by omega) dw_493 dw_494 dw_495 dw_496 dw_497 ?_
  refine lw_arg (G := G) (i := i) (j := 3) C0 hH.2.2 hL hv rfl rfl rfl (by omega) dw_498 dw_499 dw_500 dw_501 dw_502 ?_
  refine lw_arg (G := G) (i := i) (j := 4) C0 hH.2.2 hL hv rfl rfl rfl (by omega) dw_503 dw_504 dw_505 dw_506 dw_507 ?_
  refine lw_pair (As := [vI (xs (i + 1)).toInt, vI (xs (i + 2)).toInt, vI (xs (i + 3)).toInt, vI (xs (i + 4)).toInt]) (J' := Jv (n + 1)) C0 hK hG lmX9_alike lmX10_alike rfl (by intro v hv; simp only [List.mem_cons, List.not_mem_nil, or_false] at hv; rcases hv with rfl | rfl | rfl | rfl <;> exact sl_rgT _) hk (p_alike hJ hn) hH hv.1 (fun v H1 locs1 hS1 kk => ?_) (fun v Nc Nr H2 locs2 hkd hJ2 hH2 => ?_)
  · refine lv_aload_n hx hb dw_511 rfl (lv_at hv 1 rfl) ?_
    refine lw_arg (G := G) (i := i) (j := 1) C0 hS1 hL hv rfl rfl rfl (by omega) dw_512 dw_513 dw_514 dw_515 dw_516 ?_
    refine lw_arg (G := G) (i := i) (j := 2) C0 hS1 hL hv rfl rfl rfl (by omega) dw_517 dw_518 dw_519 dw_520 dw_521 ?_
    refine lw_arg (G := G) (i := i) (j := 3) C0 hS1 hL hv rfl rfl rfl (by omega) dw_522 dw_523 dw_524 dw_525 dw_526 ?_
    refine lw_arg (G := G) (i := i) (j := 4) C0 hS1 hL hv rfl rfl rfl (by omega) dw_527 dw_528 dw_529 dw_530 dw_531 ?_
    exact kk
  · obtain ⟨z, rfl⟩ := hkd
    exact lv_icmp_eq hx hb (tgt := 732) dw_535 rfl (fun _ => next Nc Nr H2 locs2 hJ2 hH2) (fun y => (y rfl).elim)
theorem lc_lifts (C0 : lw_At p s m meth c b L xs) (hL : L ≤ 2560) (hK : sl_K G s) (hG : lwG G s.heap.size) (hk : k ≤ room_1.cells ∧ w ≤ room_1.slots) {i : Nat} {n : Int} {Mc Mr : sl_M} (hi : i + 4 < L) (hJ : Jv n Mc Mr) (hn : n ≤ 1000000) (hH : lwH G s Mc Mr H locs) (hv : lv_has arr 4 [(3, .int (Int32.ofInt (i : Int))), (2, .ref (G.2.2 1 0)), (1, .ref (G.2.2 0 0)), (0, .ref b)]) (next : ∀ (Nc Nr : sl_M) (H2 : Heap) (locs2 : List Loc), Jv (n + 1) Nc Nr → lwH G s Nc Nr H2 locs2 → W p l e room_1 s m #[Value.ref b] below meth c H2 locs2 k w Qz (F0 m 732 arr [])) : W p l e room_1 s m #[Value.ref b] below meth c H locs k w Qz (F0 m 540 arr []) := by
  obtain ⟨hx, hb, hr, hml, hown, hts, hX, hbl, hlocks, hgv⟩ := id C0
  obtain ⟨rh, hJ⟩ := hJ
  refine lv_aload_n hx hb dw_540 rfl (lv_at hv 2 rfl) ?_
  refine lw_arg (G := G) (i := i) (j := 1) C0 hH.2.2 hL hv rfl rfl rfl (by omega) dw_541 dw_542 dw_543 dw_544 dw_545 ?_
  refine lw_arg (G := G) (i := i) (j := 2) C0 hH.2.2 hL hv rfl rfl rfl (by omega) dw_546 dw_547 dw_548 dw_549 dw_550 ?_
  refine lw_arg (G := G) (i := i) (j := 3) C0 hH.2.2 hL hv rfl rfl rfl (by omega) dw_551 dw_552 dw_553 dw_554 dw_555 ?_
  refine lw_pair (As := [vI (xs (i + 1)).toInt, vI (xs (i + 2)).toInt, vI (xs (i + 3)).toInt]) (J' := Jv (n + 1)) C0 hK hG lmX9_lifts lmX10_lifts rfl (by intro v hv; simp only [List.mem_cons, List.not_mem_nil, or_false] at hv; rcases hv with rfl | rfl | rfl <;> exact sl_rgT _) hk (p_lifts hJ hn) hH hv.1 (fun v H1 locs1 hS1 kk => ?_) (fun v Nc Nr H2 locs2 hkd hJ2 hH2 => ?_)
  · refine lv_aload_n hx hb dw_559 rfl (lv_at hv 1 rfl) ?_
    refine lw_arg (G := G) (i := i) (j := 1) C0 hS1 hL hv rfl rfl rfl (by omega) dw_560 dw_561 dw_562 dw_563 dw_564 ?_
    refine lw_arg (G := G) (i := i) (j := 2) C0 hS1 hL hv rfl rfl rfl (by omega) dw_565 dw_566 dw_567 dw_568 dw_569 ?_
    refine lw_arg (G := G) (i := i) (j := 3) C0 hS1 hL hv rfl rfl rfl (by omega) dw_570 dw_571 dw_572 dw_573 dw_574 ?_
    exact kk
  · obtain ⟨z, rfl⟩ := hkd
    exact lv_icmp_eq hx hb (tgt := 732) dw_578 rfl (fun _ => next Nc Nr H2 locs2 hJ2 hH2) (fun y => (y rfl).elim)
theorem lc_method (C0 : lw_At p s m meth c b L xs) (hL : L ≤ 2560) (hK : sl_K G s) (hG : lwG G s.heap.size) (hk : k ≤ room_1.cells ∧ w ≤ room_1.slots) {i : Nat} {n : Int} {Mc Mr : sl_M} (hi : i + 4 < L) (hJ : Jv n Mc Mr) (hn : n ≤ 1000000) (hH : lwH G s Mc Mr H locs) (hv : lv_has arr 4 [(3, .int (Int32.ofInt (i : Int))), (2, .ref (G.2.2 1 0)), (1, .ref (G.2.2 0 0)), (0, .ref b)]) (next : ∀ (Nc Nr : sl_M) (H2 : Heap) (locs2 : List Loc), Jv (n + 1) Nc Nr → lwH G s Nc Nr H2 locs2 → W p l e room_1 s m #[Value.ref b] below meth c H2 locs2 k w Qz (F0 m 732 arr [])) : W p l e room_1 s m #[Value.ref b] below meth c H locs k w Qz (F0 m 583 arr []) := by
  obtain ⟨hx, hb, hr, hml, hown, hts, hX, hbl, hlocks, hgv⟩ := id C0
  obtain ⟨rh, hJ⟩ := hJ
  refine lv_aload_n hx hb dw_583 rfl (lv_at hv 2 rfl) ?_
  refine lw_arg (G := G) (i := i) (j := 1) C0 hH.2.2 hL hv rfl rfl rfl (by omega) dw_584 dw_585 dw_586 dw_587 dw_588 ?_
  refine lw_arg (G := G) (i := i) (j := 2) C0 hH.2.2 hL hv rfl rfl rfl (by omega) dw_589 dw_590 dw_591 dw_592 dw_593 ?_
  refine lw_pair (As := [vI (xs (i + 1)).toInt, vI (xs (i + 2)).toInt]) (J' := Jv (n + 1)) C0 hK hG lmX9_method lmX10_method rfl (by intro v hv; simp only [List.mem_cons, List.not_mem_nil, or_false] at hv; rcases hv with rfl | rfl <;> exact sl_rgT _) hk (p_method hJ hn) hH hv.1 (fun v H1 locs1 hS1 kk => ?_) (fun v Nc Nr H2 locs2 hkd hJ2 hH2 => ?_)
  · refine lv_aload_n hx hb dw_597 rfl (lv_at hv 1 rfl) ?_
    refine lw_arg (G := G) (i := i) (j := 1) C0 hS1 hL hv rfl rfl rfl (by omega) dw_598 dw_599 dw_600 dw_601 dw_602 ?_
    refine lw_arg (G := G) (i := i) (j := 2) C0 hS1 hL hv rfl rfl rfl (by omega) dw_603 dw_604 dw_605 dw_606 dw_607 ?_
    exact kk
  · obtain ⟨z, rfl⟩ := hkd
    exact lv_icmp_eq hx hb (tgt := 732) dw_611 rfl (fun _ => next Nc Nr H2 locs2 hJ2 hH2) (fun y => (y rfl).elim)
theorem lc_formal (C0 : lw_At p s m meth c b L xs) (hL : L ≤ 2560) (hK : sl_K G s) (hG : lwG G s.heap.size) (hk : k ≤ room_1.cells ∧ w ≤ room_1.slots) {i : Nat} {n : Int} {Mc Mr : sl_M} (hi : i + 4 < L) (hJ : Jv n Mc Mr) (hn : n ≤ 1000000) (hH : lwH G s Mc Mr H locs) (hv : lv_has arr 4 [(3, .int (Int32.ofInt (i : Int))), (2, .ref (G.2.2 1 0)), (1, .ref (G.2.2 0 0)), (0, .ref b)]) (next : ∀ (Nc Nr : sl_M) (H2 : Heap) (locs2 : List Loc), Jv (n + 1) Nc Nr → lwH G s Nc Nr H2 locs2 → W p l e room_1 s m #[Value.ref b] below meth c H2 locs2 k w Qz (F0 m 732 arr [])) : W p l e room_1 s m #[Value.ref b] below meth c H locs k w Qz (F0 m 616 arr []) := by
  obtain ⟨hx, hb, hr, hml, hown, hts, hX, hbl, hlocks, hgv⟩ := id C0
  obtain ⟨rh, hJ⟩ := hJ
  refine lv_aload_n hx hb dw_616 rfl (lv_at hv 2 rfl) ?_
  refine lw_arg (G := G) (i := i) (j := 1) C0 hH.2.2 hL hv rfl rfl rfl (by omega) dw_617 dw_618 dw_619 dw_620 dw_621 ?_
  refine lw_arg (G := G) (i := i) (j := 2) C0 hH.2.2 hL hv rfl rfl rfl (by omega) dw_622 dw_623 dw_624 dw_625 dw_626 ?_
  refine lw_arg (G := G) (i := i) (j := 3) C0 hH.2.2 hL hv rfl rfl rfl (by omega) dw_627 dw_628 dw_629 dw_630 dw_631 ?_
  refine lw_pair (As := [vI (xs (i + 1)).toInt, vI (xs (i + 2)).toInt, vI (xs (i + 3)).toInt]) (J' := Jv (n + 1)) C0 hK hG lmX9_formal lmX10_formal rfl (by intro v hv; simp only [List.mem_cons, List.not_mem_nil, or_false] at hv; rcases hv with rfl | rfl | rfl <;> exact sl_rgT _) hk (p_formal hJ hn) hH hv.1 (fun v H1 locs1 hS1 kk => ?_) (fun v Nc Nr H2 locs2 hkd hJ2 hH2 => ?_)
  · refine lv_aload_n hx hb dw_635 rfl (lv_at hv 1 rfl) ?_
    refine lw_arg (G := G) (i := i) (j := 1) C0 hS1 hL hv rfl rfl rfl (by omega) dw_636 dw_637 dw_638 dw_639 dw_640 ?_
    refine lw_arg (G := G) (i := i) (j := 2) C0 hS1 hL hv rfl rfl rfl (by omega) dw_641 dw_642 dw_643 dw_644 dw_645 ?_
    refine lw_arg (G := G) (i := i) (j := 3) C0 hS1 hL hv rfl rfl rfl (by omega) dw_646 dw_647 dw_648 dw_649 dw_650 ?_
    exact kk
  · obtain ⟨z, rfl⟩ := hkd
    exact lv_icmp_eq hx hb (tgt := 732) dw_654 rfl (fun _ => next Nc Nr H2 locs2 hJ2 hH2) (fun y => (y rfl).elim)
theorem lc_settles (C0 : lw_At p s m meth c b L xs) (hL : L ≤ 2560) (hK : sl_K G s) (hG : lwG G s.heap.size) (hk : k ≤ room_1.cells ∧ w ≤ room_1.slots) {i : Nat} {n : Int} {Mc Mr : sl_M} (hi : i + 4 < L) (hJ : Jv n Mc Mr) (hn : n ≤ 1000000) (hH : lwH G s Mc Mr H locs) (hv : lv_has arr 4 [(3, .int (Int32.ofInt (i : Int))), (2, .ref (G.2.2 1 0)), (1, .ref (G.2.2 0 0)), (0, .ref b)]) (next : ∀ (Nc Nr : sl_M) (H2 : Heap) (locs2 : List Loc), Jv (n + 1) Nc Nr → lwH G s Nc Nr H2 locs2 → W p l e room_1 s m #[Value.ref b] below meth c H2 locs2 k w Qz (F0 m 732 arr [])) : W p l e room_1 s m #[Value.ref b] below meth c H locs k w Qz (F0 m 659 arr []) := by
  obtain ⟨hx, hb, hr, hml, hown, hts, hX, hbl, hlocks, hgv⟩ := id C0
  obtain ⟨rh, hJ⟩ := hJ
  refine lv_aload_n hx hb dw_659 rfl (lv_at hv 2 rfl) ?_
  refine lw_arg (G := G) (i := i) (j := 1) C0 hH.2.2 hL hv rfl rfl rfl (by omega) dw_660 dw_661 dw_662 dw_663 dw_664 ?_
  refine lw_pair (As := [vI (xs (i + 1)).toInt]) (J' := Jv (n + 1)) C0 hK hG lmX9_settles lmX10_settles rfl (by intro v hv; simp only [List.mem_cons, List.not_mem_nil, or_false] at hv; rcases hv with rfl <;> exact sl_rgT _) hk (p_settles hJ hn) hH hv.1 (fun v H1 locs1 hS1 kk => ?_) (fun v Nc Nr H2 locs2 hkd hJ2 hH2 => ?_)
  · refine lv_aload_n hx hb dw_668 rfl (lv_at hv 1 rfl) ?_
    refine lw_arg (G := G) (i := i) (j := 1) C0 hS1 hL hv rfl rfl rfl (by omega) dw_669 dw_670 dw_671 dw_672 dw_673 ?_
    exact kk
  · obtain ⟨z, rfl⟩ := hkd
    exact lv_icmp_eq hx hb (tgt := 732) dw_677 rfl (fun _ => next Nc Nr H2 locs2 hJ2 hH2) (fun y => (y rfl).elim)
theorem lc_back (C0 : lw_At p s m meth c b L xs) (hL : L ≤ 2560) (hK : sl_K G s) (hG : lwG G s.heap.size) (hk : k ≤ room_1.cells ∧ w ≤ room_1.slots) {i : Nat} {n : Int} {Mc Mr : sl_M} (hi : i + 4 < L) (hJ : Jv n Mc Mr) (hn : n ≤ 1000000) (hH : lwH G s Mc Mr H locs) (hv : lv_has arr 4 [(3, .int (Int32.ofInt (i : Int))), (2, .ref (G.2.2 1 0)), (1, .ref (G.2.2 0 0)), (0, .ref b)]) (next : ∀ (Nc Nr : sl_M) (H2 : Heap) (locs2 : List Loc), Jv (n + 1) Nc Nr → lwH G s Nc Nr H2 locs2 → W p l e room_1 s m #[Value.ref b] below meth c H2 locs2 k w Qz (F0 m 732 arr [])) : W p l e room_1 s m #[Value.ref b] below meth c H locs k w Qz (F0 m 682 arr []) := by
  obtain ⟨hx, hb, hr, hml, hown, hts, hX, hbl, hlocks, hgv⟩ := id C0
  obtain ⟨rh, hJ⟩ := hJ
  refine lv_aload_n hx hb dw_682 rfl (lv_at hv 2 rfl) ?_
  refine lw_pair (As := []) (J' := Jv (n + 1)) C0 hK hG lmX9_back lmX10_back rfl (fun v hv => (List.not_mem_nil hv).elim) hk (p_back hJ hn) hH hv.1 (fun v H1 locs1 hS1 kk => ?_) (fun v Nc Nr H2 locs2 hkd hJ2 hH2 => ?_)
  · refine lv_aload_n hx hb dw_686 rfl (lv_at hv 1 rfl) ?_
    exact kk
  · obtain ⟨z, rfl⟩ := hkd
    exact lv_icmp_eq hx hb (tgt := 732) dw_690 rfl (fun _ => next Nc Nr H2 locs2 hJ2 hH2) (fun y => (y rfl).elim)
theorem lc_told (C0 : lw_At p s m meth c b L xs) (hL : L ≤ 2560) (hK : sl_K G s) (hG : lwG G s.heap.size) (hk : k ≤ room_1.cells ∧ w ≤ room_1.slots) {i : Nat} {n : Int} {Mc Mr : sl_M} (hi : i + 4 < L) (hJ : Jv n Mc Mr) (hn : n ≤ 1000000) (hH : lwH G s Mc Mr H locs) (hv : lv_has arr 4 [(3, .int (Int32.ofInt (i : Int))), (2, .ref (G.2.2 1 0)), (1, .ref (G.2.2 0 0)), (0, .ref b)]) (next : ∀ (Nc Nr : sl_M) (H2 : Heap) (locs2 : List Loc), Jv (n + 1) Nc Nr → lwH G s Nc Nr H2 locs2 → W p l e room_1 s m #[Value.ref b] below meth c H2 locs2 k w Qz (F0 m 732 arr [])) : W p l e room_1 s m #[Value.ref b] below meth c H locs k w Qz (F0 m 695 arr []) := by
  obtain ⟨hx, hb, hr, hml, hown, hts, hX, hbl, hlocks, hgv⟩ := id C0
  obtain ⟨rh, hJ⟩ := hJ
  refine lv_aload_n hx hb dw_695 rfl (lv_at hv 2 rfl) ?_
  refine lw_arg (G := G) (i := i) (j := 1) C0 hH.2.2 hL hv rfl rfl rfl (by omega) dw_696 dw_697 dw_698 dw_699 dw_700 ?_
  refine lw_pair (As := [vI (xs (i + 1)).toInt]) (J' := Jv (n + 1)) C0 hK hG lmX9_told lmX10_told rfl (by intro v hv; simp only [List.mem_cons, List.not_mem_nil, or_false] at hv; rcases hv with rfl <;> exact sl_rgT _) hk (p_told hJ hn) hH hv.1 (fun v H1 locs1 hS1 kk => ?_) (fun v Nc Nr H2 locs2 hkd hJ2 hH2 => ?_)
  · refine lv_aload_n hx hb dw_704 rfl (lv_at hv 1 rfl) ?_
    refine lw_arg (G := G) (i := i) (j := 1) C0 hS1 hL hv rfl rfl rfl (by omega) dw_705 dw_706 dw_707 dw_708 dw_709 ?_
    exact kk
  · obtain ⟨z, rfl⟩ := hkd
    exact lv_icmp_eq hx hb (tgt := 732) dw_713 rfl (fun _ => next Nc Nr H2 locs2 hJ2 hH2) (fun y => (y rfl).elim)
theorem lc_digest (C0 : lw_At p s m meth c b L xs) (hL : L ≤ 2560) (hK : sl_K G s) (hG : lwG G s.heap.size) (hk : k ≤ room_1.cells ∧ w ≤ room_1.slots) {i : Nat} {n : Int} {Mc Mr : sl_M} (hi : i + 4 < L) (hJ : Jv n Mc Mr) (hn : n ≤ 1000000) (hH : lwH G s Mc Mr H locs) (hv : lv_has arr 4 [(3, .int (Int32.ofInt (i : Int))), (2, .ref (G.2.2 1 0)), (1, .ref (G.2.2 0 0)), (0, .ref b)]) (next : ∀ (Nc Nr : sl_M) (H2 : Heap) (locs2 : List Loc), Jv (n + 1) Nc Nr → lwH G s Nc Nr H2 locs2 → W p l e room_1 s m #[Value.ref b] below meth c H2 locs2 k w Qz (F0 m 732 arr [])) : W p l e room_1 s m #[Value.ref b] below meth c H locs k w Qz (F0 m 718 arr []) := by
  obtain ⟨hx, hb, hr, hml, hown, hts, hX, hbl, hlocks, hgv⟩ := id C0
  obtain ⟨rh, hJ⟩ := hJ
  refine lv_aload_n hx hb dw_718 rfl (lv_at hv 2 rfl) ?_
  refine lw_pair (As := []) (J' := Jv (n + 1)) C0 hK hG lmX9_digest lmX10_digest rfl (fun v hv => (List.not_mem_nil hv).elim) hk (p_digest hJ) hH hv.1 (fun v H1 locs1 hS1 kk => ?_) (fun v Nc Nr H2 locs2 hkd hJ2 hH2 => ?_)
  · refine lv_aload_n hx hb dw_722 rfl (lv_at hv 1 rfl) ?_
    exact kk
  · obtain ⟨z, rfl⟩ := hkd
    refine W.lcmp hx hb dw_726 ?_
    exact lv_if_eq hx hb (tgt := 732) dw_727 rfl (fun _ => next Nc Nr H2 locs2 hJ2 hH2) (fun y => (y (lg_cmp_s z)).elim)
end LC
