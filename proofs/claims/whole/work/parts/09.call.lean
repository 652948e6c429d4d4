section R
variable {l : Launch} {f : sl_F} {pc : Nat} {ls : sl_L} {st : List sl_V} {M : sl_M} {Q : sl_R}
theorem sl_NT_is {w : Cond} (h : w ∈ sl_NT) : ∃ a i x b, w = .methodLinkNest a i x b := by
  have h2 := (List.mem_filter.mp h).2
  unfold sl_isN at h2
  split at h2
  · exact ⟨_, _, _, _, rfl⟩
  · cases h2
theorem sl_K.warm {G : sl_G} {s U : State} (h : sl_K G s) (hW : s.WarmedH U.vm) : sl_K G U := ⟨va_K.moved hW.alike h.1, fun w hw => by
  obtain ⟨a, i, x, b, rfl⟩ := sl_NT_is hw
  exact va_Nw.warmM hW (h.2 _ hw)⟩
theorem sl_K.same {G : sl_G} {s U : State} (h : sl_K G s) (e : s.vm = U.vm) : sl_K G U := ⟨va_K.moved (by rw [e]; exact Vm.Alike.refl _) h.1, fun w hw => by
  obtain ⟨a, i, x, b, rfl⟩ := sl_NT_is hw
  exact va_Nw.same rfl e (h.2 _ hw)⟩
theorem sl_Runs.mono {as : List sl_V} {Q' : sl_R} (h : sl_RM M → ∀ r N, (∀ v, r = some v → sl_ok v) → sl_RM N → Q r N → Q' r N) (k : sl_Runs l f as M Q) : sl_Runs l f as M Q' := by
  intro hM ha G hG p e ha1 hc1 hk1 s m args below hf
  intro h1 h2 h3
  have := k hM ha G hG p e ha1 hc1 hk1 s m args below hf h1 h2 h3
  obtain ⟨t, o, a1, a2, a3, ⟨⟨r, N, b1, b2, b3, b4, b5⟩, b6⟩, a5⟩ := this
  exact ⟨t, o, a1, a2, a3, ⟨⟨r, N, b1, b2, b3, h hM _ _ b2 b3 b4, b5⟩, b6⟩, a5⟩
/-- where a method begins -/
theorem sl_Runs.of {as : List sl_V} (hy : plainName f.nm.cls = true) (ho : f.own = f.nm.cls) (he : ∀ G, lv_args 0 (as.map (sl_cv G)) = sl_lc G ls) (hn : ∀ G, (lg_sl (as.map (sl_cv G))).length ≤ f.nL) (hls : ls.map (fun q => q.2) = as) (k : sl_At l f 0 ls [] M Q) : sl_Runs l f as M Q := by
  intro hM ha G hG
  refine Met.ofW (cc := f.cd) (maxL := f.nL) (ret := f.rt) hy rfl ?_
  intro p e s m args below meth c s₁ B hml hv
  obtain ⟨rfl, hW, hK⟩ := hv
  have hown : s.vm.findClass f.own = some m.cls := by rw [ho]; exact findClass_of_methodNamed B.named
  rw [lg_entry_eq]
  have hl := lv_entry (as.map (sl_cv G)) (n := f.nL) (hn G)
  rw [he G] at hl
  exact k hM (fun q hq => ha _ (by rw [← hls]; exact List.mem_map.mpr ⟨q, hq, rfl⟩)) G p e s m _ below meth c ⟨B.exec, B.bytes, hml, hown, atoms_spec (ws := sl_wd f) B.pre, B.returns, B.notSynchronized, hK, hG⟩ s.heap [] _ hW va_S.rf hl
/-- behind a call -/
theorem sl_after {p : Program} {e : Env} {R : Room} {s : State} {m : MethodId} {args : Array Value} {below : List Frame} {meth : Method} {c : Code} {H : Heap} {locs : List Loc} {arr : Array Slot} {st0 rest : List Value} {a : Array Value} {G : sl_G} {w : Nat} {Q' : sl_R} {Qz : State → Prop}
    (hr : va_Run p l e R s m args below meth c H locs 0 0 0 0 (F0 m pc arr st0) rest (sl_Q G w Q' a) (sl_A G w)) (hS : va_S (sl_A G w) s.heap H locs)
    (kk : ∀ (r : Option sl_V) (N : sl_M) (H1 : Heap) (locs1 : List Loc), (∀ v, r = some v → sl_ok v) → sl_RM N → Q' r N → sl_W G w N H1 → va_S (sl_A G w) s.heap H1 locs1 → W p l e R s m args below meth c H1 locs1 0 0 Qz (F0 m (pc + 3) arr ((r.map (sl_cv G)).toList ++ rest))) : W p l e R s m args below meth c H locs 0 0 Qz (F0 m pc arr st0) := by
  intro T hT X
  obtain ⟨v, st₀, t, T', L, h0, X', hL, e1, e2, ⟨⟨r, N, hv, b2, b3, b4, b5, b6⟩, hz, hk⟩, st⟩ := hr T hT X
  cases hv
  rw [h0] at hz hk
  obtain ⟨t2, a1, b1⟩ := kk r N T'.heap (locs ++ L) b2 b3 b4 (by rw [e1]; exact b5)
    ⟨Nat.le_trans hS.1 (by rw [e1]; exact hz), fun q h1 h2 => by rw [e1, hk q (Nat.lt_of_lt_of_le h1 hS.1) h2]; exact hS.2.1 q h1 h2, fun q hq => by
      rcases List.mem_append.mp hq with h | h
      · exact hS.2.2 q h
      · exact hL q h⟩ T' rfl X'
  exact ⟨t2, st t2 a1, b1⟩
/-- what the tables say of a method that is called -/
def sl_MK (g : sl_F) (n : Nat) : Prop := Cond.code g.nm g.cd g.nL g.rt ∈ sl_GL ∧ Cond.initialized g.nm.cls ∈ sl_GL ∧ (g.nm.cls ≠ "java/lang/invoke/MethodHandle" ∧ g.nm.cls ≠ "java/lang/invoke/VarHandle" ∧ (parseMethodDescriptor g.nm.desc).map (fun d => d.parameters.length) = some n)
def sl_MV (g : sl_F) : Prop := Cond.instanceMethod g.nm ∈ sl_GL ∧ Cond.selects g.nm.cls g.nm g.nm ∈ sl_GL
theorem sl_good {w : Cond} (h : w ∈ sl_GL) : w ∈ sl_wd f ∧ ((w.onTables && w.keeps) = true ∨ ∃ ty, w = .arrayClass ty) := ⟨sl_wd_GL h, good_of_word (List.mem_filter.mp h).2⟩
theorem sl_goodIn {g : sl_F} (h : Cond.code g.nm g.cd g.nL g.rt ∈ sl_GL) : GoodIn (sl_wd f) (sl_wd g) := by
  intro w hw
  rcases List.mem_cons.mp hw with rfl | hw
  · exact sl_good h
  · exact sl_good hw
def sl_cat (v : sl_V) : Nat := if sl_c2 v then 2 else 1
theorem sl_catS (G : sl_G) (st : List sl_V) : ((st.map (sl_cv G)).map fun v => v.category).sum = (st.map sl_cat).sum := by
  induction st with
  | nil => rfl
  | cons v st ih =>
    simp only [List.map_cons, List.sum_cons, ih]
    congr 1
    rcases v with z | x | _ | q <;> rfl
theorem sl_blind {G : sl_G} {w : Nat} {av : List Value} : FrameBlind (va_Pc av (fun U => sl_W G w M U.heap ∧ sl_K G U)) := fun _ _ _ _ q => ⟨q.1, q.2.1, q.2.2.same rfl⟩
theorem r_callV {g : sl_F} {ci o n idx N : Nat} {C : String} {T : u_T} {ty : Nat → FieldType} {As : List sl_V} {st0 : List sl_V} (ck : sl_CK ci C T N ty) (ho : sl_cls o = ci) (hw : sl_wof ci = f.wd) (hg : g.wd = f.wd) (hC : g.nm.cls = C) (mk : sl_MK g n) (mv : sl_MV g) (hl : Cond.methodLink f.own idx g.nm ∈ sl_GL) (hR : g.rm.frames + 1 ≤ f.rm.frames ∧ 8 + (g.nL + 11) + g.rm.locals ≤ f.rm.locals) (hn : As.length = n) (hs : (st.map sl_cat).sum ≤ 8) (hst : st0 = As.reverse ++ vR o 0 :: st) (ha : ∀ v ∈ As, sl_ok v) (hd : decode f.cd pc = .ok (.invokevirtual idx, 3)) (k : sl_Runs l g (vR o 0 :: As) M (fun r N => sl_At l f (pc + 3) ls (r.toList ++ st) N Q)) : sl_At l f pc ls st0 M Q := by
  intro hM hls G p e s m args below meth c Cx H locs arr hW hS hv
  subst hst
  obtain ⟨q, -, hq⟩ := sl_ix (G := G) (M := M) (sl_mem ho ck.2.2.2.2.2 (Or.inl rfl) hw)
  rw [sl_cell_obj ho] at hq
  have hMet := k hM (fun v hv => by rcases List.mem_cons.mp hv with rfl | hv; exact trivial; exact ha v hv) G (by rw [hg]; exact Cx.2.2.2.2.2.2.2.2)
  rw [hg] at hMet
  refine sl_after (va_runV (As := As.map (sl_cv G)) (rest := st.map (sl_cv G)) (b := G.2.2 o 0) (C := C) ⟨Cx.1, Cx.2.1, Cx.2.2.1, Cx.2.2.2.1, Cx.2.2.2.2.1⟩ hMet (cwV n Cx.2.2.2.2.1 ?_ rfl rfl rfl ⟨hC, mk.2.2⟩ hR) ⟨sl_blind, va_recv (cl := vwCl) Cx.2.2.2.2.2.2.2.1.1 hW (ci := ci) (q0 := q) ck.1 hq, fun U hU hWa => ⟨rfl, by rw [hU]; exact hW, Cx.2.2.2.2.2.2.2.1.warm hWa⟩⟩ rfl (by rw [List.length_map]; exact hn) hv.1 (by show List.map _ _ = _; rw [List.map_append, List.map_reverse]; rfl) (lv_room (by rw [sl_catS]; exact hs)) hd ⟨Nat.le_refl _, Nat.le_refl _⟩) hS (fun r N' H1 locs1 h1 h2 h3 h4 h5 => ?_)
  · intro w hw
    unfold wsV at hw
    rcases List.mem_append.mp hw with hw | hw
    · simp only [List.mem_cons, List.not_mem_nil, or_false] at hw
      rcases hw with rfl | rfl | rfl | rfl
      · exact sl_good hl
      · exact sl_good mv.1
      · rw [← hC]; exact sl_good mv.2
      · rw [← hC]; exact sl_good mk.2.1
    · exact sl_goodIn mk.1 w hw
  · have := h3 h2 hls G p e s m args below meth c Cx H1 locs1 arr h4 h5 hv
    rw [List.map_append] at this
    cases r <;> exact this
theorem r_callS {g : sl_F} {n idx : Nat} {As : List sl_V} {st0 : List sl_V} (hg : g.wd = f.wd) (mk : sl_MK g n) (ms : Cond.static g.nm ∈ sl_GL) (hl : Cond.methodLink f.own idx g.nm ∈ sl_GL) (hR : g.rm.frames + 1 ≤ f.rm.frames ∧ 8 + (g.nL + 11) + g.rm.locals ≤ f.rm.locals) (hn : As.length = n) (hs : (st.map sl_cat).sum ≤ 8) (hst : st0 = As.reverse ++ st) (ha : ∀ v ∈ As, sl_ok v) (hd : decode f.cd pc = .ok (.invokestatic idx, 3)) (k : sl_Runs l g As M (fun r N => sl_At l f (pc + 3) ls (r.toList ++ st) N Q)) : sl_At l f pc ls st0 M Q := by
  intro hM hls G p e s m args below meth c Cx H locs arr hW hS hv
  subst hst
  have hMet := k hM ha G (by rw [hg]; exact Cx.2.2.2.2.2.2.2.2)
  rw [hg] at hMet
  refine sl_after (va_runS (As := As.map (sl_cv G)) (rest := st.map (sl_cv G)) ⟨Cx.1, Cx.2.1, Cx.2.2.1, Cx.2.2.2.1, Cx.2.2.2.2.1⟩ hMet (va_cwS n Cx.2.2.2.2.1 ?_ rfl rfl rfl mk.2.2 hR) ⟨sl_blind, fun U hU hWa => ⟨rfl, by rw [hU]; exact hW, Cx.2.2.2.2.2.2.2.1.warm hWa⟩⟩ rfl (by rw [List.length_map]; exact hn) hv.1 (by show List.map _ _ = _; rw [List.map_append, List.map_reverse]) (lv_room (by rw [sl_catS]; exact hs)) hd ⟨Nat.le_refl _, Nat.le_refl _⟩) hS (fun r N' H1 locs1 h1 h2 h3 h4 h5 => ?_)
  · intro w hw
    unfold va_wsS at hw
    rcases List.mem_append.mp hw with hw | hw
    · simp only [List.mem_cons, List.not_mem_nil, or_false] at hw
      rcases hw with rfl | rfl | rfl
      · exact sl_good hl
      · exact sl_good ms
      · exact sl_good mk.2.1
    · exact sl_goodIn mk.1 w hw
  · have := h3 h2 hls G p e s m args below meth c Cx H1 locs1 arr h4 h5 hv
    rw [List.map_append] at this
    cases r <;> exact this
theorem r_callSN {g : sl_F} {n idx : Nat} {host : String} {As : List sl_V} {st0 : List sl_V} (hg : g.wd = f.wd) (mk : sl_MK g n) (ms : Cond.static g.nm ∈ sl_GL) (hl : Cond.methodLinkNest f.own idx g.nm host ∈ sl_NT) (hR : g.rm.frames + 1 ≤ f.rm.frames ∧ 8 + (g.nL + 11) + g.rm.locals ≤ f.rm.locals) (hn : As.length = n) (hs : (st.map sl_cat).sum ≤ 8) (hst : st0 = As.reverse ++ st) (ha : ∀ v ∈ As, sl_ok v) (hd : decode f.cd pc = .ok (.invokestatic idx, 3)) (k : sl_Runs l g As M (fun r N => sl_At l f (pc + 3) ls (r.toList ++ st) N Q)) : sl_At l f pc ls st0 M Q := by
  intro hM hls G p e s m args below meth c Cx H locs arr hW hS hv
  subst hst
  have hMet := k hM ha G (by rw [hg]; exact Cx.2.2.2.2.2.2.2.2)
  rw [hg] at hMet
  refine sl_after (va_runSN (As := As.map (sl_cv G)) (rest := st.map (sl_cv G)) ⟨Cx.1, Cx.2.1, Cx.2.2.1, Cx.2.2.2.1, Cx.2.2.2.2.1⟩ hMet ⟨va_cnB n Cx.2.2.2.2.1 (sl_goodIn mk.1) rfl rfl rfl (Cx.2.2.2.2.2.2.2.1.2 _ hl) (sl_gl Cx mk.2.1) mk.2.2 hR, sl_gl Cx ms, trivial⟩ ⟨sl_blind, fun U hU hWa => ⟨rfl, by rw [hU]; exact hW, Cx.2.2.2.2.2.2.2.1.warm hWa⟩⟩ rfl (by rw [List.length_map]; exact hn) hv.1 (by show List.map _ _ = _; rw [List.map_append, List.map_reverse]) (lv_room (by rw [sl_catS]; exact hs)) hd ⟨Nat.le_refl _, Nat.le_refl _⟩) hS (fun r N' H1 locs1 h1 h2 h3 h4 h5 => ?_)
  have := h3 h2 hls G p e s m args below meth c Cx H1 locs1 arr h4 h5 hv
  rw [List.map_append] at this
  cases r <;> exact this
/-! ends -/
theorem sl_end {G : sl_G} {p : Program} {s : State} {m : MethodId} {args : Array Value} {meth : Method} {c : Code} (Cx : sl_C l f G p s m args meth c) {H : Heap} {locs : List Loc} (hM : sl_RM M) (hW : sl_W G f.wd M H) (hS : va_S (sl_A G f.wd) s.heap H locs) {r : Option sl_V} (hr : ∀ v, r = some v → sl_ok v) (hq : Q r M) {t : State} (ht : t.heap = H) (hWa : s.WarmedH t.vm) : sl_Q G f.wd Q args s (.returned (r.map (sl_cv G))) t :=
  ⟨⟨r, M, rfl, hr, hM, hq, by rw [ht]; exact hW, Cx.2.2.2.2.2.2.2.1.warm hWa⟩, hS.F ht⟩
theorem r_iret {x : Int} (hr : f.rt = some .int) (hx : sl_rg x) (hd : decode f.cd pc = .ok (.ireturn, 1)) (k : Q (some (vI x)) M) : sl_At l f pc ls [vI x] M Q := by
  intro hM hls G p e s m args below meth c Cx H locs arr hW hS hv
  exact W.iret (v := Int32.ofInt x) Cx.1 Cx.2.1 (by rw [Cx.2.2.2.2.2.1, hr]) (fun t ht hWa => sl_end Cx hM hW hS (r := some (vI x)) (fun v h => by cases h; exact hx) k ht hWa) hS.2.2 hd Cx.2.2.2.2.2.2.1
theorem r_zret {x : Int} (hr : f.rt = some .boolean) (hx : x = 0 ∨ x = 1) (hd : decode f.cd pc = .ok (.ireturn, 1)) (k : Q (some (vI x)) M) : sl_At l f pc ls [vI x] M Q := by
  intro hM hls G p e s m args below meth c Cx H locs arr hW hS hv
  exact W.zret (v := Int32.ofInt x) (ty := .boolean) Cx.1 Cx.2.1 (by rw [Cx.2.2.2.2.2.1, hr]) (by rcases hx with rfl | rfl <;> rfl) (fun t ht hWa => sl_end Cx hM hW hS (r := some (vI x)) (fun v h => by cases h; rcases hx with rfl | rfl <;> exact ⟨by decide, by decide⟩) k ht hWa) hS.2.2 hd Cx.2.2.2.2.2.2.1
theorem r_vret (hr : f.rt = none) (hd : decode f.cd pc = .ok (.return_, 1)) (k : Q none M) : sl_At l f pc ls [] M Q := by
  intro hM hls G p e s m args below meth c Cx H locs arr hW hS hv
  exact W.vret Cx.1 Cx.2.1 (by rw [Cx.2.2.2.2.2.1, hr]) (fun t ht hWa => sl_end Cx hM hW hS (r := none) (fun v h => by cases h) k ht hWa) hS.2.2 hd Cx.2.2.2.2.2.2.1
theorem r_aret {o i : Nat} {n : String} (hr : f.rt = some (.object n)) (hd : decode f.cd pc = .ok (.areturn, 1)) (k : Q (some (vR o i)) M) : sl_At l f pc ls [vR o i] M Q := by
  intro hM hls G p e s m args below meth c Cx H locs arr hW hS hv
  exact W.aret (v := .ref (G.2.2 o i)) (rt := .object n) Cx.1 Cx.2.1 (by rw [Cx.2.2.2.2.2.1, hr]) (Or.inl ⟨n, rfl⟩) (Or.inr ⟨_, rfl⟩) (fun t ht hWa => sl_end Cx hM hW hS (r := some (vR o i)) (fun v h => by cases h; exact trivial) k ht hWa) hS.2.2 hd Cx.2.2.2.2.2.2.1
theorem r_lret {x : Int64} (hr : f.rt = some .long) (hd : decode f.cd pc = .ok (.lreturn, 1)) (k : Q (some (vL x)) M) : sl_At l f pc ls [vL x] M Q := by
  intro hM hls G p e s m args below meth c Cx H locs arr hW hS hv
  exact W.lret (v := x) Cx.1 Cx.2.1 (by rw [Cx.2.2.2.2.2.1, hr]) (fun t ht hWa => sl_end Cx hM hW hS (r := some (vL x)) (fun v h => by cases h; exact trivial) k ht hWa) hS.2.2 hd Cx.2.2.2.2.2.2.1
/-! names for what stands on top, and for the memory; answers by kind -/
theorem r_nm {x : Int} (k : ∀ y : Int, y = x → sl_At l f pc ls (vI y :: st) M Q) : sl_At l f pc ls (vI x :: st) M Q := k x rfl
theorem r_mm (k : ∀ N : sl_M, N = M → sl_At l f pc ls st N Q) : sl_At l f pc ls st M Q := k M rfl
def sl_RI (l : Launch) (g : sl_F) (as : List sl_V) (M : sl_M) (P : Int → sl_M → Prop) : Prop := sl_Runs l g as M (fun r N => ∃ x, r = some (vI x) ∧ P x N)
def sl_RV (l : Launch) (g : sl_F) (as : List sl_V) (M : sl_M) (P : sl_M → Prop) : Prop := sl_Runs l g as M (fun r N => r = none ∧ P N)
def sl_RR (l : Launch) (g : sl_F) (as : List sl_V) (M : sl_M) (P : Nat → sl_M → Prop) : Prop := sl_Runs l g as M (fun r N => ∃ o, r = some (vR o 0) ∧ P o N)
def sl_RL (l : Launch) (g : sl_F) (as : List sl_V) (M : sl_M) (P : Int64 → sl_M → Prop) : Prop := sl_Runs l g as M (fun r N => ∃ x, r = some (vL x) ∧ P x N)
theorem sl_RI.mono {g : sl_F} {as : List sl_V} {P P' : Int → sl_M → Prop} (h : ∀ x N, sl_rg x → sl_RM N → P x N → P' x N) (k : sl_RI l g as M P) : sl_RI l g as M P' := sl_Runs.mono (fun _ r N h1 h2 q => by
  obtain ⟨x, rfl, q⟩ := q
  exact ⟨x, rfl, h x N (h1 _ rfl) h2 q⟩) k
theorem sl_RV.mono {g : sl_F} {as : List sl_V} {P P' : sl_M → Prop} (h : ∀ N, sl_RM N → P N → P' N) (k : sl_RV l g as M P) : sl_RV l g as M P' := sl_Runs.mono (fun _ r N _ h2 q => ⟨q.1, h N h2 q.2⟩) k
theorem sl_RR.mono {g : sl_F} {as : List sl_V} {P P' : Nat → sl_M → Prop} (h : ∀ o N, sl_RM N → P o N → P' o N) (k : sl_RR l g as M P) : sl_RR l g as M P' := sl_Runs.mono (fun _ r N _ h2 q => by
  obtain ⟨x, rfl, q⟩ := q
  exact ⟨x, rfl, h x N h2 q⟩) k
theorem sl_RL.mono {g : sl_F} {as : List sl_V} {P P' : Int64 → sl_M → Prop} (h : ∀ x N, sl_RM N → P x N → P' x N) (k : sl_RL l g as M P) : sl_RL l g as M P' := sl_Runs.mono (fun _ r N _ h2 q => by
  obtain ⟨x, rfl, q⟩ := q
  exact ⟨x, rfl, h x N h2 q⟩) k
/-- a call whose answer is known -/
theorem sl_RI.by {g : sl_F} {as : List sl_V} {v : Int} {N : sl_M} {P : Int → sl_M → Prop} (k : sl_RI l g as M (fun x N' => x = v ∧ N' = N)) (h : P v N) : sl_RI l g as M P := k.mono (fun x N' _ _ q => by
  obtain ⟨rfl, rfl⟩ := q
  exact h)
theorem sl_RV.by {g : sl_F} {as : List sl_V} {N : sl_M} {P : sl_M → Prop} (k : sl_RV l g as M (fun N' => N' = N)) (h : P N) : sl_RV l g as M P := k.mono (fun N' _ q => by
  obtain rfl := q
  exact h)
theorem sl_RR.by {g : sl_F} {as : List sl_V} {v : Nat} {N : sl_M} {P : Nat → sl_M → Prop} (k : sl_RR l g as M (fun x N' => x = v ∧ N' = N)) (h : P v N) : sl_RR l g as M P := k.mono (fun x N' _ q => by
  obtain ⟨rfl, rfl⟩ := q
  exact h)
theorem sl_afterI {g : sl_F} {as : List sl_V} {pc' : Nat} (k : sl_RI l g as M (fun x N => sl_At l f pc' ls (vI x :: st) N Q)) : sl_Runs l g as M (fun r N => sl_At l f pc' ls (r.toList ++ st) N Q) := sl_Runs.mono (fun _ r N _ _ q => by
  obtain ⟨x, rfl, q⟩ := q
  exact q) k
theorem sl_afterV {g : sl_F} {as : List sl_V} {pc' : Nat} (k : sl_RV l g as M (fun N => sl_At l f pc' ls st N Q)) : sl_Runs l g as M (fun r N => sl_At l f pc' ls (r.toList ++ st) N Q) := sl_Runs.mono (fun _ r N _ _ q => by
  obtain ⟨rfl, q⟩ := q
  exact q) k
theorem sl_afterR {g : sl_F} {as : List sl_V} {pc' : Nat} (k : sl_RR l g as M (fun o N => sl_At l f pc' ls (vR o 0 :: st) N Q)) : sl_Runs l g as M (fun r N => sl_At l f pc' ls (r.toList ++ st) N Q) := sl_Runs.mono (fun _ r N _ _ q => by
  obtain ⟨x, rfl, q⟩ := q
  exact q) k
theorem sl_afterL {g : sl_F} {as : List sl_V} {pc' : Nat} (k : sl_RL l g as M (fun x N => sl_At l f pc' ls (vL x :: st) N Q)) : sl_Runs l g as M (fun r N => sl_At l f pc' ls (r.toList ++ st) N Q) := sl_Runs.mono (fun _ r N _ _ q => by
  obtain ⟨x, rfl, q⟩ := q
  exact q) k
theorem ok_n : ∀ v ∈ ([] : List sl_V), sl_ok v := fun _ h => by cases h
theorem ok_i {x : Int} {As : List sl_V} (h : sl_rg x) (k : ∀ v ∈ As, sl_ok v) : ∀ v ∈ vI x :: As, sl_ok v := fun v hv => by
  rcases List.mem_cons.mp hv with rfl | hv
  · exact h
  · exact k v hv
theorem ok_r {o i : Nat} {As : List sl_V} (k : ∀ v ∈ As, sl_ok v) : ∀ v ∈ vR o i :: As, sl_ok v := fun v hv => by
  rcases List.mem_cons.mp hv with rfl | hv
  · exact trivial
  · exact k v hv
theorem rg_b {P : Prop} [Decidable P] : sl_rg (if P then 1 else 0) := by
  split <;> exact ⟨by decide, by decide⟩
theorem b_01 {P : Prop} [Decidable P] : (if P then (1 : Int) else 0) = 0 ∨ (if P then (1 : Int) else 0) = 1 := by
  split
  · exact Or.inr rfl
  · exact Or.inl rfl
theorem b_eq0 {P : Prop} [Decidable P] : (if P then (1 : Int) else 0) = 0 ↔ ¬ P := by
  split <;> simp [*]
theorem b_ne0 {P : Prop} [Decidable P] : (if P then (1 : Int) else 0) ≠ 0 ↔ P := by
  split <;> simp [*]
/-! owners -/
theorem sl_cls7 : ∀ o, o < 84 → sl_cls o = 7 → (10 ≤ o ∧ o < 18 ∧ sl_cls (o + 10) = 0 ∧ sl_cls (3 * o) = 5 ∧ sl_cls (3 * o + 1) = 5 ∧ sl_cls (3 * o + 2) = 5) := by decide +kernel
theorem sl_cls5 : ∀ o, o < 84 → sl_cls o = 5 → (30 ≤ o ∧ o < 54 ∧ sl_cls (o + 30) = 0) := by decide +kernel
theorem cl_prog {o : Nat} (h : sl_cls o = 7) : sl_cls (o + 10) = 0 := (sl_cls7 o (sl_cls_lt (by omega)) h).2.2.1
theorem cl_body {o : Nat} (h : sl_cls o = 5) : sl_cls (o + 30) = 0 := (sl_cls5 o (sl_cls_lt (by omega)) h).2.2
theorem cl_rout {o : Nat} {j : Int} (h : sl_cls o = 7) (hj : 0 ≤ j ∧ j < 3) : sl_cls (3 * o + j.toNat) = 5 := by
  obtain ⟨-, -, -, h1, h2, h3⟩ := sl_cls7 o (sl_cls_lt (by omega)) h
  rcases (show j = 0 ∨ j = 1 ∨ j = 2 by omega) with rfl | rfl | rfl
  · exact h1
  · exact h2
  · exact h3
theorem cl_state8 : ∀ n, n < 8 → sl_cls (10 + n) = 7 := by decide +kernel
theorem cl_state {j : Int} (hj : 0 ≤ j ∧ j < 8) : sl_cls (10 + j.toNat) = 7 := cl_state8 _ (by omega)
theorem r_aaldS {j : Int} (hw : f.wd = 0) (hj : 0 ≤ j ∧ j < 8) (hd : decode f.cd pc = .ok (.aaload, 1)) (kk : sl_At l f (pc + 1) ls (vR (10 + j.toNat) 0 :: st) M Q) : sl_At l f pc ls (vI j :: vR 0 4 :: st) M Q := r_aald (ci := 9) (t := 2) (n := 8) (C := RX7) rfl rfl (fun _ => rfl) (by decide) hw.symm hj hd kk
theorem r_aaldR {o : Nat} {j : Int} (ho : sl_cls o = 7) (hw : f.wd = 0) (hj : 0 ≤ j ∧ j < 3) (hd : decode f.cd pc = .ok (.aaload, 1)) (kk : sl_At l f (pc + 1) ls (vR (3 * o + j.toNat) 0 :: st) M Q) : sl_At l f pc ls (vI j :: vR o 2 :: st) M Q := by
  refine r_aald (ci := 7) (t := 3) (n := 3) (C := RX5) ho rfl (fun _ => rfl) (by decide) hw.symm hj hd ?_
  have h1 := (sl_cls7 o (sl_cls_lt (by omega)) ho).1
  unfold sl_ra
  rw [if_neg (by omega)]
  exact kk
end R
