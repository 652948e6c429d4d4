/-! From the constructors' cells to the worlds; how the law begins -/
theorem mapR_getD {g : Nat → Nat} {N k : Nat} (h : k < N) : ((List.range N).map g).getD k 0 = g k := by
  rw [List.getD_eq_getElem?_getD, List.getElem?_map, List.getElem?_range h]; rfl
theorem nrS_E {cA : Nat → ClassId} {base : Nat} (x : Sh) : shE cA base (nrS x) = shE cA base x := by
  cases x with
  | inl y => rfl
  | inr y =>
    show (Sum.inr (y.1, (List.range (sl_nf y.1)).map (fun k => shV base (sl_isr y.1 k) (((List.range (sl_nf y.1)).map (fun k => y.2.getD k 0)).getD k 0))) : va_E) = Sum.inr (y.1, (List.range (sl_nf y.1)).map (fun k => shV base (sl_isr y.1 k) (y.2.getD k 0)))
    congr 2
    apply List.map_congr_left
    intro k hk
    rw [mapR_getD (List.mem_range.mp hk)]
theorem inW_s {w : Nat} {q : Nat × Nat} (h : inW w q = true) : ((q.1 == 1) == (w == 1)) = true ∧ (∀ k, k < sl_nf (sl_cls q.1) → sl_isr (sl_cls q.1) k = true → ∀ r, sl_rf m0 (sl_cls q.1) q.1 k = some r → ((r.1 == 1) == (w == 1)) = true) ∧ (∀ j, j < 8 → w ≠ 1 → ¬ (sl_ra q.1 j).1 = 1) := by
  unfold inW at h
  rw [Bool.and_eq_true, Bool.and_eq_true, List.all_eq_true, List.all_eq_true] at h
  obtain ⟨⟨h1, h2⟩, h3⟩ := h
  refine ⟨h1, fun k hk hr r hf => ?_, fun j hj hw => ?_⟩
  · have := h2 k (List.mem_range.mpr hk)
    rw [hf] at this
    simp only [hr, Bool.not_true, Bool.false_or] at this
    exact this
  · have := h3 j (List.mem_range.mpr hj)
    have hw' : (w == 1) = false := by simpa using hw
    rw [hw'] at this
    simpa using this
theorem ar_8 : ∀ ci, ci < 11 → ∀ i, i < 66 → ∀ t n, sl_ar ci i = some (t, n) → ¬ t < 2 → n ≤ 8 ∧ ci ≠ 10 := by
  have key : ∀ ci ∈ List.range 11, ∀ i ∈ List.range 66, (match sl_ar ci i with | none => true | some (t, n) => decide (t < 2) || (decide (n ≤ 8) && decide (ci ≠ 10))) = true := by decide +kernel
  intro ci hc i hi t n e ht
  have := key ci (List.mem_range.mpr hc) i (List.mem_range.mpr hi)
  rw [e] at this
  simp only [Bool.or_eq_true, Bool.and_eq_true, decide_eq_true_eq] at this
  rcases this with z | z
  · exact (ht z).elim
  · exact z
theorem pl_s {w : Nat} {q : Nat × Nat} (h : q ∈ sl_pl w) : q.2 < 66 ∧ sl_cls q.1 < 11 ∧ sl_wof (sl_cls q.1) = w := by
  unfold sl_pl at h
  obtain ⟨o, ho, h⟩ := List.mem_flatMap.mp h
  obtain ⟨i, hi, h⟩ := List.mem_filterMap.mp h
  split at h
  · next hc =>
    have e : (o, i) = q := Option.some.inj h
    subst e
    exact ⟨List.mem_range.mp hi, hc.1.1, hc.1.2⟩
  · cases h
/-- the cells that a constructor made are the world -/
theorem ct_sl {G : sl_G} {base N w : Nat} {S : Nat → Sh} {H : Heap} (hW : ∀ j, j < N → va_at G.1 vwCl (base + j, shE G.2.1 base (S j)) H) (had : ∀ o i, ((o == 1) == (w == 1)) = true → G.2.2 o i = base + xS o i) (hx : ∀ q ∈ sl_pl w, nrS (S (xS q.1 q.2)) = cSh q ∧ xS q.1 q.2 < N ∧ inW w q = true) : sl_W G w m0 H := by
  intro k q hq
  have hm := List.mem_of_getElem? hq
  obtain ⟨z, hz, rfl⟩ := List.mem_map.mp hm
  obtain ⟨h1, h2, h3⟩ := hx z hz
  obtain ⟨i1, i2, i3⟩ := inW_s h3
  obtain ⟨p1, p2, p3⟩ := pl_s hz
  have hat := hW (xS z.1 z.2) h2
  have e0 : shE G.2.1 base (S (xS z.1 z.2)) = shE G.2.1 base (cSh z) := by rw [← h1, nrS_E]
  rw [e0, ← had z.1 z.2 i1] at hat
  obtain ⟨o, i⟩ := z
  by_cases hi : i = 0
  · subst hi
    have e : shE G.2.1 base (cSh (o, 0)) = sl_cell G.2.1 G.2.2 m0 (o, 0) := by
      rw [sl_cell_obj rfl]
      show (Sum.inr (sl_cls o, (List.range (sl_nf (sl_cls o))).map (fun k => shV base (sl_isr (sl_cls o) k) (((List.range (sl_nf (sl_cls o))).map (fun k => if sl_isr (sl_cls o) k then (match sl_rf m0 (sl_cls o) o k with | none => 0 | some r => xS r.1 r.2 + 1) else 0)).getD k 0))) : va_E) = _
      congr 2
      apply List.map_congr_left
      intro k hk
      have hk' := List.mem_range.mp hk
      rw [mapR_getD hk']
      unfold sl_fv
      cases hr : sl_isr (sl_cls o) k with
      | false => rfl
      | true =>
        cases hf : sl_rf m0 (sl_cls o) o k with
        | none => rfl
        | some r =>
          have := had r.1 r.2 (i2 k hk' hr r hf)
          show Value.ref (base + (xS r.1 r.2 + 1 - 1)) = Value.ref (G.2.2 r.1 r.2)
          rw [this, Nat.add_sub_cancel]
    rw [e] at hat
    exact hat
  · cases ha : sl_ar (sl_cls o) i with
    | none =>
      have ec : cSh (o, i) = .inr (99, []) := by unfold cSh; rw [if_neg hi]; show (match sl_ar (sl_cls o) i with | some (t, n) => _ | none => _) = _; rw [ha]
      rw [ec] at hat
      obtain ⟨r, hr, -⟩ := hat
      cases hr
    | some x =>
      obtain ⟨t, n⟩ := x
      have ec : cSh (o, i) = .inl (t, n, if t < 2 then [] else (List.range n).map (fun j => xS (sl_ra o j).1 (sl_ra o j).2 + 1)) := by unfold cSh; rw [if_neg hi]; show (match sl_ar (sl_cls o) i with | some (t, n) => _ | none => _) = _; rw [ha]
      rw [ec] at hat
      by_cases ht : t < 2
      · rw [sl_cell_int rfl ha ht hi]
        have hat' : H[G.2.2 o i]? = some (vp_cell (G.2.1 t) (n, if t < 2 then .inl (fun _ => 0) else _)) := hat
        rw [if_pos ht] at hat'
        exact hat'
      · rw [sl_cell_ref rfl ha ht hi]
        have hat' : H[G.2.2 o i]? = some (vp_cell (G.2.1 t) (n, if t < 2 then .inl (fun _ => 0) else .inr (.inr (.inr (.inr (fun q => shQ base ((if t < 2 then [] else (List.range n).map (fun j => xS (sl_ra o j).1 (sl_ra o j).2 + 1)).getD q 0))))))) := hat
        rw [if_neg ht, if_neg ht, vp_cell_q] at hat'
        show H[G.2.2 o i]? = some (vp_cell (G.2.1 t) (n, _))
        rw [vp_cell_q, hat']
        obtain ⟨n8, c10⟩ := ar_8 _ p2 _ p1 _ _ ha ht
        have hw1 : w ≠ 1 := by
          intro z
          rw [z] at p3
          unfold sl_wof at p3
          split at p3
          · next y => exact c10 y
          · cases p3
        unfold arrV
        congr 2
        apply Array.ext
        · simp
        · intro q q1 q2
          have q3 : q < n := by simpa using q1
          simp only [Array.getElem_ofFn]
          rw [mapR_getD q3]
          have hne := i3 q (by omega) hw1
          have := had (sl_ra o q).1 (sl_ra o q).2 (by
            have a1 : ((sl_ra o q).1 == 1) = false := by simpa using hne
            have a2 : (w == 1) = false := by simpa using hw1
            rw [a1, a2]; rfl)
          show va_rf (shQ base _) = va_rf (some _)
          unfold shQ
          rw [if_neg (by omega), this, Nat.add_sub_cancel]
section LN
theorem tc_szL {A : Nat → Prop} {H H1 : Heap} {s : State} {locs : List Loc} (hS : va_S A s.heap H locs) (z1 : H.size ≤ H1.size) (o1 : ∀ q, q < H.size → H1[q]? = H[q]?) : va_S A s.heap H1 locs := ⟨Nat.le_trans hS.1 z1, fun q h1 h2 => (o1 q (Nat.lt_of_lt_of_le h1 hS.1)).trans (hS.2.1 q h1 h2), hS.2.2⟩
variable {p : Program} {l : Launch} {e : Env} {s : State} {m : MethodId} {below : List Frame} {meth : Method} {c : Code} {b L : Nat} {xs : Nat → Int32} {G : sl_G} {H : Heap} {locs : List Loc} {k w pc n base : Nat} {arr : Array Slot} {Qz : State → Prop} {S : Nat → Sh} {st : List Value}
theorem lw_new {ci idx M : Nat} {C1 : String} {T : u_T} {ty : Nat → FieldType} (C0 : lw_At p s m meth c b L xs) (hK : ctK G s) (ck : sl_CK ci C1 T M ty) (hl : Cond.classLink R_law idx C1 ∈ sl_GL) (hi : Cond.instantiable C1 M ∈ sl_GL) (hj : Cond.initialized C1 ∈ sl_GL) (hdf : ∀ j, j < M → defaultValue (ty j) = shV 0 (sl_isr ci j) 0) (hk : k + 1 ≤ room_1.cells) (hw : w + M ≤ room_1.slots) (hSn : S n = .inr (ci, [])) (hd : decode code pc = .ok (.new idx, 3)) (hW : ctW G base n S H) (hS : va_S (fun q => s.heap.size ≤ q) s.heap H locs)
    (kk : ∀ H1 : Heap, ctW G base (n + 1) S H1 → (∀ q, q < H.size → H1[q]? = H[q]?) → va_S (fun q => s.heap.size ≤ q) s.heap H1 locs → W p l e room_1 s m #[Value.ref b] below meth c H1 locs (k + 1) (w + M) Qz (F0 m (pc + 3) arr (.ref (base + n) :: st))) : W p l e room_1 s m #[Value.ref b] below meth c H locs k w Qz (F0 m pc arr st) := by
  obtain ⟨hx, hb, hr, hml, hown, hts, hX, hbl, hlocks, hgv⟩ := id C0
  have gl := fun {w : Cond} (h : w ∈ sl_GL) => hts w (List.mem_filter.mp h).1
  have hKn := hK.1.1.1 ci _ ck.1
  refine W.newcK hx hb hown (gl hl) (gl hi) (gl hj) rfl hd hk hw hKn.2.1 hW.1 (fun H1 kC hkC e1 z1 o1 => ?_)
  refine kk H1 ⟨by rw [z1]; omega, fun j hj => ?_⟩ (fun q hq => o1 q (by rw [← hW.1]; exact hq)) (tc_szL hS (by rw [z1, hW.1]; omega) (fun q hq => o1 q (by rw [← hW.1]; exact hq)))
  by_cases ej : j = n
  · subst ej
    rw [hSn]
    refine ⟨_, ck.1, (u_born ty hts (fun w h => (List.mem_filter.mp (ck.2.1 w h)).1) hKn hkC e1 ck.2.2.1).to (fun q hq => ?_)⟩
    rw [hdf q hq]
    show _ = vp_V ((List.range (sl_nf ci)).map (fun k => shV base (sl_isr ci k) (([] : List Nat).getD k 0))) q
    have hq5 : q < sl_nf ci := by rw [← ck.2.2.2.2.1]; exact hq
    rw [vpV_map hq5]
    simp [shV]
  · exact (hW.2 j (by omega)).kept (o1 _ (by show base + j < base + n; omega))
theorem lw_init {g : sl_F} {idx h mg sg : Nat} {S2 : Nat → Sh} (C0 : lw_At p s m meth c b L xs) (hK : ctK G s) (cg : CT l g mg sg n h S S2) (hc : Cond.code g.nm g.cd g.nL g.rt ∈ sl_GL) (hrt : g.rt = none) (hi : Cond.initialized g.nm.cls ∈ sl_GL) (hm : Cond.instanceMethod g.nm ∈ sl_GL) (hnm : g.nm.name = "<init>") (hp : g.nm.cls ≠ "java/lang/invoke/MethodHandle" ∧ g.nm.cls ≠ "java/lang/invoke/VarHandle" ∧ (parseMethodDescriptor g.nm.desc).map (fun d => d.parameters.length) = some 0) (hl : Cond.methodLink R_law idx g.nm ∈ sl_GL) (hR : g.2.2.2.2.2.2.1 + 1 ≤ room_1.frames ∧ 8 + (g.nL + 11) + g.2.2.2.2.2.2.2 ≤ room_1.locals) (hs : (st.map fun v => v.category).sum ≤ 8) (hk : k + mg ≤ room_1.cells) (hw : w + sg ≤ room_1.slots) (harr : arr.size = 4) (hd : decode code pc = .ok (.invokespecial idx, 3)) (hW : ctW G base n S H) (hS : va_S (fun q => s.heap.size ≤ q) s.heap H locs) (hbs : s.heap.size ≤ base)
    (kk : ∀ (H1 : Heap) (locs1 : List Loc), ctW G base (n + mg) S2 H1 → (∀ q, q < H.size → q < base → H1[q]? = H[q]?) → va_S (fun q => s.heap.size ≤ q) s.heap H1 locs1 → W p l e room_1 s m #[Value.ref b] below meth c H1 locs1 (k + mg) (w + sg) Qz (F0 m (pc + 3) arr st)) : W p l e room_1 s m #[Value.ref b] below meth c H locs k w Qz (F0 m pc arr (.ref (base + h) :: st)) := by
  obtain ⟨hx, hb, hr, hml, hown, hts, hX, hbl, hlocks, hgv⟩ := id C0
  have gl := fun {w : Cond} (h : w ∈ sl_GL) => hts w (List.mem_filter.mp h).1
  have hgi : GoodIn lw_tbl (sl_wd g) := by
    intro w hw
    rcases List.mem_cons.mp hw with rfl | hw
    · exact lw_good hc
    · exact lw_good hw
  have run : va_Run p l e room_1 s m #[Value.ref b] below meth c H locs k w mg sg (F0 m pc arr (.ref (base + h) :: st)) st (ctZ G base (n + mg) S2 [Value.ref (base + h)].toArray) (fun q => base ≤ q) := va_runI (As := []) (rest := st) (bytes := g.cd) (maxL := g.nL) ⟨hx, hb, hml, hown, hts⟩ (cg G base) (cwI 0 hts hgi (by rw [← hrt]; rfl) rfl rfl (gl hi) (gl hl) (gl hm) hnm hp hR) ⟨tc_blind, fun U hU hWa => ⟨rfl, by rw [hU]; exact hW, hK.warm hWa⟩⟩ rfl rfl harr rfl (lv_room hs) hd ⟨hk, hw⟩
  intro T hT X
  obtain ⟨v, st₀, t, T', Lo, h0, X', hL, e1, e2, ⟨⟨hv, b5, b6⟩, hz, hkp⟩, stp⟩ := run T hT X
  cases hv
  rw [h0] at hz hkp
  obtain ⟨t2, a1, b1⟩ := kk T'.heap (locs ++ Lo) (by rw [e1]; exact b5) (fun q h1 h2 => by rw [e1]; exact hkp q h1 (Nat.not_le.mpr h2))
    ⟨Nat.le_trans hS.1 (by rw [e1]; exact hz), fun q h1 h2 => by rw [e1, hkp q (Nat.lt_of_lt_of_le h1 hS.1) (fun z => h2 (Nat.le_trans hbs z))]; exact hS.2.1 q h1 h2, fun q hq => by
      rcases List.mem_append.mp hq with h | h
      · exact hS.2.2 q h
      · exact Nat.le_trans hbs (hL q h)⟩ T' rfl X'
  exact ⟨t2, stp t2 a1, b1⟩
end LN
theorem cl_L_7 : Cond.classLink R_law 7 RX9 ∈ sl_GL := gl_1 (List.mem_of_getElem? (i := 15) rfl) rfl
theorem cl_L_10 : Cond.classLink R_law 10 RX10 ∈ sl_GL := gl_4 (List.mem_of_getElem? (i := 155) rfl) rfl
theorem ci_L_9 : Cond.methodLink R_law 9 yX9_init ∈ sl_GL := gl_1 (List.mem_of_getElem? (i := 17) rfl) rfl
theorem ci_L_12 : Cond.methodLink R_law 12 yX10_init ∈ sl_GL := gl_4 (List.mem_of_getElem? (i := 157) rfl) rfl
theorem ao_7 : Cond.arrayOver (.object RX7) ∈ lw_tbl := List.mem_append_right _ (List.mem_append_left _ (List.mem_of_getElem? (i := 24) rfl))
theorem ao_5 : Cond.arrayOver (.object RX5) ∈ lw_tbl := List.mem_append_right _ (List.mem_append_right _ (List.mem_append_left _ (List.mem_of_getElem? (i := 69) rfl)))
