/-! The walk of the law's body -/
/-- what the tables say of the classes, at the start -/
theorem lw_known {p : Program} {s : State} {m : MethodId} {meth : Method} {c : Code} {b L : Nat} {xs : Nat → Int32} (C0 : lw_At p s m meth c b L xs) (ad : Nat → Nat → Nat) : ∃ G : sl_G, ctK G s ∧ G.2.2 = ad := by
  obtain ⟨hx, hb, hr, hml, hown, hts, hX, hbl, hlocks, hgv⟩ := id C0
  have gl := fun {w : Cond} (h : w ∈ sl_GL) => hts w (List.mem_filter.mp h).1
  obtain ⟨c0, i0, k0⟩ := u_known (C := RX0) (T := TX0) (N := 13) (n := 13) hts (fun w h => (List.mem_filter.mp (ckX0.2.1 w h)).1) (gl isX0)
  obtain ⟨c1, i1, k1⟩ := u_known (C := RX1) (T := TX1) (N := 6) (n := 6) hts (fun w h => (List.mem_filter.mp (ckX1.2.1 w h)).1) (gl isX1)
  obtain ⟨c2, i2, k2⟩ := u_known (C := RX2) (T := TX2) (N := 2) (n := 2) hts (fun w h => (List.mem_filter.mp (ckX2.2.1 w h)).1) (gl isX2)
  obtain ⟨c3, i3, k3⟩ := u_known (C := RX3) (T := TX3) (N := 10) (n := 10) hts (fun w h => (List.mem_filter.mp (ckX3.2.1 w h)).1) (gl isX3)
  obtain ⟨c4, i4, k4⟩ := u_known (C := RX4) (T := TX4) (N := 5) (n := 5) hts (fun w h => (List.mem_filter.mp (ckX4.2.1 w h)).1) (gl isX4)
  obtain ⟨c5, i5, k5⟩ := u_known (C := RX5) (T := TX5) (N := 5) (n := 5) hts (fun w h => (List.mem_filter.mp (ckX5.2.1 w h)).1) (gl isX5)
  obtain ⟨c6, i6, k6⟩ := u_known (C := RX6) (T := TX6) (N := 9) (n := 9) hts (fun w h => (List.mem_filter.mp (ckX6.2.1 w h)).1) (gl isX6)
  obtain ⟨c7, i7, k7⟩ := u_known (C := RX7) (T := TX7) (N := 4) (n := 4) hts (fun w h => (List.mem_filter.mp (ckX7.2.1 w h)).1) (gl isX7)
  obtain ⟨c8, i8, k8⟩ := u_known (C := RX8) (T := TX8) (N := 7) (n := 7) hts (fun w h => (List.mem_filter.mp (ckX8.2.1 w h)).1) (gl isX8)
  obtain ⟨c9, i9, k9⟩ := u_known (C := RX9) (T := TX9) (N := 11) (n := 11) hts (fun w h => (List.mem_filter.mp (ckX9.2.1 w h)).1) (gl isX9)
  obtain ⟨c10, i10, k10⟩ := u_known (C := RX10) (T := TX10) (N := 64) (n := 64) hts (fun w h => (List.mem_filter.mp (ckX10.2.1 w h)).1) (gl isX10)
  obtain ⟨a0, ka0, co0, e0, f0, g0⟩ := Cond.arrayClass_spec (gl w_ai)
  obtain ⟨a1, ka1, co1, e1, f1, g1⟩ := Cond.arrayClass_spec (gl w_ab)
  obtain ⟨co2, a2, ka2, u2, v2, f2, g2, e2⟩ := Cond.arrayOver_spec (hts _ ao_7)
  obtain ⟨co3, a3, ka3, u3, v3, f3, g3, e3⟩ := Cond.arrayOver_spec (hts _ ao_5)
  refine ⟨((fun k => if k = 0 then c0 else if k = 1 then c1 else if k = 2 then c2 else if k = 3 then c3 else if k = 4 then c4 else if k = 5 then c5 else if k = 6 then c6 else if k = 7 then c7 else if k = 8 then c8 else if k = 9 then c9 else c10, fun k => if k = 0 then i0 else if k = 1 then i1 else if k = 2 then i2 else if k = 3 then i3 else if k = 4 then i4 else if k = 5 then i5 else if k = 6 then i6 else if k = 7 then i7 else if k = 8 then i8 else if k = 9 then i9 else i10), fun t => if t = 0 then a0 else if t = 1 then a1 else if t = 2 then a2 else a3, ad), ⟨⟨⟨fun k q hq => ?_, fun k q hq => ?_⟩, fun w hw => ?_⟩, hts _ ao_7, hts _ ao_5⟩, rfl⟩
  · match k, hq with
    | 0, hq => cases hq; exact k0
    | 1, hq => cases hq; exact k1
    | 2, hq => cases hq; exact k2
    | 3, hq => cases hq; exact k3
    | 4, hq => cases hq; exact k4
    | 5, hq => cases hq; exact k5
    | 6, hq => cases hq; exact k6
    | 7, hq => cases hq; exact k7
    | 8, hq => cases hq; exact k8
    | 9, hq => cases hq; exact k9
    | 10, hq => cases hq; exact k10
    | k + 11, hq => simp [vwCl] at hq
  · match k, hq with
    | 0, hq => cases hq; exact ⟨fun n z => ⟨fun k h => (by cases h), ka0, f0, co0, g0⟩, e0⟩
    | 1, hq => cases hq; exact ⟨fun n z => ⟨fun k h => (by cases h), ka1, f1, co1, g1⟩, e1⟩
    | 2, hq => cases hq; exact ⟨fun n z => ⟨fun k h => (by cases h), ka2, f2, co2, g2⟩, ka2, co2, f2, g2, u2, e2⟩
    | 3, hq => cases hq; exact ⟨fun n z => ⟨fun k h => (by cases h), ka3, f3, co3, g3⟩, ka3, co3, f3, g3, u3, e3⟩
    | k + 4, hq => simp [sl_tys] at hq
  · obtain ⟨_, _, _, _, rfl⟩ := sl_NT_is hw
    exact va_Nw.of rfl (hts _ (List.mem_filter.mp hw).1)
def lwA (z : Nat) : Nat → Nat → Nat := fun o i => (if o = 1 then z + 485 else z) + xS o i
theorem lwA_0 {z o i : Nat} (h : ((o == 1) == (0 == 1)) = true) : lwA z o i = z + xS o i := by
  have : ¬ o = 1 := fun e => by subst e; cases h
  unfold lwA; rw [if_neg this]
theorem lwA_1 {z o i : Nat} (h : ((o == 1) == (1 == 1)) = true) : lwA z o i = z + 485 + xS o i := by
  have : o = 1 := by
    by_cases e : o = 1
    · exact e
    · have a1 : (o == 1) = false := by simpa using e
      rw [a1] at h; cases h
  unfold lwA; rw [if_pos this]
theorem lwA_G {G : sl_G} {z : Nat} (hG : G.2.2 = lwA z) : lwG G z := by
  have w0 : ∀ q ∈ sl_pl 0, G.2.2 q.1 q.2 = z + xS q.1 q.2 := fun q hq => by rw [hG]; exact lwA_0 (inW_s (xs0 q hq).2.2.2).1
  have w1 : ∀ q ∈ sl_pl 1, G.2.2 q.1 q.2 = z + 485 + xS q.1 q.2 := fun q hq => by rw [hG]; exact lwA_1 (inW_s (xs1 q hq).2.2.2).1
  refine ⟨⟨fun p hp q hq e => ?_, fun p hp q hq e => ?_⟩, fun a ha => ?_, fun a ha => ?_, fun a h0 h1 => ?_⟩
  · rw [w0 p hp, w0 q hq] at e
    have e' : xS p.1 p.2 = xS q.1 q.2 := by omega
    rw [← (xs0 p hp).2.2.1, ← (xs0 q hq).2.2.1, e']
  · rw [w1 p hp, w1 q hq] at e
    have e' : xS p.1 p.2 = xS q.1 q.2 := by omega
    rw [← (xs1 p hp).2.2.1, ← (xs1 q hq).2.2.1, e']
  · obtain ⟨q, hq, rfl⟩ := ha
    rw [w0 q hq]; omega
  · obtain ⟨q, hq, rfl⟩ := ha
    rw [w1 q hq]; omega
  · obtain ⟨q, hq, rfl⟩ := h0
    obtain ⟨q', hq', e⟩ := h1
    have := (xs0 q hq).2.1
    rw [w0 q hq, w1 q' hq'] at e
    omega
theorem RM_0 : sl_RM m0 := fun _ _ _ => ⟨by show (-2147483648 : Int) ≤ 0; omega, by show (0 : Int) < 2147483648; omega⟩
theorem sF0_0 : sF0 0 = .inr (9, fflX9 1) := rfl
theorem sF1_0 : sF1 0 = .inr (10, fflX10 1) := rfl
theorem whole_start {p : Program} {e : Env} {s : State} {m : MethodId} {below : List Frame} {meth : Method} {c : Code} (l : Launch) (hflags : l.flags = flags0) {b L : Nat} {xs : Nat → Int32} (hL : L ≤ 2560) (C0 : lw_At p s m meth c b L xs) : W p l e room_1 s m #[Value.ref b] below meth c s.heap [] 0 0 (lw_Z below #[Value.ref b] s) (entryFrame m ([Value.ref b] : List Value).toArray 4) := by
  obtain ⟨hx, hb, hr, hml, hown, hts, hX, hbl, hlocks, hgv⟩ := id C0
  obtain ⟨G, hK, hG⟩ := lw_known C0 (lwA s.heap.size)
  have hl := lv_entry ([.ref b]) (n := 4) (Nat.le_of_ble_eq_true rfl)
  rw [lg_entry_eq]
  generalize (lg_sl ([.ref b]) ++ List.replicate (4 - (lg_sl ([.ref b])).length) Slot.unset).toArray = ls at hl ⊢
  have hl : lv_has ls 4 [(0, .ref b)] := hl
  refine lw_new (n := 0) (base := s.heap.size) (S := shU sF0 0 (.inr (9, []))) C0 hK ckX9 cl_L_7 isX9 iiX9 idX9 nle nle shU_e dw_0 ⟨rfl, fun j hj => by omega⟩ va_S.rf (fun H1 w1 k1 hS1 => ?_)
  refine lv_dup hx hb dw_3 rfl ?_
  refine lw_init (n := 1) (base := s.heap.size) (h := 0) C0 hK (ct_X9 (n := 1) (h := 0) (S := sF0) (by omega) tp0A tp0B) icX9 rfl iiX9 imX9 rfl ipX9 ci_L_9 ⟨nle, nle⟩ nle nle nle hl.1 dw_4 w1 hS1 (Nat.le_refl _) (fun H2 locs2 w2 k2 hS2 => ?_)
  rw [shU_id sF0_0] at w2
  refine lv_astore_n (lv' := [(1, .ref (s.heap.size + 0)), (0, .ref b)]) hx hb dw_7 rfl hl (by decide) rfl (fun ls hl => ?_)
  refine lw_new (n := 0) (base := s.heap.size + 485) (S := shU sF1 0 (.inr (10, []))) C0 hK ckX10 cl_L_10 isX10 iiX10 idX10 nle nle shU_e dw_8 ⟨w2.1, fun j hj => by omega⟩ hS2 (fun H3 w3 k3 hS3 => ?_)
  refine lv_dup hx hb dw_11 rfl ?_
  refine lw_init (n := 1) (base := s.heap.size + 485) (h := 0) C0 hK (ct_X10 (n := 1) (h := 0) (S := sF1) (by omega) tp1A) icX10 rfl iiX10 imX10 rfl ipX10 ci_L_12 ⟨nle, nle⟩ nle nle nle hl.1 dw_12 w3 hS3 (by omega) (fun H4 locs4 w4 k4 hS4 => ?_)
  rw [shU_id sF1_0] at w4
  refine lv_astore_n (lv' := [(2, .ref (s.heap.size + 485 + 0)), (1, .ref (s.heap.size + 0)), (0, .ref b)]) hx hb dw_15 rfl hl (by decide) rfl (fun ls hl => ?_)
  refine lv_iconst (v := Int32.ofInt ((0 : Nat) : Int)) hx hb dw_16 rfl ?_
  refine lv_istore_n (lv' := [(3, .int (Int32.ofInt ((0 : Nat) : Int))), (2, .ref (s.heap.size + 485 + 0)), (1, .ref (s.heap.size + 0)), (0, .ref b)]) hx hb dw_17 rfl hl (by decide) rfl (fun ls hl => ?_)
  refine W.widen (k := 600000) (n := 7302250) nle nle ?_
  have g0 : sl_W G 0 m0 H4 := ct_sl (base := s.heap.size) (N := 485) (S := sF0) (fun j hj => (w2.2 j hj).kept (by
    show H4[s.heap.size + j]? = H2[s.heap.size + j]?
    have z2 : H2.size = s.heap.size + 485 := w2.1
    have z3 : H3.size = s.heap.size + 485 + 1 := w3.1
    rw [k4 _ (by omega) (by omega), k3 _ (by omega)])) (fun o i h => by rw [hG]; exact lwA_0 h) (fun q hq => ⟨(xs0 q hq).1, (xs0 q hq).2.1, (xs0 q hq).2.2.2⟩)
  have g1 : sl_W G 1 m0 H4 := ct_sl (base := s.heap.size + 485) (N := 37) (S := sF1) (fun j hj => w4.2 j hj) (fun o i h => by rw [hG]; exact lwA_1 h) (fun q hq => ⟨(xs1 q hq).1, (xs1 q hq).2.1, (xs1 q hq).2.2.2⟩)
  have hl' : lv_has ls 4 [(3, .int (Int32.ofInt ((0 : Nat) : Int))), (2, .ref (G.2.2 1 0)), (1, .ref (G.2.2 0 0)), (0, .ref b)] := by rw [hG]; exact hl
  exact lw_loop C0 hL hK.1 (lwA_G hG) (L + 1) 0 0 m0 m0 H4 locs4 ls (by omega) (Nat.zero_le _) (by omega) Jv_0 ⟨⟨RM_0, g0⟩, ⟨RM_0, g1⟩, hS4⟩ hl'
