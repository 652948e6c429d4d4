/-! The class builds the state in which a span is lifted -/
theorem pn_31 {to : Int → Int} (ht : ∀ v, 0 ≤ v → v < 8 → -1 ≤ to v ∧ to v < 8) : ∀ (n : Nat) (v a : Int), 0 ≤ v → v + n = 8 → bt (pn to n v a) 31 = bt a 31 := by
  intro n
  induction n with
  | zero => intro v a _ _; rfl
  | succ n ih =>
    intro v a v0 hv
    rw [pn, ih (v + 1) _ (by omega) (by omega)]
    by_cases c : to v = -1
    · rw [if_pos c]
    · have t := ht v v0 (by omega)
      rw [if_neg c, bt_ior, bt_ishl (by omega) (by omega)]
      have := bt_lt8 (to v).toNat (by omega) (31 - (3 * v).toNat) (by omega) (by omega)
      rw [show (((to v).toNat : Nat) : Int) = to v by omega] at this
      rw [this, Bool.and_false, Bool.or_false]
theorem pkn_ne {to : Int → Int} (ht : ∀ v, 0 ≤ v → v < 8 → -1 ≤ to v ∧ to v < 8) : pkn to ≠ -1 := by
  intro e
  have h := pn_31 ht 8 0 0 (by omega) (by omega)
  unfold pkn at e
  rw [e, bt_0, bt_m1 (by omega)] at h
  cases h
section K
variable {l : Launch} {M : sl_M} {Q : sl_R} {P P2 B : Pg} {c o s : Nat}
theorem CdA.cong (h : CdA M c P) (hw : WF P2) (h0 : P2 0 0 = P 0 0) (hr : ∀ k, 0 ≤ k → k < P 0 0 → P2 1 k = P 1 k ∧ P2 2 k = P 2 k ∧ P2 3 k = P 3 k ∧ P2 4 k = P 4 k ∧ P2 5 k = P 5 k ∧ P2 6 k = P 6 k ∧ P2 7 k = P 7 k ∧ P2 10 k = P 10 k ∧ P2 11 k = P 11 k ∧ ∀ i, 0 ≤ i → i < P 11 k → P2 12 (16 * k + i) = P 12 (16 * k + i)) : CdA M c P2 := by
  obtain ⟨a, b, d, e, f, g⟩ := h
  have n0 := a.n0
  have eq : ∀ m : Nat, (m : Int) ≤ P 0 0 → qs P2 m = qs P m := by
    intro m
    induction m with
    | zero => intro _; rfl
    | succ m ih => intro hm; rw [qs, qs, ih (by omega), (hr m (by omega) (by omega)).2.2.2.2.2.2.2.2.1]
  refine ⟨hw, ⟨by rw [h0]; exact b.1, fun k k0 k1 => ?_⟩, fun k k0 k1 => ?_, by rw [h0, eq _ (by omega)]; exact e, by rw [h0, eq _ (by omega)]; exact f, fun k k0 k1 => ?_⟩
  · rw [h0] at k1
    obtain ⟨r1, r2, r3, r4, -⟩ := hr k k0 k1
    rw [r1, r2, r3, r4]; exact b.2 k k0 k1
  · rw [h0] at k1
    obtain ⟨r1, r2, r3, r4, r5, r6, r7, r10, r11, r12⟩ := hr k k0 k1
    rw [r1, r5, r6, r7, r10, r11]
    obtain ⟨d1, d2, d3, d4, d5⟩ := d k k0 k1
    exact ⟨d1, d2, d3, fun i i0 i1 => by rw [r12 i i0 i1]; exact d4 i i0 i1, d5⟩
  · rw [h0] at k1
    rw [eq _ (by omega)]; exact g k k0 k1
theorem kX5_formalA (c1 : sl_cls o = 5) (c2 : sl_cls (o + 30) = 0) (hB : CdA M (o + 30) B) {set k : Int} (hk : 0 ≤ k) (hQ : Q (some (vI (fnd k (od set [] (ocs B (B 0 0).toNat 0))))) M) : sl_Runs l mX5_formalAt [vR o 0, vI set, vI k] M Q := by
  have n0 := hB.1.n0
  refine eX5_formalAt (vX5_formalAt_0 c1 fun _ _ _ => ?_)
  rw [hB.2.1.1]
  refine ⟨by omega, kX0_pick c2 hB.1 hB.2.1 hB.2.2.1 ⟨by omega, by omega, by omega⟩ hk ⟨_, rfl, ?_⟩⟩
  rw [show (B 0 0 - 1 + 1 - 0).toNat = (B 0 0).toNat by omega]
  exact hQ
theorem kX7_putNames (hs : sl_cls s = 7) (hc : sl_cls (s + 10) = 0) (c1 : sl_cls o = 5) (c2 : sl_cls (o + 30) = 0) (hB : CdA M (o + 30) B) {set r n q x : Int} (hm : m8 set) (hl : pcn set = (od set [] (ocs B (B 0 0).toNat 0)).length) (h8 : ∀ v, v ∈ od set [] (ocs B (B 0 0).toNat 0) → 0 ≤ v ∧ v < 8) (hn : M (s + 10) 0 11 = n + 1) (n0 : 0 ≤ n ∧ n < 40) (hq : M (s + 10) 0 12 = q) (q0 : 0 ≤ q ∧ q + (od set [] (ocs B (B 0 0).toNat 0)).length ≤ 160) (hx : M (s + 10) 9 n = x) (x0 : 0 ≤ x ∧ x ≤ 12) (hQ : ∀ N, (∀ o' i j, ¬ (o' = s + 10 ∧ ((i = 0 ∧ j = 12) ∨ (i = 11 ∧ q ≤ j) ∨ (i = 9 ∧ j = n))) → N o' i j = M o' i j) → N (s + 10) 0 12 = q + (od set [] (ocs B (B 0 0).toNat 0)).length → N (s + 10) 9 n = x + (od set [] (ocs B (B 0 0).toNat 0)).length → (∀ a : Nat, a < (od set [] (ocs B (B 0 0).toNat 0)).length → N (s + 10) 11 (q + a) = 97 + rn r ((od set [] (ocs B (B 0 0).toNat 0)).getD a 0)) → Q none N) : sl_Runs l mX7_putNames [vR s 0, vR o 0, vI set, vI r] M Q := by
  have len8 := nodup_len (od_nodup (set := set) (ocs B (B 0 0).toNat 0) [] List.nodup_nil) h8
  have sne : o + 30 ≠ s + 10 := fun e => by
    have := cls7 hs
    have := c2
    have h1 : o = s - 20 + 0 := by omega
    omega
  have loop : ∀ (m : Nat) (a : Nat) (N : sl_M), a + m = (od set [] (ocs B (B 0 0).toNat 0)).length → (∀ o' i j, ¬ (o' = s + 10 ∧ ((i = 0 ∧ j = 12) ∨ (i = 11 ∧ q ≤ j) ∨ (i = 9 ∧ j = n))) → N o' i j = M o' i j) → N (s + 10) 0 12 = q + a → N (s + 10) 9 n = x + a → (∀ b : Nat, b < a → N (s + 10) 11 (q + b) = 97 + rn r ((od set [] (ocs B (B 0 0).toNat 0)).getD b 0)) → sl_At l mX7_putNames 9 [(0, vR s 0), (1, vR o 0), (2, vI set), (3, vI r), (4, vI ((od set [] (ocs B (B 0 0).toNat 0)).length : Int)), (5, vI (a : Int))] [] N Q := by
    intro m
    induction m with
    | zero =>
      intro a N ha hN h12 h9 hb
      refine vX7_putNames_9 hs c1 fun _ _ _ _ _ => ⟨fun _ => hQ N hN (by rw [h12]; omega) (by rw [h9]; omega) (fun b hb' => hb b (by omega)), fun z => by omega⟩
    | succ m ih =>
      intro a N ha hN h12 h9 hb
      have hBN : CdA N (o + 30) B := hB.frame (fun i j => hN _ i j (by omega))
      refine vX7_putNames_9 hs c1 fun _ _ _ _ _ => ⟨fun z => by omega, fun _ => kX5_formalA c1 c2 hBN (by omega) ⟨_, rfl, ?_⟩⟩
      have ea : fnd (a : Int) (od set [] (ocs B (B 0 0).toNat 0)) = (od set [] (ocs B (B 0 0).toNat 0)).getD a 0 := by
        unfold fnd
        rw [Int.toNat_natCast, List.getD_eq_getElem?_getD, List.getD_eq_getElem?_getD, List.getElem?_eq_getElem (by omega)]; rfl
      have v8 := h8 _ (getD_mem.mpr ⟨a, by omega, rfl⟩)
      rw [ea]
      refine ⟨fun z => by omega, fun _ => ⟨by have := rn_rng r ((od set [] (ocs B (B 0 0).toNat 0)).getD a 0); unfold rn at this; omega, ?_⟩⟩
      refine kX0_put hc (n := n + 1) (q := q + a) (L := x + a) (by rw [hN (s + 10) 0 11 (by omega)]; exact hn) (by omega) h12 (by omega) (by rw [show n + 1 - 1 = n by omega]; exact h9) (by omega) (fun N' g1 g2 g3 g4 => ⟨rfl, by omega, ?_⟩)
      rw [show n + 1 - 1 = n by omega] at g1 g4
      have := ih (a + 1) N' (by omega) (fun o' i j zz => by rw [g1 o' i j (by omega)]; exact hN o' i j zz) (by rw [g2]; omega) (by rw [g4]; omega) (fun b hb' => ?_)
      · rw [show ((a + 1 : Nat) : Int) = (a : Int) + 1 by omega] at this; exact this
      · by_cases e : b = a
        · rw [e, g3]; rfl
        · rw [g1 (s + 10) 11 _ (by omega)]; exact hb b (by omega)
  refine eX7_putNames (vX7_putNames_0 hs c1 fun _ _ _ => kJ6_bitCount hm ⟨_, rfl, ?_⟩)
  rw [hl]
  exact loop (od set [] (ocs B (B 0 0).toNat 0)).length 0 M (by omega) (fun _ _ _ _ => rfl) (by omega) (by omega) (fun b hb => by omega)
theorem kX7_addCall (hs : sl_cls s = 7) {m r n : Int} (hm : 0 ≤ m ∧ m < 3) (hB : CdA M (rO s m + 30) B) {I O : Int} (hI : M (rO s m) 0 2 = I) (hO : M (rO s m) 0 3 = O) (mI : m8 I) (mO : m8 O) (lI : pcn I = (od I [] (ocs B (B 0 0).toNat 0)).length) (lO : pcn O = (od O [] (ocs B (B 0 0).toNat 0)).length) (l4 : (od I [] (ocs B (B 0 0).toNat 0)).length ≤ 4) (l3 : (od O [] (ocs B (B 0 0).toNat 0)).length ≤ 3) (h8 : ∀ v, v ∈ ocs B (B 0 0).toNat 0 → 0 ≤ v ∧ v < 8) (hP : CdA M (s + 10) (tr P2 n)) (hw2 : WF P2) (hn : 0 ≤ n ∧ n < P2 0 0) (hq : qs P2 (n + 1).toNat ≤ 160) (p1 : P2 1 n = 7) (p5 : P2 5 n = 0) (p6 : P2 6 n = m) (p7 : P2 7 n = r) (p10 : P2 10 n = rset r I) (p11 : P2 11 n = (od I [] (ocs B (B 0 0).toNat 0)).length + 1 + (od O [] (ocs B (B 0 0).toNat 0)).length) (p12 : ∀ a : Nat, a < (od I [] (ocs B (B 0 0).toNat 0)).length → P2 12 (16 * n + a) = 97 + rn r ((od I [] (ocs B (B 0 0).toNat 0)).getD a 0)) (p12m : P2 12 (16 * n + ((od I [] (ocs B (B 0 0).toNat 0)).length : Int)) = 62) (p12o : ∀ a : Nat, a < (od O [] (ocs B (B 0 0).toNat 0)).length → P2 12 (16 * n + (((od I [] (ocs B (B 0 0).toNat 0)).length : Int) + 1 + a)) = 97 + rn r ((od O [] (ocs B (B 0 0).toNat 0)).getD a 0)) {u sd : Int} (hu : u = P2 2 n) (hsd : sd = P2 4 n) (hQ : ∀ N, CdA N (s + 10) (tr P2 (n + 1)) → (∀ o' i j, o' ≠ s + 10 → N o' i j = M o' i j) → Q none N) : sl_Runs l mX7_addCall [vR s 0, vI u, vI sd, vI m, vI r] M Q := by
  have sr := cls7 hs
  obtain ⟨c1, c2, c3⟩ := cls_r hs (m := m) (by omega)
  have hPP := hP
  obtain ⟨h1, h2, h3, h4, h5, h6⟩ := hP
  rw [tr_0, qs_tr] at h4 h5
  rw [qs_step hn.1, p11] at hq
  have n0 := hw2.n0
  have q0 : 0 ≤ qs P2 n.toNat := qs_mono (P := P2) n.toNat 0 (by omega) (fun x x0 x1 => (h3 x x0 (by rw [tr_0]; omega)).2.1.1)
  refine eX7_addCall (vX7_addCall_0 hs fun _ _ _ _ _ => kX0_add (P2 := tr P2 (n + 1)) c3 (tr_wf hw2 (by omega)) h2 (n := n) rfl hn.1 rfl (fun x x0 x1 => ⟨rfl, rfl, rfl, by rw [tr_3, tr_3]; split <;> omega⟩) p1.symm hu hsd (fun N hC hN hr n5 n6 n7 n8 n9 n10 => ⟨_, rfl, fun _ => ⟨by omega, by omega, fun M6 e6 M7 e7 => ?_⟩, fun z => by omega⟩))
  have f7 : ∀ o' a b, ¬ (o' = s + 10 ∧ (a = 6 ∨ a = 7) ∧ b = n) → M7 o' a b = N o' a b := fun o' a b zz => by rw [e7, e6]; simp only [sl_wr]; rw [if_neg (by omega), if_neg (by omega)]
  have v6 : M7 (s + 10) 6 n = m := by rw [e7, e6]; simp [sl_wr]
  have v7 : M7 (s + 10) 7 n = r := by rw [e7, sl_wr_s]
  have fo : ∀ o', o' ≠ s + 10 → ∀ a b, M7 o' a b = M o' a b := fun o' ho a b => by rw [f7 o' a b (fun w => ho w.1)]; exact hN o' a b ho
  have b7 : CdA M7 (rO s m + 30) B := hB.frame (fun a b => fo _ (by unfold rO; omega) a b)
  have i7 : M7 (rO s m) 0 2 = I := by rw [fo _ (by unfold rO; omega)]; exact hI
  show sl_RV l mX7_putNames [vR s 0, vR (rO s m) 0, vI (M7 (rO s m) 0 2), vI r] M7 _
  rw [i7]
  refine kX7_putNames hs c3 c1 c2 b7 mI lI (od_8 h8) (n := n) (q := qs P2 n.toNat) (x := 0) (by rw [f7 _ _ _ (by omega)]; exact hC.1) (by omega) (by rw [f7 _ _ _ (by omega), hr 0 12 (by omega)]; exact h4) ⟨q0, by omega⟩ (by rw [f7 _ _ _ (by omega)]; exact n9) (by omega) (fun N8 g1 g2 g3 g4 => ⟨rfl, ?_⟩)
  refine kX0_put c3 (n := n + 1) (q := qs P2 n.toNat + (od I [] (ocs B (B 0 0).toNat 0)).length) (L := 0 + (od I [] (ocs B (B 0 0).toNat 0)).length) (by rw [g1 _ _ _ (by omega), f7 _ _ _ (by omega)]; exact hC.1) (by omega) g2 (by omega) (by rw [show n + 1 - 1 = n by omega]; exact g3) (by omega) (fun N9 k1 k2 k3 k4 => ⟨rfl, ?_⟩)
  rw [show n + 1 - 1 = n by omega] at k1 k4
  have fo9 : ∀ o', o' ≠ s + 10 → ∀ a b, N9 o' a b = M o' a b := fun o' ho a b => by rw [k1 o' a b (fun w => ho w.1), g1 o' a b (fun w => ho w.1)]; exact fo o' ho a b
  have b9 : CdA N9 (rO s m + 30) B := hB.frame (fun a b => fo9 _ (by unfold rO; omega) a b)
  have o9 : N9 (rO s m) 0 3 = O := by rw [fo9 _ (by unfold rO; omega)]; exact hO
  show sl_RV l mX7_putNames [vR s 0, vR (rO s m) 0, vI (N9 (rO s m) 0 3), vI r] N9 _
  rw [o9]
  refine kX7_putNames hs c3 c1 c2 b9 mO lO (od_8 h8) (n := n) (q := qs P2 n.toNat + (od I [] (ocs B (B 0 0).toNat 0)).length + 1) (x := 0 + (od I [] (ocs B (B 0 0).toNat 0)).length + 1) (by rw [k1 _ _ _ (by omega), g1 _ _ _ (by omega), f7 _ _ _ (by omega)]; exact hC.1) (by omega) k2 ⟨by omega, by omega⟩ k4 (by omega) (fun N10 j1 j2 j3 j4 => ⟨rfl, ?_⟩)
  have fo10 : ∀ o', o' ≠ s + 10 → ∀ a b, N10 o' a b = M o' a b := fun o' ho a b => by rw [j1 o' a b (fun w => ho w.1)]; exact fo9 o' ho a b
  have i10 : N10 (rO s m) 0 2 = I := by rw [fo10 _ (by unfold rO; omega)]; exact hI
  show sl_RI l mX9_renamedSet [vI r, vI (N10 (rO s m) 0 2)] N10 _
  rw [i10]
  refine kX9_renamedSet ⟨_, rfl, fun M13 e13 => ?_⟩
  have f13 : ∀ a b, ¬ (a = 10 ∧ b = n) → M13 (s + 10) a b = N10 (s + 10) a b := fun a b zz => by rw [e13]; simp only [sl_wr]; rw [if_neg (by omega)]
  -- all the way back for a cell that is not touched
  have bk : ∀ a b, ¬ (a = 10 ∧ b = n) → ¬ ((a = 0 ∧ b = 12) ∨ (a = 11 ∧ qs P2 n.toNat ≤ b) ∨ (a = 9 ∧ b = n)) → ¬ ((a = 6 ∨ a = 7) ∧ b = n) → M13 (s + 10) a b = N (s + 10) a b := fun a b z1 z2 z3 => by
    rw [f13 a b z1, j1 _ a b (by omega), k1 _ a b (by omega), g1 _ a b (by omega), f7 _ a b (by omega)]
  refine hQ M13 (CdA.next (M := M) hPP hw2 hn (hC.row (bk _ _ (by omega) (by omega) (by omega)) (fun a b _ _ => bk a b (by omega) (by omega) (by omega))) (fun a b z => by rw [bk a b (by omega) (by omega) (by omega)]; exact hr a b (by omega)) (by omega) (by rw [f13 _ _ (by omega), j2, p11]; omega) (by rw [p11]; omega) (by rw [bk 8 n (by omega) (by omega) (by omega), n8]; exact h4) (by rw [f13 _ _ (by omega), j3, p11]; omega) (fun x x0 x1 => ?_) (fun z => by omega) (fun _ => ?_) (by rw [bk 5 n (by omega) (by omega) (by omega), n5, p5]) (by rw [e13, sl_wr_s, p10]) ?_) (fun o' a b zz => by rw [e13]; simp only [sl_wr]; rw [if_neg (by omega)]; exact fo10 o' zz a b)
  · rw [f13 _ _ (by omega)]
    rw [p11] at x1
    by_cases c1 : x < (od I [] (ocs B (B 0 0).toNat 0)).length
    · rw [j1 _ 11 _ (by omega), k1 _ 11 _ (by omega)]
      have := g4 x.toNat (by omega)
      have q := p12 x.toNat (by omega)
      rw [show ((x.toNat : Nat) : Int) = x by omega] at this q
      rw [this, q]
    · by_cases c2 : x = (od I [] (ocs B (B 0 0).toNat 0)).length
      · rw [j1 _ 11 _ (by omega), c2, k3, p12m]
      · have := j4 (x - (od I [] (ocs B (B 0 0).toNat 0)).length - 1).toNat (by omega)
        have q := p12o (x - (od I [] (ocs B (B 0 0).toNat 0)).length - 1).toNat (by omega)
        rw [show (((x - (od I [] (ocs B (B 0 0).toNat 0)).length - 1).toNat : Nat) : Int) = x - (od I [] (ocs B (B 0 0).toNat 0)).length - 1 by omega] at this q
        rw [show qs P2 n.toNat + ((od I [] (ocs B (B 0 0).toNat 0)).length : Int) + 1 + (x - (od I [] (ocs B (B 0 0).toNat 0)).length - 1) = qs P2 n.toNat + x by omega] at this
        rw [show ((od I [] (ocs B (B 0 0).toNat 0)).length : Int) + 1 + (x - (od I [] (ocs B (B 0 0).toNat 0)).length - 1) = x by omega] at q
        rw [this, q]
  · rw [f13 _ _ (by omega), j1 _ 6 n (by omega), k1 _ 6 n (by omega), g1 _ 6 n (by omega), v6, p6]
  · rw [f13 _ _ (by omega), j1 _ 7 n (by omega), k1 _ 7 n (by omega), g1 _ 7 n (by omega), v7, p7]
theorem kX8_renamingAt {L : List (Int × (Int → Int))} (hL : TwL M L) (l40 : L.length ≤ 40) {k : Int} (hQ : ∀ x, (∀ q, q ∈ L → q.1 ≠ k) ∧ x = -1 ∨ (∃ (a : Nat) (q : Int × (Int → Int)), L[a]? = some q ∧ q.1 = k ∧ x = pkn q.2) → Q (some (vI x)) M) : sl_Runs l mX8_renamingAt [vR 8 0, vI k] M Q := by
  have loop : ∀ (n : Nat) (a : Nat), a + n = L.length → (∀ (b : Nat) (q : Int × (Int → Int)), b < a → L[b]? = some q → q.1 ≠ k) → sl_At l mX8_renamingAt 2 [(0, vR 8 0), (1, vI k), (2, vI (a : Int))] [] M Q := by
    intro n
    induction n with
    | zero =>
      intro a ha hb
      refine vX8_renamingAt_2 fun _ _ _ => ?_
      rw [hL.1]
      refine ⟨fun _ => hQ _ (Or.inl ⟨fun q hq => ?_, rfl⟩), fun z => by omega⟩
      obtain ⟨b, hb', e⟩ := List.getElem_of_mem hq
      exact hb b q (by omega) (by rw [List.getElem?_eq_getElem hb', e])
    | succ n ih =>
      intro a ha hb
      have hlt : a < L.length := by omega
      have t := hL.2 a _ (List.getElem?_eq_getElem hlt)
      refine vX8_renamingAt_2 fun _ _ _ => ?_
      rw [hL.1, t.1, t.2]
      refine ⟨fun z => by omega, fun _ => ⟨by omega, fun z => ⟨by omega, ?_⟩, fun z => hQ _ (Or.inr ⟨a, _, List.getElem?_eq_getElem hlt, by omega, rfl⟩)⟩⟩
      have := ih (a + 1) (by omega) (fun b q hb' hq => ?_)
      · rw [show ((a + 1 : Nat) : Int) = (a : Int) + 1 by omega] at this; exact this
      · by_cases e : b = a
        · rw [e, List.getElem?_eq_getElem hlt] at hq
          injection hq with hq
          rw [← hq]; exact z
        · exact hb b q (by omega) hq
  exact eX8_renamingAt (vX8_renamingAt_0 fun _ _ => loop L.length 0 (by omega) (fun b q hb => by omega))
end K
