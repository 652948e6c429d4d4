/-! Code: statements are added -/
/-- the sum of the lengths of the first n statements -/
def qs (P : Pg) : Nat → Int
  | 0 => 0
  | n + 1 => qs P n + P 11 n
/-- the first n statements alone -/
def tr (P : Pg) (n : Int) : Pg := fun i k => if i = 0 then n else if i = 3 then min (P 3 k) n else P i k
theorem tr_0 {P : Pg} {n k : Int} : tr P n 0 k = n := rfl
theorem tr_3 {P : Pg} {n k : Int} : tr P n 3 k = min (P 3 k) n := rfl
theorem tr_r {P : Pg} {n k : Int} {i : Nat} (h0 : i ≠ 0) (h3 : i ≠ 3) : tr P n i k = P i k := by unfold tr; rw [if_neg h0, if_neg h3]
theorem tr_wf {P : Pg} (h : WF P) {n : Int} (hn : 0 ≤ n ∧ n ≤ P 0 0) : WF (tr P n) := by
  have h0 := h.n0
  refine ⟨hn.1, by rw [tr_0]; omega, fun k k0 k1 => ?_⟩
  rw [tr_0] at k1
  obtain ⟨a, b, c, d, e, f, g, i⟩ := h.2.2 k k0 (by omega)
  simp only [tr_0, tr_3, tr_r (P := P) (n := n) (i := 2) (by decide) (by decide), tr_r (P := P) (n := n) (i := 1) (by decide) (by decide), tr_r (P := P) (n := n) (i := 4) (by decide) (by decide)]
  refine ⟨a, by omega, fun q => ⟨by have := (c q).1; omega, (c q).2⟩, fun j j0 j1 j2 => by have := d j j0 j1 j2; omega, e, f, g, i⟩
theorem qs_tr {P : Pg} {n : Int} : ∀ m, qs (tr P n) m = qs P m := by
  intro m
  induction m with
  | zero => rfl
  | succ m ih => rw [qs, qs, ih]; rfl
theorem qs_step {P : Pg} {n : Int} (h : 0 ≤ n) : qs P (n + 1).toNat = qs P n.toNat + P 11 n := by
  rw [show (n + 1).toNat = n.toNat + 1 by omega, qs, show ((n.toNat : Nat) : Int) = n by omega]
theorem qs_mono {P : Pg} : ∀ (b a : Nat), a ≤ b → (∀ k : Int, 0 ≤ k → k < b → 0 ≤ P 11 k) → qs P a ≤ qs P b := by
  intro b
  induction b with
  | zero => intro a h _; rw [show a = 0 by omega]; omega
  | succ b ih =>
    intro a h hp
    by_cases e : a = b + 1
    · rw [e]; omega
    · have := ih a (by omega) (fun k k0 k1 => hp k k0 (by omega))
      have := hp b (by omega) (by omega)
      rw [qs]; omega
/-- a code holds P, and nothing else -/
def CdA (M : sl_M) (c : Nat) (P : Pg) : Prop := WF P ∧ Cd M c P ∧ CdS M c P ∧ M c 0 12 = qs P (P 0 0).toNat ∧ qs P (P 0 0).toNat ≤ 160 ∧ ∀ k, 0 ≤ k → k < P 0 0 → M c 8 k = qs P k.toNat
section K
variable {l : Launch} {M : sl_M} {Q : sl_R} {P P2 : Pg} {c o : Nat} {n : Int}
theorem CdA.frame {N : sl_M} (h : CdA M c P) (hN : ∀ i j, N c i j = M c i j) : CdA N c P := by
  obtain ⟨a, b, d, e, f, g⟩ := h
  refine ⟨a, ⟨by rw [hN]; exact b.1, fun k k0 k1 => by rw [hN, hN, hN, hN]; exact b.2 k k0 k1⟩, d.frame hN, by rw [hN]; exact e, f, fun k k0 k1 => by rw [hN]; exact g k k0 k1⟩
theorem kX0_add (hc : sl_cls c = 0) (hw2 : WF P2) (hC : Cd M c P) (en : n = P 0 0) (h0 : 0 ≤ n) (hn : P2 0 0 = n + 1) (hA : ∀ k, 0 ≤ k → k < n → P2 1 k = P 1 k ∧ P2 2 k = P 2 k ∧ P2 4 k = P 4 k ∧ P 3 k = (if P2 3 k = n + 1 then n else P2 3 k)) {x1 x2 x3 : Int} (a1 : x1 = P2 1 n) (a2 : x2 = P2 2 n) (a3 : x3 = P2 4 n)
    (hQ : ∀ N, Cd N c P2 → (∀ o i j, o ≠ c → N o i j = M o i j) → (∀ i j, (i = 0 ∧ j ≠ 11) ∨ 11 ≤ i ∨ (5 ≤ i ∧ i ≤ 10 ∧ j ≠ n) → N c i j = M c i j) → N c 5 n = 0 → N c 6 n = -1 → N c 7 n = 16434824 → N c 8 n = M c 0 12 → N c 9 n = 0 → N c 10 n = 0 → Q (some (vI n)) N) : sl_Runs l mX0_add [vR c 0, vI x1, vI x2, vI x3] M Q := by
  have hn0 := hw2.n0
  subst a1 a2 a3
  refine eX0_add (vX0_add_0 hc fun _ _ _ _ => ?_)
  rw [hC.1, ← en]
  refine ⟨fun _ => ⟨by omega, fun M3 e3 => ⟨by omega, fun M5 e5 M6 e6 M7 e7 M8 e8 M9 e9 M10 e10 M11 e11 M12 e12 M13 e13 M14 e14 => ?_⟩⟩, fun q => by omega⟩
  have fr : ∀ o i j, ¬ (o = c ∧ ((i = 0 ∧ j = 11) ∨ (1 ≤ i ∧ i ≤ 10 ∧ j = n))) → M14 o i j = M o i j := by
    intro o i j z
    rw [e14, e13, e12, e11, e10, e9, e8, e7, e6, e5, e3]
    simp only [sl_wr]
    rw [if_neg (by omega), if_neg (by omega), if_neg (by omega), if_neg (by omega), if_neg (by omega), if_neg (by omega), if_neg (by omega), if_neg (by omega), if_neg (by omega), if_neg (by omega), if_neg (by omega)]
  have vl : M14 c 0 11 = n + 1 ∧ M14 c 1 n = P2 1 n ∧ M14 c 2 n = P2 2 n ∧ M14 c 3 n = 0 ∧ M14 c 4 n = P2 4 n ∧ M14 c 5 n = 0 ∧ M14 c 6 n = -1 ∧ M14 c 7 n = 16434824 ∧ M14 c 8 n = M c 0 12 ∧ M14 c 9 n = 0 ∧ M14 c 10 n = 0 := by
    rw [e14, e13, e12, e11, e10, e9, e8, e7, e6, e5, e3]
    simp [sl_wr]
  obtain ⟨v0, v1, v2, v3, v4, v5, v6, v7, v8, v9, v10⟩ := vl
  have loop : ∀ (m : Nat) (u x : Int) (N : sl_M), (u + 1).toNat ≤ m → -1 ≤ u → u < n → (0 ≤ u → P2 3 u = n + 1) → 0 ≤ x → x + u ≤ n - 1 → (∀ o i j, ¬ (o = c ∧ i = 3) → N o i j = M14 o i j) → N c 3 n = 0 → (∀ k, 0 ≤ k → k < n → k + N c 3 k + 1 = if P2 3 k = n + 1 ∧ u < k then n + 1 else P 3 k) → sl_At l mX0_add 117 [(0, vR c 0), (4, vI n), (5, vI u), (6, vI x)] [] N Q := by
    intro m
    induction m with
    | zero =>
      intro u x N hm u0 u1 u2 x0 xu hN hN3 hI
      have fin : Q (some (vI n)) N := by
        refine hQ N ⟨by rw [hN c 0 11 (by omega), v0, hn], fun k k0 k1 => ?_⟩ (fun o i j z => by rw [hN o i j (fun w => z w.1), fr o i j (fun w => z w.1)]) (fun i j z => by rw [hN c i j (by omega), fr c i j (by omega)]) (by rw [hN c 5 n (by omega), v5]) (by rw [hN c 6 n (by omega), v6]) (by rw [hN c 7 n (by omega), v7]) (by rw [hN c 8 n (by omega), v8]) (by rw [hN c 9 n (by omega), v9]) (by rw [hN c 10 n (by omega), v10])
        rw [hN c 1 k (by omega), hN c 2 k (by omega), hN c 4 k (by omega)]
        by_cases ek : k = n
        · subst ek
          have := hw2.af k0 k1
          exact ⟨v1, v2, by rw [hN3]; omega, v4⟩
        · obtain ⟨b1, b2, b3, b4⟩ := hC.2 k k0 (by omega)
          obtain ⟨g1, g2, g3, g4⟩ := hA k k0 (by omega)
          have := hI k k0 (by omega)
          rw [fr c 1 k (by omega), fr c 2 k (by omega), fr c 4 k (by omega)]
          refine ⟨by omega, by omega, ?_, by omega⟩
          rw [this]
          by_cases z : P2 3 k = n + 1
          · rw [if_pos ⟨z, by omega⟩, z]
          · rw [if_neg (fun w => z w.1), g4, if_neg z]
      refine vX0_add_117 hc fun _ _ _ _ => ⟨fun _ => fin, fun _ => ⟨fun _ => fin, fun q => by omega⟩⟩
    | succ m ih =>
      intro u x N hm u0 u1 u2 x0 xu hN hN3 hI
      by_cases hu : u < 0
      · exact ih u x N (by omega) u0 u1 u2 x0 xu hN hN3 hI
      · have w1 := hw2.pr (k := u) (by omega) (by omega)
        refine vX0_add_117 hc fun _ _ _ _ => ⟨fun q => by omega, fun q => ⟨fun q2 => by omega, fun _ => ?_⟩⟩
        have p3 := u2 (by omega)
        have hiu := hI u (by omega) u1
        obtain ⟨g1, g2, g3, g4⟩ := hA u (by omega) u1
        rw [if_neg (by omega), g4, if_pos p3] at hiu
        refine ⟨by omega, by omega, fun N5 e5 => ⟨by omega, ?_⟩⟩
        have f5 : ∀ o i j, ¬ (o = c ∧ i = 3) → N5 o i j = M14 o i j := fun o i j z => by
          rw [e5]; simp only [sl_wr]; rw [if_neg (by omega)]; exact hN o i j z
        have eu : N5 c 2 u = P2 2 u := by
          rw [f5 c 2 u (by omega), fr c 2 u (by omega), (hC.2 u (by omega) (by omega)).2.1, g2]
        rw [eu]
        refine ih (P2 2 u) (x + 1) N5 (by omega) (by omega) (by omega) (fun z => ?_) (by omega) (by omega) f5 ?_ (fun k k0 k1 => ?_)
        · have := hw2.up (k := u) (by omega) (by omega) z
          have := hw2.af (k := P2 2 u) z (by omega)
          omega
        · rw [e5]; simp only [sl_wr]; rw [if_neg (by omega)]; exact hN3
        · by_cases ek : k = u
          · subst ek
            rw [if_pos ⟨p3, by omega⟩, e5, sl_wr_s]; omega
          · have e : N5 c 3 k = N c 3 k := by rw [e5]; simp only [sl_wr]; rw [if_neg (by omega)]
            rw [e, hI k k0 k1]
            by_cases z : P2 3 k = n + 1
            · by_cases z2 : u < k
              · rw [if_pos ⟨z, z2⟩, if_pos ⟨z, by omega⟩]
              · by_cases z3 : P2 2 u < k
                · have := hw2.bt (k := u) (j := k) (by omega) (by omega) k0 z3 (by omega)
                  omega
                · rw [if_neg (by omega), if_neg (by omega)]
            · rw [if_neg (fun w => z w.1), if_neg (fun w => z w.1)]
  have w1 := hw2.pr (k := n) h0 (by omega)
  refine loop 40 (P2 2 n) 0 M14 (by omega) (by omega) (by omega) (fun z => ?_) (by omega) (by omega) (fun _ _ _ _ => rfl) v3 (fun k k0 k1 => ?_)
  · have := hw2.up (k := n) h0 (by omega) z
    have := hw2.af (k := P2 2 n) z (by omega)
    have := hw2.af (k := n) h0 (by omega)
    omega
  · rw [fr c 3 k (by omega), (hC.2 k k0 (by omega)).2.2.1]
    by_cases z : P2 3 k = n + 1
    · by_cases z2 : P2 2 n < k
      · have := hw2.bt (k := n) (j := k) h0 (by omega) k0 z2 k1
        omega
      · rw [if_neg (by omega)]
    · rw [if_neg (fun w => z w.1)]
theorem kX0_put (hc : sl_cls c = 0) {x q L : Int} (hn : M c 0 11 = n) (h1 : 0 < n ∧ n ≤ 40) (hq : M c 0 12 = q) (h2 : 0 ≤ q ∧ q < 160) (hL : M c 9 (n - 1) = L) (h3 : 0 ≤ L ∧ L < 160) (hQ : ∀ N, (∀ o i j, ¬ (o = c ∧ ((i = 0 ∧ j = 12) ∨ (i = 11 ∧ j = q) ∨ (i = 9 ∧ j = n - 1))) → N o i j = M o i j) → N c 0 12 = q + 1 → N c 11 q = x → N c 9 (n - 1) = L + 1 → Q none N) : sl_Runs l mX0_put [vR c 0, vI x] M Q := by
  refine eX0_put (vX0_put_0 hc fun _ _ => ?_)
  rw [hn, hq]
  refine ⟨fun z => by omega, fun _ => ⟨fun _ => ⟨h2, fun M4 e4 => ?_⟩, fun z => by omega⟩⟩
  have a1 : M4 c 0 12 = q := by rw [e4]; simp only [sl_wr]; rw [if_neg (by omega)]; exact hq
  rw [a1]
  refine ⟨by omega, fun M6 e6 => ?_⟩
  have a2 : M6 c 0 11 = n := by rw [e6, e4]; simp only [sl_wr]; rw [if_neg (by omega), if_neg (by omega)]; exact hn
  have a3 : M6 c 9 (n - 1) = L := by rw [e6, e4]; simp only [sl_wr]; rw [if_neg (by omega), if_neg (by omega)]; exact hL
  rw [a2, a3]
  refine ⟨by omega, by omega, fun M9 e9 => hQ M9 (fun o i j z => ?_) ?_ ?_ ?_⟩
  · rw [e9, e6, e4]; simp only [sl_wr]; rw [if_neg (by omega), if_neg (by omega), if_neg (by omega)]
  · rw [e9, e6]; simp [sl_wr]
  · rw [e9, e6, e4]; simp [sl_wr]
  · rw [e9]; exact sl_wr_s
theorem WF.nil (h : P 0 0 = 0) : WF P := ⟨by omega, by omega, fun k k0 k1 => by omega⟩
theorem kX0_empty (hc : sl_cls c = 0) (hQ : ∀ N, (∀ o i j, o ≠ c → N o i j = M o i j) → N c 0 11 = 0 → N c 0 12 = 0 → (∀ P, P 0 0 = 0 → CdA N c P) → Q none N) : sl_Runs l mX0_empty [vR c 0] M Q := by
  refine eX0_empty (vX0_empty_0 hc fun _ M1 e1 M2 e2 => ?_)
  have a1 : M2 c 0 11 = 0 := by rw [e2, e1]; simp [sl_wr]
  have a2 : M2 c 0 12 = 0 := by rw [e2]; exact sl_wr_s
  refine hQ M2 (fun o i j z => by rw [e2, e1]; simp only [sl_wr]; rw [if_neg (by omega), if_neg (by omega)]) a1 a2 (fun P h => ⟨WF.nil h, ⟨by rw [a1, h], fun k k0 k1 => by omega⟩, fun k k0 k1 => by omega, by rw [a2, h]; rfl, by rw [h]; show (0 : Int) ≤ 160; decide, fun k k0 k1 => by omega⟩)
/-- one more statement stands there -/
theorem CdA.next {N : sl_M} (hP : CdA M c (tr P2 n)) (hw2 : WF P2) (hn : 0 ≤ n ∧ n < P2 0 0) (hC : Cd N c (tr P2 (n + 1))) (hr : ∀ i j, (5 ≤ i ∧ i ≤ 10 ∧ 0 ≤ j ∧ j < n) ∨ (i = 11 ∧ j < qs P2 n.toNat) → N c i j = M c i j) (hl : 0 ≤ P2 11 n ∧ P2 11 n ≤ 12) (h12 : N c 0 12 = qs P2 n.toNat + P2 11 n) (hq : qs P2 n.toNat + P2 11 n ≤ 160) (h8 : N c 8 n = qs P2 n.toNat) (h9 : N c 9 n = P2 11 n) (hs : ∀ i, 0 ≤ i → i < P2 11 n → N c 11 (qs P2 n.toNat + i) = P2 12 (16 * n + i)) (h6 : P2 1 n = 0 → N c 6 n = P2 6 n ∧ 0 ≤ P2 6 n ∧ P2 6 n < 8) (h7 : P2 1 n = 7 → N c 6 n = P2 6 n) (h5 : N c 5 n = P2 5 n) (h10 : N c 10 n = P2 10 n) (hr7 : N c 7 n = P2 7 n) : CdA N c (tr P2 (n + 1)) := by
  obtain ⟨p1, p2, p3, p4, p5, p6⟩ := hP
  have hmn : ∀ k : Int, 0 ≤ k → k < n → 0 ≤ P2 11 k := fun k k0 k1 => (p3 k k0 k1).2.1.1
  refine ⟨tr_wf hw2 (by omega), hC, fun k k0 k1 => ?_, ?_, ?_, fun k k0 k1 => ?_⟩
  · rw [tr_0] at k1
    by_cases ek : k = n
    · subst ek
      have q0 : 0 ≤ qs P2 k.toNat := by
        have := qs_mono (P := P2) k.toNat 0 (by omega) (fun x x0 x1 => hmn x x0 (by omega))
        exact this
      refine ⟨h9, hl, ⟨by rw [h8]; exact q0, by rw [h8]; exact hq⟩, fun i i0 i1 => by rw [h8]; exact hs i i0 i1, h6, h7, h5, h10, hr7⟩
    · obtain ⟨s1, s2, s3, s4, s5, s6, s7, s8, s9⟩ := p3 k k0 (by rw [tr_0]; omega)
      have g8 := p6 k k0 (by rw [tr_0]; omega)
      rw [qs_tr] at g8
      have hb : qs P2 k.toNat + P2 11 k ≤ qs P2 n.toNat := by
        have := qs_mono (P := P2) n.toNat (k + 1).toNat (by omega) (fun x x0 x1 => hmn x x0 (by omega))
        rw [qs_step k0] at this; exact this
      have e : ∀ i, 5 ≤ i → i ≤ 10 → N c i k = M c i k := fun i i0 i1 => hr i k (by omega)
      refine ⟨by rw [e 9 (by omega) (by omega)]; exact s1, s2, by rw [e 8 (by omega) (by omega)]; exact s3, fun i i0 i1 => ?_, fun z => by rw [e 6 (by omega) (by omega)]; exact s5 z, fun z => by rw [e 6 (by omega) (by omega)]; exact s6 z, by rw [e 5 (by omega) (by omega)]; exact s7, by rw [e 10 (by omega) (by omega)]; exact s8, by rw [e 7 (by omega) (by omega)]; exact s9⟩
      rw [e 8 (by omega) (by omega)]
      have i1' : i < P2 11 k := i1
      rw [hr 11 _ (by omega)]
      exact s4 i i0 i1
  · rw [qs_tr, tr_0, qs_step hn.1]; exact h12
  · rw [qs_tr, tr_0, qs_step hn.1]; exact hq
  · rw [tr_0] at k1
    rw [qs_tr]
    by_cases ek : k = n
    · rw [ek]; exact h8
    · rw [hr 8 k (by omega), p6 k k0 (by rw [tr_0]; omega), qs_tr]
end K
