/-! Code: copies of statements are added -/
/-- a symbol renamed -/
def ren (r x : Int) : Int := if sp_var x ≠ -1 then 97 + rn r (sp_var x) else x
/-- statement n of P2 is statement k of S, renamed -/
def cpy (r : Int) (S : Pg) (k : Int) (P2 : Pg) (n : Int) : Prop := P2 1 n = S 1 k ∧ P2 5 n = S 5 k ∧ (S 1 k = 0 → P2 6 n = rn r (S 6 k)) ∧ (S 1 k = 7 → P2 6 n = S 6 k) ∧ P2 7 n = S 7 k ∧ P2 10 n = rset r (S 10 k) ∧ P2 11 n = S 11 k ∧ ∀ i, 0 ≤ i → i < S 11 k → P2 12 (16 * n + i) = ren r (S 12 (16 * k + i))
section K
variable {l : Launch} {M : sl_M} {Q : sl_R} {P P2 S : Pg} {c o : Nat} {n : Int}
theorem Cd.row {N : sl_M} (h : Cd M c P) (h0 : N c 0 11 = M c 0 11) (hr : ∀ i k, 1 ≤ i → i ≤ 4 → N c i k = M c i k) : Cd N c P := by
  refine ⟨by rw [h0]; exact h.1, fun k k0 k1 => ?_⟩
  rw [hr 1 k (by omega) (by omega), hr 2 k (by omega) (by omega), hr 3 k (by omega) (by omega), hr 4 k (by omega) (by omega)]
  exact h.2 k k0 k1
theorem Cd.frame {N : sl_M} (h : Cd M c P) (hr : ∀ i k, N c i k = M c i k) : Cd N c P := h.row (hr _ _) (fun i k _ _ => hr i k)
theorem kX0_addLike (hc : sl_cls c = 0) (ho : sl_cls o = 0) (hne : o ≠ c) (hSw : WF S) (hSC : Cd M o S) (hSS : CdS M o S) {k r : Int} (hk : 0 ≤ k ∧ k < S 0 0) (hP : CdA M c (tr P2 n)) (hw2 : WF P2) (hn : 0 ≤ n ∧ n < P2 0 0) (hcp : cpy r S k P2 n) (hq : qs P2 (n + 1).toNat ≤ 160) {x3 x4 : Int} (a3 : x3 = P2 2 n) (a4 : x4 = P2 4 n) (hQ : ∀ N, CdA N c (tr P2 (n + 1)) → (∀ o' i j, o' ≠ c → N o' i j = M o' i j) → Q (some (vI n)) N) : sl_Runs l mX0_addLike [vR c 0, vR o 0, vI k, vI x3, vI x4, vI r] M Q := by
  have hPP := hP
  obtain ⟨p1, p2, p3, p4, p5, p6⟩ := hP
  rw [tr_0, qs_tr] at p4 p5
  rw [qs_step hn.1] at hq
  have hS0 := hSw.n0
  have hn0 := hw2.n0
  obtain ⟨s1, s2, s3, s4⟩ := hSC.2 k hk.1 hk.2
  obtain ⟨t1, t2, t3, t4, t5, t6, t7, t8, t9⟩ := hSS k hk.1 hk.2
  obtain ⟨c1, c5, c6, c67, c7, c10, c11, c12⟩ := hcp
  have q0 : 0 ≤ qs P2 n.toNat := qs_mono (P := P2) n.toNat 0 (by omega) (fun x x0 x1 => (p3 x x0 (by rw [tr_0]; omega)).2.1.1)
  have loop : ∀ (m : Nat) (i : Int) (N : sl_M), i = S 11 k - m → 0 ≤ i → (∀ o' a b, o' ≠ c → N o' a b = M o' a b) → Cd N c (tr P2 (n + 1)) → (∀ a b, (5 ≤ a ∧ a ≤ 10 ∧ 0 ≤ b ∧ b < n) ∨ (a = 11 ∧ b < qs P2 n.toNat) → N c a b = M c a b) → N c 0 12 = qs P2 n.toNat + i → N c 8 n = qs P2 n.toNat → N c 9 n = i → (∀ x, 0 ≤ x → x < i → N c 11 (qs P2 n.toNat + x) = P2 12 (16 * n + x)) → (P2 1 n = 0 → N c 6 n = P2 6 n) → (P2 1 n = 7 → N c 6 n = P2 6 n) → N c 5 n = P2 5 n → N c 7 n = P2 7 n → sl_At l mX0_addLike 88 [(0, vR c 0), (1, vR o 0), (2, vI k), (5, vI r), (6, vI n), (7, vI i)] [] N Q := by
    intro m
    induction m with
    | zero =>
      intro i N hi i0 hN hC hr h12 h8 h9 hs h6 h67 h5 h7
      refine vX0_addLike_88 hc ho fun _ _ _ _ _ => ?_
      rw [hN o 9 k hne, hN o 10 k hne, t1, t8]
      refine ⟨by omega, fun _ => kX9_renamedSet ⟨_, rfl, by omega, fun M6 e6 => ?_⟩, fun z => by omega⟩
      have f6 : ∀ a b, ¬ (a = 10 ∧ b = n) → M6 c a b = N c a b := fun a b z => by rw [e6]; simp only [sl_wr]; rw [if_neg (by omega)]
      refine hQ M6 (CdA.next (M := M) hPP hw2 hn (hC.row (f6 _ _ (by omega)) (fun a b _ _ => f6 a b (by omega))) (fun a b z => by rw [f6 a b (by omega)]; exact hr a b z) (by omega) (by rw [f6 _ _ (by omega)]; omega) (by omega) (by rw [f6 _ _ (by omega)]; exact h8) (by rw [f6 _ _ (by omega)]; omega) (fun x x0 x1 => by rw [f6 _ _ (by omega)]; exact hs x x0 (by omega)) (fun z => ?_) (fun z => by rw [f6 _ _ (by omega)]; exact h67 z) (by rw [f6 _ _ (by omega)]; exact h5) (by rw [e6, sl_wr_s, c10]) (by rw [f6 _ _ (by omega)]; exact h7)) (fun o' a b z => by rw [e6]; simp only [sl_wr]; rw [if_neg (by omega)]; exact hN o' a b z)
      rw [f6 _ _ (by omega)]
      have := rn_rng r (S 6 k)
      have := c6 (by omega)
      exact ⟨h6 z, by omega, by omega⟩
    | succ m ih =>
      intro i N hi i0 hN hC hr h12 h8 h9 hs h6 h67 h5 h7
      refine vX0_addLike_88 hc ho fun _ _ _ _ _ => ?_
      have e11 : N o 11 (N o 8 k + i) = S 12 (16 * k + i) := by rw [hN o 8 k hne, hN o 11 _ hne]; exact t4 i i0 (by omega)
      rw [hN o 9 k hne, t1, e11]
      refine ⟨by omega, fun z => by omega, fun _ => ⟨by rw [hN o 8 k hne]; omega, fun y ey => ?_⟩⟩
      have hcn : N c 0 11 = n + 1 := hC.1
      have nx : ∀ N' x, x = ren r (S 12 (16 * k + i)) → (∀ o' a b, ¬ (o' = c ∧ ((a = 0 ∧ b = 12) ∨ (a = 11 ∧ b = qs P2 n.toNat + i) ∨ (a = 9 ∧ b = n + 1 - 1))) → N' o' a b = N o' a b) → N' c 0 12 = qs P2 n.toNat + i + 1 → N' c 11 (qs P2 n.toNat + i) = x → N' c 9 (n + 1 - 1) = i + 1 → sl_At l mX0_addLike 88 [(0, vR c 0), (1, vR o 0), (2, vI k), (5, vI r), (6, vI n), (7, vI (i + 1))] [] N' Q := by
        intro N' x hx g1 g2 g3 g4
        rw [show n + 1 - 1 = n by omega] at g4
        refine ih (i + 1) N' (by omega) (by omega) (fun o' a b z => by rw [g1 o' a b (fun w => z w.1)]; exact hN o' a b z) (hC.row (g1 _ _ _ (by omega)) (fun a b _ _ => g1 c a b (by omega))) (fun a b z => by rw [g1 c a b (by omega)]; exact hr a b z) (by rw [g2]; omega) (by rw [g1 c 8 n (by omega)]; exact h8) g4 (fun x x0 x1 => ?_) (fun z => by rw [g1 c 6 n (by omega)]; exact h6 z) (fun z => by rw [g1 c 6 n (by omega)]; exact h67 z) (by rw [g1 c 5 n (by omega)]; exact h5) (by rw [g1 c 7 n (by omega)]; exact h7)
        by_cases ex : x = i
        · rw [ex, g3, hx, c12 i i0 (by omega)]
        · rw [g1 c 11 _ (by omega)]; exact hs x x0 (by omega)
      refine ⟨fun z => ⟨by have := rn_rng r y; unfold rn at this; omega, ?_⟩, fun z => ?_⟩
      · refine kX0_put hc hcn (by omega) h12 (by omega) (by rw [show n + 1 - 1 = n by omega]; exact h9) (by omega) (fun N' g1 g2 g3 g4 => ⟨rfl, by omega, nx N' _ ?_ g1 g2 g3 g4⟩)
        unfold ren; rw [← ey, if_pos z]; rfl
      · refine kX0_put hc hcn (by omega) h12 (by omega) (by rw [show n + 1 - 1 = n by omega]; exact h9) (by omega) (fun N' g1 g2 g3 g4 => ⟨rfl, by omega, nx N' _ ?_ g1 g2 g3 g4⟩)
        unfold ren; rw [← ey, if_neg z]
  refine eX0_addLike (vX0_addLike_0 hc ho fun _ _ _ _ _ => ⟨by omega, ?_⟩)
  rw [s1]
  have hw3 : WF (tr P2 (n + 1)) := tr_wf hw2 (by omega)
  refine kX0_add (P2 := tr P2 (n + 1)) hc hw3 p2 (n := n) rfl hn.1 rfl (fun x x0 x1 => ⟨rfl, rfl, rfl, ?_⟩) c1.symm a3 a4 (fun N hC hN hr n5 n6 n7 n8 n9 n10 => ⟨_, rfl, fun _ => ⟨by omega, fun M6 e6 => ?_⟩, fun z => by omega⟩)
  · rw [tr_3, tr_3]
    split <;> omega
  · have k1 : M6 o 1 k = S 1 k := by rw [e6]; simp only [sl_wr]; rw [if_neg (by omega), hN o 1 k hne]; exact s1
    have k6 : M6 o 6 k = M o 6 k := by rw [e6]; simp only [sl_wr]; rw [if_neg (by omega), hN o 6 k hne]
    have v5 : N o 5 k = P2 5 n := by rw [hN o 5 k hne, t7, c5]
    rw [v5] at e6
    rw [k1, k6]
    have body : ∀ M8 v, M8 = sl_wr M6 c 6 n v → (P2 1 n = 0 → v = P2 6 n) → (P2 1 n = 7 → v = P2 6 n) → ∀ M9, M9 = sl_wr M8 c 7 n (M8 o 7 k) → sl_At l mX0_addLike 88 [(0, vR c 0), (1, vR o 0), (2, vI k), (5, vI r), (6, vI n), (7, vI 0)] [] M9 Q := by
      intro M8 v e8 hv0 hv7 M9 e9
      have k7 : M8 o 7 k = P2 7 n := by rw [e8, e6]; simp only [sl_wr]; rw [if_neg (by omega), if_neg (by omega), hN o 7 k hne, t9, c7]
      rw [k7] at e9
      have f9 : ∀ o' a b, ¬ (o' = c ∧ 5 ≤ a ∧ a ≤ 7 ∧ b = n) → M9 o' a b = N o' a b := fun o' a b z => by
        rw [e9, e8, e6]; simp only [sl_wr]; rw [if_neg (by omega), if_neg (by omega), if_neg (by omega)]
      refine loop (S 11 k).toNat 0 M9 (by omega) (by omega) (fun o' a b z => by rw [f9 o' a b (fun w => z w.1)]; exact hN o' a b z) (hC.row (f9 _ _ _ (by omega)) (fun a b _ _ => f9 c a b (by omega))) (fun a b z => by rw [f9 c a b (by omega)]; exact hr a b (by omega)) (by rw [f9 c 0 12 (by omega), hr 0 12 (by omega), p4]; omega) (by rw [f9 c 8 n (by omega), n8, p4]) (by rw [f9 c 9 n (by omega), n9]) (fun x x0 x1 => by omega) (fun z => ?_) (fun z => ?_) ?_ ?_
      · rw [e9, e8]; simp [sl_wr]; exact hv0 z
      · rw [e9, e8]; simp [sl_wr]; exact hv7 z
      · rw [e9, e8, e6]; simp [sl_wr]
      · rw [e9]; exact sl_wr_s
    refine ⟨fun z M8 e8 M9 e9 => body M8 _ e8 (fun w => by omega) (fun w => by rw [t6 (by omega), c67 (by omega)]) M9 e9, fun z M8 e8 M9 e9 => body M8 _ e8 (fun w => ?_) (fun w => by omega) M9 e9⟩
    have z0 : S 1 k = 0 := by omega
    rw [c6 z0, (t5 z0).1]; rfl
theorem kX0_addRange (hc : sl_cls c = 0) (ho : sl_cls o = 0) (hne : o ≠ c) (hSw : WF S) (hSC : Cd M o S) (hSS : CdS M o S) {f t r a u sd : Int} (hf : 0 ≤ f ∧ f ≤ t + 1 ∧ t < S 0 0) (hP : CdA M c (tr P2 a)) (hw2 : WF P2) (ha : 0 ≤ a ∧ a + (t + 1 - f) ≤ P2 0 0) (hcp : ∀ x, f ≤ x → x ≤ t → cpy r S x P2 (a + (x - f)) ∧ P2 2 (a + (x - f)) = (if S 2 x < f then u else a + S 2 x - f) ∧ P2 4 (a + (x - f)) = (if S 2 x < f then sd else S 4 x)) (hq : ∀ m, 0 ≤ m → m ≤ a + (t + 1 - f) → qs P2 m.toNat ≤ 160) (hQ : ∀ N, CdA N c (tr P2 (a + (t + 1 - f))) → (∀ o' i j, o' ≠ c → N o' i j = M o' i j) → Q none N) : sl_Runs l mX0_addRange [vR c 0, vR o 0, vI f, vI t, vI u, vI sd, vI r] M Q := by
  have hS0 := hSw.n0
  have hn0 := hw2.n0
  have loop : ∀ (m : Nat) (x : Int) (N : sl_M), x = t + 1 - m → f ≤ x → (∀ o' i j, o' ≠ c → N o' i j = M o' i j) → CdA N c (tr P2 (a + (x - f))) → sl_At l mX0_addRange 9 [(0, vR c 0), (1, vR o 0), (2, vI f), (3, vI t), (4, vI u), (5, vI sd), (6, vI r), (7, vI a), (8, vI x)] [] N Q := by
    intro m
    induction m with
    | zero =>
      intro x N hx h0 hN hC
      have ex : x = t + 1 := by omega
      subst ex
      exact vX0_addRange_9 hc ho fun _ _ _ _ _ _ _ _ => ⟨fun _ => hQ N hC hN, fun z => by omega⟩
    | succ m ih =>
      intro x N hx h0 hN hC
      obtain ⟨g1, g2, g3⟩ := hcp x h0 (by omega)
      obtain ⟨s1, s2, s3, s4⟩ := hSC.2 x (by omega) (by omega)
      have w1 := hSw.pr (k := x) (by omega) (by omega)
      have fo : ∀ i j, N o i j = M o i j := fun i j => hN o i j hne
      refine vX0_addRange_9 hc ho fun _ _ _ _ _ _ _ _ => ⟨fun z => by omega, fun _ => ⟨by omega, ?_⟩⟩
      rw [fo 2 x, fo 4 x, s2, s4]
      refine ⟨fun z => ⟨by omega, ?_⟩, fun z => ?_⟩
      · rw [if_neg (by omega)] at g2 g3
        refine kX0_addLike (P2 := P2) (n := a + (x - f)) hc ho hne hSw (hSC.frame fo) (hSS.frame fo) (by omega) hC hw2 (by omega) g1 (hq _ (by omega) (by omega)) g2.symm g3.symm (fun N' hC' hN' => ⟨_, rfl, by omega, ?_⟩)
        exact ih (x + 1) N' (by omega) (by omega) (fun o' i j z => by rw [hN' o' i j z]; exact hN o' i j z) (by rw [show a + (x + 1 - f) = a + (x - f) + 1 by omega]; exact hC')
      · rw [if_pos (by omega)] at g2 g3
        refine kX0_addLike (P2 := P2) (n := a + (x - f)) hc ho hne hSw (hSC.frame fo) (hSS.frame fo) (by omega) hC hw2 (by omega) g1 (hq _ (by omega) (by omega)) g2.symm g3.symm (fun N' hC' hN' => ⟨_, rfl, by omega, ?_⟩)
        exact ih (x + 1) N' (by omega) (by omega) (fun o' i j z => by rw [hN' o' i j z]; exact hN o' i j z) (by rw [show a + (x + 1 - f) = a + (x - f) + 1 by omega]; exact hC')
  refine eX0_addRange (vX0_addRange_0 hc ho fun _ _ _ _ _ _ => ?_)
  have ec : M c 0 11 = a := hP.2.1.1
  rw [ec]
  exact loop (t + 1 - f).toNat f M (by omega) (by omega) (fun _ _ _ _ => rfl) (by rw [show a + (f - f) = a by omega]; exact hP)
/-- the renaming to the same names -/
theorem same_dec : ∀ v : Nat, v < 8 → rn 16434824 (v : Int) = v := by decide +kernel
theorem rn_same {v : Int} (h : 0 ≤ v ∧ v < 8) : rn 16434824 v = v := by
  have := same_dec v.toNat (by omega)
  rwa [show ((v.toNat : Nat) : Int) = v by omega] at this
theorem ren_same (x : Int) : ren 16434824 x = x := by
  unfold ren sp_var
  by_cases h : 97 ≤ x ∧ x < 105
  · rw [if_pos h, if_pos (by omega), rn_same (by omega)]; omega
  · rw [if_neg h, if_neg (by omega)]
theorem rset_same {m : Int} (h : m8 m) : rset 16434824 m = m := by
  refine m8_ext (m8_rset _ _) h (fun v hv => bt_iffT ?_)
  rw [rset_bt]
  constructor
  · rintro ⟨x, x0, x1, hb, e⟩
    rw [rn_same ⟨x0, x1⟩] at e
    rw [e] at hb
    exact hb
  · intro hb
    exact ⟨v, by omega, by omega, hb, rn_same (by omega)⟩
/-- the whole program stands there -/
theorem CdA.full (hw : WF P) (h : CdA M c (tr P (P 0 0))) : CdA M c P := by
  obtain ⟨a, b, d, e, f, g⟩ := h
  rw [qs_tr, tr_0] at e f
  refine ⟨hw, ⟨b.1, fun k k0 k1 => ?_⟩, d, e, f, fun k k0 k1 => by rw [g k k0 k1, qs_tr]⟩
  obtain ⟨b1, b2, b3, b4⟩ := b.2 k k0 k1
  have := hw.af k0 k1
  rw [tr_3] at b3
  exact ⟨b1, b2, by omega, b4⟩
theorem CdA.qle (h : CdA M c P) : ∀ m, 0 ≤ m → m ≤ P 0 0 → qs P m.toNat ≤ 160 := fun m m0 m1 => Int.le_trans (qs_mono (P 0 0).toNat m.toNat (by omega) (fun k k0 k1 => (h.2.2.1 k k0 (by have := h.1.n0; omega)).2.1.1)) h.2.2.2.2.1
theorem cpy_same (hSS : CdS M o S) {k : Int} (hk : 0 ≤ k ∧ k < S 0 0) (hm : m8 (S 10 k)) (h1 : P2 1 n = S 1 k) (h5 : P2 5 n = S 5 k) (h6 : P2 6 n = S 6 k) (h7 : P2 7 n = S 7 k) (h10 : P2 10 n = S 10 k) (h11 : P2 11 n = S 11 k) (h12 : ∀ i, 0 ≤ i → i < S 11 k → P2 12 (16 * n + i) = S 12 (16 * k + i)) : cpy 16434824 S k P2 n := by
  obtain ⟨t1, t2, t3, t4, t5, t6, t7, t8, t9⟩ := hSS k hk.1 hk.2
  refine ⟨h1, h5, fun z => by rw [rn_same (t5 z).2]; exact h6, fun _ => h6, h7, by rw [rset_same hm]; exact h10, h11, fun i i0 i1 => by rw [ren_same]; exact h12 i i0 i1⟩
theorem kX0_copyFrom (hc : sl_cls c = 0) (ho : sl_cls o = 0) (hne : o ≠ c) (hS : CdA M o S) (hm : ∀ k, 0 ≤ k → k < S 0 0 → m8 (S 10 k)) (hQ : ∀ N, CdA N c S → (∀ o' i j, o' ≠ c → N o' i j = M o' i j) → Q none N) : sl_Runs l mX0_copyFrom [vR c 0, vR o 0] M Q := by
  have hn0 := hS.1.n0
  refine eX0_copyFrom (vX0_copyFrom_0 hc ho fun _ => (kX0_empty hc fun N hN n11 n12 hE => ⟨rfl, ?_⟩))
  have fo : ∀ i j, N o i j = M o i j := fun i j => hN o i j hne
  show sl_rg (N o 0 11 - 1) ∧ sl_RV l mX0_addRange [vR c 0, vR o 0, vI 0, vI (N o 0 11 - 1), vI (-1), vI 0, vI 16434824] N (fun M3 => Q none M3)
  rw [fo 0 11, hS.2.1.1]
  refine ⟨by omega, kX0_addRange (P2 := S) (a := 0) hc ho hne hS.1 (hS.2.1.frame fo) (hS.2.2.1.frame fo) (by omega) (hE _ rfl) hS.1 (by omega) (fun x x0 x1 => ?_) (fun m m0 m1 => hS.qle m m0 (by omega)) (fun N' hC' hN' => ⟨rfl, hQ N' (CdA.full hS.1 (by rw [show S 0 0 = 0 + (S 0 0 - 1 + 1 - 0) by omega]; exact hC')) (fun o' i j z => by rw [hN' o' i j z]; exact hN o' i j z)⟩)⟩
  rw [show 0 + (x - 0) = x by omega]
  have w1 := hS.1.pr (k := x) x0 (by omega)
  refine ⟨cpy_same (hS.2.2.1) ⟨x0, by omega⟩ (hm x x0 (by omega)) rfl rfl rfl rfl rfl rfl (fun _ _ _ => rfl), ?_, ?_⟩
  · split <;> omega
  · split
    · exact hS.1.rt x0 (by omega) (by omega)
    · rfl
end K
