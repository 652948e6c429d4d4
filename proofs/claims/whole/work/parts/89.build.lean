/-! The class: parts of a new state -/
theorem wt_step {T : Pg} {n : Int} (h : 0 ≤ n) : wt T (n + 1).toNat = wt T n.toNat + (T 11 n + 1 + (if T 1 n = 0 then 2 else 0)) := by
  rw [show (n + 1).toNat = n.toNat + 1 by omega, wt, show ((n.toNat : Nat) : Int) = n by omega]
theorem wt_mono {T : Pg} : ∀ (b a : Nat), a ≤ b → (∀ k : Int, 0 ≤ k → k < b → 0 ≤ T 11 k) → wt T a ≤ wt T b := by
  intro b
  induction b with
  | zero => intro a h _; rw [show a = 0 by omega]; omega
  | succ b ih =>
    intro a h hp
    by_cases e : a = b + 1
    · rw [e]; omega
    · have := ih a (by omega) (fun k k0 k1 => hp k k0 (by omega))
      have := hp b (by omega) (by omega)
      rw [wt]; split <;> omega
section G
variable {R rho : Int → Int} {M : sl_M} {l : Launch} {Q : sl_R} {P P2 S B : Pg}
theorem Good.qs (h : Good R rho) : ∀ k : Nat, (k : Int) ≤ ly R rho 0 0 → qs (ly R rho) k ≤ wt (tp (cutR R)) (tk R k).toNat := by
  have hs := h.spn
  have hL : Lay (tp (cutR R)) (clR R) (eR R) (ly R rho) := ly_lay
  intro k
  induction k with
  | zero => intro _; exact Int.le_refl _
  | succ k ih =>
    intro hk
    have i := ih (by omega)
    rw [_root_.Jvm.Pilot.CSpanLiftsLaw_law_r2377_1a1577.qs]
    have a := hL.at h.1.1 hs (k := (k : Int)) (by omega) (by omega)
    have b := a.2.2.2.2 (by omega)
    have c7 := h.cl7 (k := (k : Int)) (by omega) (by omega)
    have nx : tk R ((k + 1 : Nat) : Int) = nxt (clR R) (eR R) (tk R k) := b.2
    rw [nx]
    have E11 : ly R rho 11 k = if clR R (tk R k) ≠ -1 then irem (R (910 + clR R (tk R k))) 16 + 1 + irem (R (950 + clR R (tk R k))) 16 else cutR R (241 + tk R k) := rfl
    rw [E11]
    unfold nxt
    by_cases cc : clR R (tk R k) ≠ -1
    · rw [if_pos cc, if_pos cc]
      obtain ⟨c0, c1, c2⟩ := clR_spec cc
      obtain ⟨g1, g2, g3, g4, g5, g6, g7, g8, g9, g10, g11⟩ := h.2.2.2.2.1 _ c0 c1
      have mg := h.2.2.1 _ g2.1 g2.2
      have l1 : (rnl (rho (clR R (tk R k))) (LIn R (cm R (clR R (tk R k))))).length = (LIn R (cm R (clR R (tk R k)))).length := List.length_map ..
      have l2 : (rnl (rho (clR R (tk R k))) (LOt R (cm R (clR R (tk R k))))).length = (LOt R (cm R (clR R (tk R k)))).length := List.length_map ..
      have n1 := mg.2.2.1.2
      have n2 := mg.2.2.2.1.2
      have s1 := (lpk_spec (L := rnl (rho (clR R (tk R k))) (LIn R (cm R (clR R (tk R k))))) (by omega) rnl_8).1
      have s2 := (lpk_spec (L := rnl (rho (clR R (tk R k))) (LOt R (cm R (clR R (tk R k))))) (by omega) rnl_8).1
      rw [← g6] at s1
      rw [← g7] at s2
      have ea : ca R (clR R (tk R k)) = tk R k := c2
      rw [ea] at g9
      have ee : tp (cutR R) 3 (cz R (clR R (tk R k))) = eR R (tk R k) := rfl
      rw [ee] at g9
      omega
    · rw [if_neg cc, if_neg cc]
      have t0 : 0 ≤ tk R k := a.1
      rw [wt_step t0]
      have : tp (cutR R) 11 (tk R k) = cutR R (241 + tk R k) := rfl
      split <;> omega
theorem Good.qs160 (h : Good R rho) {m : Int} (m0 : 0 ≤ m) (m1 : m ≤ ly R rho 0 0) : _root_.Jvm.Pilot.CSpanLiftsLaw_law_r2377_1a1577.qs (ly R rho) m.toNat ≤ 160 := by
  have hs := h.spn
  have hL : Lay (tp (cutR R)) (clR R) (eR R) (ly R rho) := ly_lay
  have a := h.qs m.toNat (by omega)
  rw [show ((m.toNat : Nat) : Int) = m by omega] at a
  have b := hL.at h.1.1 hs m0 m1
  have b1 : tk R m ≤ cutR R 0 := b.2.1
  have c := wt_mono (T := tp (cutR R)) (cutR R 0).toNat (tk R m).toNat (by omega) (fun k k0 k1 => (h.1.2.2.2 k k0 (by omega)).2.2.1.1)
  have := h.1.2.2.1
  omega
/-- statements by themselves -/
theorem sft_wf (hw : WF P) {i j : Int} (hs : isp P i j) : WF (sft P i (P 3 j - i)) := by
  have rg := hw.rgS hs
  obtain ⟨s1, s2, s3, s4, s5⟩ := hs
  have aj := hw.af (k := j) (by omega) s3
  have n0 := hw.n0
  refine ⟨by show 0 ≤ P 3 j - i; omega, by show P 3 j - i ≤ 40; omega, fun k k0 k1 => ?_⟩
  have k1 : k < P 3 j - i := k1
  obtain ⟨a, b, c, d, e, f, g, q⟩ := hw.2.2 (i + k) (by omega) (by omega)
  have r := rg.2.2.2 (i + k) (by omega) (by omega)
  show (-1 ≤ (if P 2 (i + k) < i then -1 else P 2 (i + k) - i) ∧ (if P 2 (i + k) < i then -1 else P 2 (i + k) - i) < k) ∧ (k < P 3 (i + k) - i ∧ P 3 (i + k) - i ≤ P 3 j - i) ∧ (0 ≤ (if P 2 (i + k) < i then -1 else P 2 (i + k) - i) → P 3 (i + k) - i ≤ P 3 (i + (if P 2 (i + k) < i then -1 else P 2 (i + k) - i)) - i ∧ (P 1 (i + (if P 2 (i + k) < i then -1 else P 2 (i + k) - i)) = 5 ∨ P 1 (i + (if P 2 (i + k) < i then -1 else P 2 (i + k) - i)) = 6)) ∧ (∀ x, 0 ≤ x → (if P 2 (i + k) < i then -1 else P 2 (i + k) - i) < x → x < k → P 3 (i + x) - i ≤ k) ∧ (0 ≤ P 1 (i + k) ∧ P 1 (i + k) ≤ 7) ∧ ((if P 2 (i + k) < i then 0 else P 4 (i + k)) = 0 ∨ (if P 2 (i + k) < i then 0 else P 4 (i + k)) = 1) ∧ ((if P 2 (i + k) < i then -1 else P 2 (i + k) - i) < 0 → (if P 2 (i + k) < i then 0 else P 4 (i + k)) = 0) ∧ (0 ≤ (if P 2 (i + k) < i then -1 else P 2 (i + k) - i) → P 1 (i + (if P 2 (i + k) < i then -1 else P 2 (i + k) - i)) = 6 → (if P 2 (i + k) < i then 0 else P 4 (i + k)) = 0)
  by_cases t : P 2 (i + k) < i
  · rw [if_pos t, if_pos t]
    refine ⟨by omega, by omega, fun z => by omega, fun x x0 x1 x2 => ?_, e, Or.inl rfl, fun _ => rfl, fun z => by omega⟩
    have := d (i + x) (by omega) (by omega) (by omega)
    omega
  · rw [if_neg t, if_neg t, show i + (P 2 (i + k) - i) = P 2 (i + k) by omega]
    refine ⟨by omega, by omega, fun z => ⟨by have := (c (by omega)).1; omega, (c (by omega)).2⟩, fun x x0 x1 x2 => ?_, e, f, fun z => by omega, fun z z2 => q (by omega) z2⟩
    have := d (i + x) (by omega) (by omega) (by omega)
    omega
theorem sft_qs {i n : Int} (hi : 0 ≤ i) : ∀ m : Nat, qs (sft P i n) m = qs P (i.toNat + m) - qs P i.toNat := by
  intro m
  induction m with
  | zero => show (0 : Int) = _; rw [Nat.add_zero]; omega
  | succ m ih =>
    rw [qs, ih, show i.toNat + (m + 1) = (i.toNat + m) + 1 by omega, qs]
    have : sft P i n 11 m = P 11 ((i.toNat + m : Nat) : Int) := by
      show P 11 (i + m) = _
      rw [show ((i.toNat + m : Nat) : Int) = i + m by omega]
    rw [this]; omega
theorem kX5_copyFrom {o0 o1 : Nat} (h0 : sl_cls o0 = 5) (h1 : sl_cls o1 = 5) (b0 : sl_cls (o0 + 30) = 0) (b1 : sl_cls (o1 + 30) = 0) (hne : o0 ≠ o1) (hB : CdA M (o1 + 30) B) (hm : ∀ k, 0 ≤ k → k < B 0 0 → m8 (B 10 k)) (hQ : ∀ N, CdA N (o0 + 30) B → N o0 0 1 = M o1 0 1 → N o0 0 2 = M o1 0 2 → N o0 0 3 = M o1 0 3 → (∀ e, e4 e → N o0 5 e = M o1 5 e) → (∀ o i j, o ≠ o0 → o ≠ o0 + 30 → N o i j = M o i j) → Q none N) : sl_Runs l mX5_copyFrom [vR o0 0, vR o1 0] M Q := by
  have d1 : o0 ≠ o1 + 30 ∧ o1 ≠ o0 + 30 := by
    refine ⟨fun e => ?_, fun e => ?_⟩
    · rw [← e] at b1; rw [b1] at h0; omega
    · rw [← e] at b0; rw [b0] at h1; omega
  refine eX5_copyFrom (vX5_copyFrom_0 h0 h1 fun _ => kX0_copyFrom b0 b1 (by omega) hB hm (fun N hC hN => ⟨rfl, fun M2 e2 M3 e3 M4 e4 M5 e5 => ?_⟩))
  have fo : ∀ i j, N o1 i j = M o1 i j := fun i j => hN o1 i j d1.2
  have f4 : ∀ o i j, ¬ (o = o0 ∧ i = 0 ∧ 1 ≤ j ∧ j ≤ 3) → M4 o i j = N o i j := fun o i j z => by
    rw [e4, e3, e2]; simp only [sl_wr]; rw [if_neg (by omega), if_neg (by omega), if_neg (by omega)]
  have f5 : ∀ o i j, ¬ (o = o0 ∧ ((i = 0 ∧ 1 ≤ j ∧ j ≤ 3) ∨ i = 5)) → M5 o i j = N o i j := fun o i j z => by
    rw [e5]; unfold sl_cpy; rw [if_neg (by omega), f4 o i j (by omega)]
  have v2 : M2 o1 0 2 = M o1 0 2 := by rw [e2]; simp only [sl_wr]; rw [if_neg (by omega)]; exact fo _ _
  have v3 : M3 o1 0 3 = M o1 0 3 := by rw [e3, e2]; simp only [sl_wr]; rw [if_neg (by omega), if_neg (by omega)]; exact fo _ _
  have c5 : ∀ j, ∀ i, i = 0 → M5 o0 i j = M4 o0 i j := fun j i hi => by rw [e5]; unfold sl_cpy; rw [if_neg (by omega)]
  refine hQ M5 (hC.frame (fun i j => f5 _ _ _ (by omega))) ?_ ?_ ?_ (fun e he => ?_) (fun o i j z1 z2 => by rw [f5 o i j (fun w => z1 w.1)]; exact hN o i j z2)
  · rw [c5 1 0 rfl, e4, e3, e2]; simp [sl_wr]; exact fo _ _
  · rw [c5 2 0 rfl, e4, e3, v2]; simp [sl_wr]
  · rw [c5 3 0 rfl, e4, v3, sl_wr_s]
  · rw [e5]; unfold sl_cpy
    rw [if_pos ⟨rfl, rfl, by omega, by omega⟩, f4 o1 5 e (by omega)]; exact fo _ _
theorem kX5_takeFrom {o0 o1 o2 : Nat} (h0 : sl_cls o0 = 5) (h1 : sl_cls o1 = 0) (h2 : sl_cls o2 = 6) (b0 : sl_cls (o0 + 30) = 0) (hne : o1 ≠ o0 + 30) (hP : CdA M o1 P) {i j : Int} (hs : isp P i j) (hp : SpM M o2 P i j) (hm : ∀ k, 0 ≤ k → k < P 0 0 → m8 (P 10 k)) (hQ : ∀ N, CdA N (o0 + 30) (sft P i (P 3 j - i)) → N o0 0 1 = sX P i (P 3 j - 1) → N o0 0 2 = sI P i j → N o0 0 3 = sO P i j → (∀ e, e4 e → N o0 5 e = iand (ior (sA P i (P 3 j - 1) e) (sI P i j)) (sO P i j)) → (∀ o i j, o ≠ o0 → o ≠ o0 + 30 → N o i j = M o i j) → Q none N) : sl_Runs l mX5_takeFrom [vR o0 0, vR o1 0, vR o2 0] M Q := by
  have hw := hP.1
  have n0 := hw.n0
  have wf := sft_wf hw hs
  have hs' := hs
  obtain ⟨s1, s2, s3, s4, s5⟩ := hs
  have aj := hw.af (k := j) (by omega) s3
  obtain ⟨p0, p1, p2, p3, p4, p5, p6, p7⟩ := hp
  have d2 : o2 ≠ o0 + 30 ∧ o2 ≠ o0 := by
    refine ⟨fun e => ?_, fun e => ?_⟩
    · rw [← e, h2] at b0; omega
    · rw [← e, h2] at h0; omega
  have d0 : o0 ≠ o1 := fun e => by rw [e, h1] at h0; omega
  refine eX5_takeFrom (vX5_takeFrom_0 h0 h1 h2 fun _ => kX0_empty b0 fun N hN n11 n12 hE => ⟨rfl, ?_⟩)
  show sl_RV l mX0_addRange [vR (o0 + 30) 0, vR o1 0, vI (N o2 0 0), vI (N o2 0 2), vI (-1), vI 0, vI 16434824] N _
  rw [hN o2 0 0 d2.1, hN o2 0 2 d2.1, p0, p2]
  have fo : ∀ a b, N o1 a b = M o1 a b := fun a b => hN o1 a b hne
  have ql : ∀ m, 0 ≤ m → m ≤ P 3 j - i → qs (sft P i (P 3 j - i)) m.toNat ≤ 160 := by
    intro m m0 m1
    rw [sft_qs s1]
    have a := hP.qle (i + m) (by omega) (by omega)
    rw [show (i + m).toNat = i.toNat + m.toNat by omega] at a
    have b := qs_mono (P := P) i.toNat 0 (by omega) (fun k k0 k1 => (hP.2.2.1 k k0 (by omega)).2.1.1)
    have : qs P 0 = 0 := rfl
    omega
  refine kX0_addRange (P2 := sft P i (P 3 j - i)) (a := 0) b0 h1 hne hw (hP.2.1.frame fo) (hP.2.2.1.frame fo) ⟨s1, by omega, by omega⟩ (hE _ rfl) wf ⟨by omega, by show 0 + (P 3 j - 1 + 1 - i) ≤ P 3 j - i; omega⟩ (fun x x0 x1 => ?_) (fun m m0 m1 => ql m m0 (by omega)) (fun N' hC' hN' => ⟨rfl, fun M3 u3 M4 u4 M5 u5 => ?_⟩)
  · have ex : i + (0 + (x - i)) = x := by omega
    refine ⟨cpy_same hP.2.2.1 ⟨by omega, by omega⟩ (hm x (by omega) (by omega)) ?_ ?_ ?_ ?_ ?_ ?_ (fun z z0 z1 => ?_), ?_, ?_⟩
    · show P 1 (i + (0 + (x - i))) = _; rw [ex]
    · show P 5 (i + (0 + (x - i))) = _; rw [ex]
    · show P 6 (i + (0 + (x - i))) = _; rw [ex]
    · show P 7 (i + (0 + (x - i))) = _; rw [ex]
    · show P 10 (i + (0 + (x - i))) = _; rw [ex]
    · show P 11 (i + (0 + (x - i))) = _; rw [ex]
    · rw [sft_12, ex]
    · show (if P 2 (i + (0 + (x - i))) < i then -1 else P 2 (i + (0 + (x - i))) - i) = _
      rw [ex]; split <;> omega
    · show (if P 2 (i + (0 + (x - i))) < i then 0 else P 4 (i + (0 + (x - i)))) = _
      rw [ex]
  · have f2 : ∀ a b, N' o2 a b = M o2 a b := fun a b => by rw [hN' o2 a b d2.1, hN o2 a b d2.1]
    have v3 : M3 o2 0 4 = M o2 0 4 := by rw [u3]; simp only [sl_wr]; rw [if_neg (by omega)]; exact f2 _ _
    have v4 : M4 o2 0 5 = M o2 0 5 := by rw [u4, u3]; simp only [sl_wr]; rw [if_neg (by omega), if_neg (by omega)]; exact f2 _ _
    rw [f2 0 3, p3] at u3
    rw [v3, p4] at u4
    rw [v4, p5] at u5
    have f5 : ∀ o a b, ¬ (o = o0 ∧ a = 0) → M5 o a b = N' o a b := fun o a b z => by
      rw [u5, u4, u3]; simp only [sl_wr]; rw [if_neg (by omega), if_neg (by omega), if_neg (by omega)]
    have w1 : M5 o0 0 1 = sX P i (P 3 j - 1) := by rw [u5, u4, u3]; simp [sl_wr]
    have w2 : M5 o0 0 2 = sI P i j := by rw [u5, u4]; simp [sl_wr]
    have w3 : M5 o0 0 3 = sO P i j := by rw [u5, sl_wr_s]
    have loop : ∀ (n : Nat) (x : Int) (O : sl_M), (x = 1 ∧ n = 4) ∨ (x = 2 ∧ n = 3) ∨ (x = 4 ∧ n = 2) ∨ (x = 8 ∧ n = 1) ∨ (x = 16 ∧ n = 0) → (∀ o a b, ¬ (o = o0 ∧ a = 5) → O o a b = M5 o a b) → (∀ e, e4 e → e < x → O o0 5 e = iand (ior (sA P i (P 3 j - 1) e) (sI P i j)) (sO P i j)) → sl_At l mX5_takeFrom 53 [(0, vR o0 0), (2, vR o2 0), (3, vI x)] [] O Q := by
      intro n
      induction n with
      | zero =>
        intro x O hx hO he
        refine vX5_takeFrom_53 h0 h2 fun _ _ => ⟨fun _ => ?_, fun z => by omega⟩
        refine hQ O (CdA.full wf ?_) (by rw [hO _ _ _ (by omega)]; exact w1) (by rw [hO _ _ _ (by omega)]; exact w2) (by rw [hO _ _ _ (by omega)]; exact w3) (fun e h => he e h (by omega)) (fun o a b z1 z2 => by rw [hO o a b (fun w => z1 w.1), f5 o a b (fun w => z1 w.1), hN' o a b z2]; exact hN o a b z2)
        have : (0 : Int) + (P 3 j - 1 + 1 - i) = sft P i (P 3 j - i) 0 0 := by show 0 + (P 3 j - 1 + 1 - i) = P 3 j - i; omega
        rw [this] at hC'
        exact hC'.frame (fun a b => by rw [hO _ _ _ (by omega), f5 _ _ _ (by omega)])
      | succ n ih =>
        intro x O hx hO he
        refine vX5_takeFrom_53 h0 h2 fun _ _ => ⟨fun z => by omega, fun _ => ⟨by omega, fun M3 e3 => ⟨by omega, fun y ey => ?_⟩⟩⟩
        have hx4 : e4 x := by omega
        rw [hO o2 9 x (by omega), f5 o2 9 x (by omega), f2 9 x, (p7 x hx4).2, hO o0 0 2 (by omega), hO o0 0 3 (by omega), w2, w3] at e3
        refine ih y M3 (by omega) (fun o a b z => by rw [e3]; simp only [sl_wr]; rw [if_neg (by omega)]; exact hO o a b z) (fun e h he' => ?_)
        by_cases ee : e = x
        · rw [ee, e3, sl_wr_s]
        · rw [e3]; simp only [sl_wr]; rw [if_neg (by omega)]; exact he e h (by omega)
    exact loop 4 1 M5 (Or.inl ⟨rfl, rfl⟩) (fun _ _ _ _ => rfl) (fun e h he => by omega)
theorem kX7_placeOf {s : Nat} (hs : sl_cls s = 7) {p : Int} (hp : p < 40) (hQ : Q (some (vI (if p < 0 then (-1) else M s 4 p))) M) : sl_Runs l mX7_placeOf [vR s 0, vI p] M Q := eX7_placeOf (vX7_placeOf_0 hs fun _ _ => ⟨fun _ => by omega, hQ⟩)
theorem kX7_keep {s o1 : Nat} (hs : sl_cls s = 7) (hc : sl_cls (s + 10) = 0) (ho : sl_cls o1 = 0) (hne : o1 ≠ s + 10) (hSw : WF S) (hSC : Cd M o1 S) (hSS : CdS M o1 S) {k n : Int} (hk : 0 ≤ k ∧ k < S 0 0) (hP : CdA M (s + 10) (tr P2 n)) (hw2 : WF P2) (hn : 0 ≤ n ∧ n < P2 0 0) (hcp : cpy 16434824 S k P2 n) (hq : qs P2 (n + 1).toNat ≤ 160) (h2 : P2 2 n = if S 2 k < 0 then -1 else M s 4 (S 2 k)) (h4 : P2 4 n = S 4 k) (hQ : ∀ N, CdA N (s + 10) (tr P2 (n + 1)) → N s 4 k = n → (∀ o' i j, o' ≠ s + 10 → ¬ (o' = s ∧ i = 4 ∧ j = k) → N o' i j = M o' i j) → Q (some (vI n)) N) : sl_Runs l mX7_keep [vR s 0, vR o1 0, vI k] M Q := by
  have n0 := hSw.n0
  have w := hSw.pr hk.1 hk.2
  obtain ⟨s1, s2, s3, s4⟩ := hSC.2 k hk.1 hk.2
  have hs1 : s ≠ o1 := fun e => by rw [e, ho] at hs; omega
  refine eX7_keep (vX7_keep_0 hs ho fun _ _ => ⟨by omega, ?_⟩)
  rw [s2]
  refine kX7_placeOf hs (by omega) ⟨_, rfl, ?_⟩
  show sl_RI l mX0_addLike [vR (s + 10) 0, vR o1 0, vI k, vI (if S 2 k < 0 then (-1) else M s 4 (S 2 k)), vI (M o1 4 k), vI 16434824] M _
  refine kX0_addLike (P2 := P2) (n := n) hc ho hne hSw hSC hSS hk hP hw2 hn hcp hq h2.symm (by rw [s4, h4]) (fun N hC hN => ⟨_, rfl, fun M6 e6 => ?_⟩)
  have e : M6 s 4 k = n := by rw [e6, sl_wr_s]
  rw [e]
  refine hQ M6 (hC.frame (fun a b => by rw [e6]; simp only [sl_wr]; rw [if_neg (by omega)])) e (fun o' i j z1 z2 => ?_)
  rw [e6]; simp only [sl_wr]; rw [if_neg (by omega)]; exact hN o' i j z1
end G
