/-! The reference: a row of numbers read as a program -/
def usl (R : Int → Int) (t : Int) : Nat → Int → Int → Int
  | 0, _, a => a
  | n + 1, h, a => usl R t n (h + 1) (ior a (isv (R ((281 + (12 * t)) + h))))
/-- the names a statement told reads -/
def uses (R : Int → Int) (t : Int) : Int := usl R t (R (241 + t)).toNat 0 0
def PRk (R : Int → Int) (b : Int) (P : Pg) (k : Int) : Prop :=
  (0 ≤ P 30 k ∧ P 30 k < R 0 ∧ P 30 k < P 30 (k + 1)) ∧ P 31 k = (if b = 0 then cat R (P 30 k) 41 0 else -1) ∧ (P 31 k ≠ -1 → (0 ≤ P 31 k ∧ P 31 k < 40) ∧ (0 ≤ R (830 + P 31 k) ∧ R (830 + P 31 k) < 40)) ∧
  P 30 (k + 1) = (if P 31 k ≠ -1 then R (41 + R (830 + P 31 k)) else P 30 k + 1) ∧ P 1 k = (if P 31 k ≠ -1 then 7 else R (1 + P 30 k)) ∧ (P 31 k = -1 → P 1 k ≠ 7) ∧
  P 4 k = R (121 + P 30 k) ∧ (0 ≤ R (241 + P 30 k) ∧ R (241 + P 30 k) ≤ 12) ∧ P 10 k = (if P 31 k ≠ -1 then lset (R (910 + P 31 k)) else uses R (P 30 k)) ∧
  (∀ p, 0 ≤ p → p < k → (P 1 p ≠ 7 ∧ P 30 p = R (81 + P 30 k) ↔ p = P 2 k)) ∧ (P 1 k = 7 → P 3 k = k + 1) ∧
  (P 1 k ≠ 7 → (∀ x, k < x → x < P 3 k → P 30 x < R (41 + P 30 k)) ∧ (P 3 k < P 0 0 → R (41 + P 30 k) ≤ P 30 (P 3 k)))
/-- the row R, read with its calls (b = 0) or without (b = 41), is P -/
def PR (R : Int → Int) (b : Int) (P : Pg) : Prop := (0 ≤ R 0 ∧ R 0 ≤ 40) ∧ (0 ≤ R 789 ∧ R 789 ≤ 40) ∧ P 30 0 = 0 ∧ (R 0 ≤ P 30 (P 0 0) ∧ P 30 (P 0 0) ≤ 40) ∧ ∀ k, 0 ≤ k → k < P 0 0 → PRk R b P k
def FLs (M N : sl_M) (b n : Int) : Prop := ∀ o i j, ¬ (o = 1 ∧ ((i = 16 ∧ j = idiv b 41) ∨ (17 ≤ i ∧ i ≤ 24 ∧ b ≤ j ∧ j < b + n))) → N o i j = M o i j
def L1 (N : sl_M) (b : Int) (P : Pg) (k : Int) : Prop := ∀ q, 0 ≤ q → q < k → N 1 17 (b + q) = P 1 q ∧ N 1 19 (b + q) = P 4 q ∧ N 1 21 (b + q) = P 30 q ∧ N 1 22 (b + q) = P 31 q ∧ N 1 24 (b + q) = P 10 q
def L2 (N : sl_M) (b : Int) (P : Pg) (k : Int) : Prop := ∀ q, 0 ≤ q → q < k → N 1 18 (b + q) = P 2 q ∧ N 1 20 (b + q) = P 3 q ∧ N 1 23 (b + q) = la P 0 40 (P 2 q)
section K
variable {l : Launch} {M : sl_M} {Q : sl_R} {P : Pg} {b : Int}
theorem FLs.row {N : sl_M} {n : Int} (h : FLs M N b n) : N 1 1 = M 1 1 := by funext j; exact h 1 1 j (by omega)
theorem FLs.wr {N : sl_M} {n j v : Int} {i : Nat} (h : FLs M N b n) (hi : 17 ≤ i ∧ i ≤ 24) (hj : b ≤ j ∧ j < b + n) : FLs M (sl_wr N 1 i j v) b n := by
  intro o i' j' z
  simp only [sl_wr]
  rw [if_neg (by omega)]
  exact h o i' j' z
theorem la_step (hw : WF P) {k : Int} (hk : 0 ≤ k ∧ k < P 0 0) : la P 0 40 (P 2 k) = (if P 2 k ≠ -1 then (if P 1 (P 2 k) ≠ 6 then la P 0 40 (P 2 (P 2 k)) else P 2 k) else -1) := by
  have hn := hw.n0
  have hp := hw.pr hk.1 hk.2
  by_cases q : P 2 k = -1
  · rw [if_neg (fun z => z q), q]; rfl
  · rw [if_pos q, la, if_neg (by omega)]
    by_cases q2 : P 1 (P 2 k) = 6
    · rw [if_pos q2, if_neg (fun z => z q2)]
    · rw [if_neg q2, if_pos q2]
      have hp2 := hw.pr (k := P 2 k) (by omega) (by omega)
      exact la_fuel hw 39 _ 40 (by omega) (by omega) (by omega)
theorem kX10_laysStatements (hb : b = 0 ∨ b = 41) (hw : WF P) (hR : PR (M 1 1) b P) (hQ : ∀ N, FLs M N b (P 0 0) → Ld N b P → LdN N b P → Q none N) : sl_Runs l mX10_laysStatements [vR 1 0, vI b] M Q := by
  have hn := hw.n0
  obtain ⟨r0, r789, nd0, ndn, hk⟩ := hR
  have hdb := idiv_b hb
  -- the second loop
  have loop2 : ∀ (m : Nat) (k : Int) (N : sl_M), k = P 0 0 - (m : Int) → 0 ≤ k → FLs M N b (P 0 0) → N 1 16 (idiv b 41) = P 0 0 → L1 N b P (P 0 0) → L2 N b P k → sl_At l mX10_laysStatements 235 [(0, vR 1 0), (1, vI b), (2, vI (P 0 0)), (4, vI k)] [] N Q := by
    intro m
    induction m with
    | zero =>
      intro k N ek k0 hF h16 h1 h2
      refine vX10_laysStatements_235 fun _ _ _ _ => ⟨fun _ => ?_, fun q => by omega⟩
      refine hQ N hF ⟨hb, h16, fun q q0 q1 => ?_⟩ (fun q q0 q1 => ?_)
      · obtain ⟨a1, a2, a3, a4, a5⟩ := h1 q q0 q1
        obtain ⟨c1, c2, c3⟩ := h2 q q0 (by omega)
        exact ⟨a1, c1, c2, a2, c3⟩
      · obtain ⟨a1, a2, a3, a4, a5⟩ := h1 q q0 q1
        exact ⟨a3, a4, a5⟩
    | succ m ih =>
      intro k N ek k0 hF h16 h1 h2
      have kn : k < P 0 0 := by omega
      obtain ⟨p1, p2, p3, p4, p5, p6, p7, p8, p9, p10, p11, p12⟩ := hk k k0 kn
      have hpr := hw.pr k0 kn
      have haf := hw.af k0 kn
      refine vX10_laysStatements_235 fun _ _ _ _ => ⟨fun q => by omega, fun _ => ⟨by omega, fun M3 e3 => ?_⟩⟩
      -- 433
      have fin : ∀ N3 : sl_M, FLs M N3 b (P 0 0) → N3 1 16 (idiv b 41) = P 0 0 → L1 N3 b P (P 0 0) → L2 N3 b P k → N3 1 18 (b + k) = P 2 k → N3 1 20 (b + k) = P 3 k → sl_At l mX10_laysStatements 433 [(0, vR 1 0), (1, vI b), (2, vI (P 0 0)), (4, vI k)] [] N3 Q := by
        intro N3 g1 g2 g3 g4 g5 g6
        refine vX10_laysStatements_433 fun _ _ _ _ => ⟨by omega, fun _ => by omega, fun M5 e5 => ⟨by omega, ?_⟩⟩
        have v : (if N3 1 18 (b + k) ≠ (-1) then (if N3 1 17 (b + (N3 1 18 (b + k))) ≠ 6 then N3 1 23 (b + (N3 1 18 (b + k))) else N3 1 18 (b + k)) else (-1)) = la P 0 40 (P 2 k) := by
          rw [la_step hw ⟨k0, kn⟩, g5]
          by_cases q : P 2 k = -1
          · rw [if_neg (fun z => z q), if_neg (fun z => z q)]
          · rw [if_pos q, if_pos q, (g3 (P 2 k) (by omega) (by omega)).1, (g4 (P 2 k) (by omega) (by omega)).2.2]
        rw [v] at e5
        refine ih (k + 1) M5 (by omega) (by omega) (by rw [e5]; exact g1.wr (by omega) (by omega)) ?_ ?_ ?_
        · rw [e5]; simp only [sl_wr]; rw [if_neg (by omega)]; exact g2
        · intro q q0 q1
          rw [e5]; simp only [sl_wr]
          simp
          exact g3 q q0 q1
        · intro q q0 q1
          rw [e5]; simp only [sl_wr]
          by_cases qe : q = k
          · subst qe; simp; exact ⟨g5, g6⟩
          · simp [show ¬ (b + q = b + k) by omega]
            exact g4 q q0 (by omega)
      -- 383
      have lp3 : ∀ (m : Nat) (x : Int) (y : Int) (N3 : sl_M), x = P 3 k - (m : Int) → k < x → (P 1 k = 7 → y = 0) → (P 1 k ≠ 7 → y = M 1 1 (41 + P 30 k)) → FLs M N3 b (P 0 0) → N3 1 16 (idiv b 41) = P 0 0 → L1 N3 b P (P 0 0) → L2 N3 b P k → N3 1 18 (b + k) = P 2 k → N3 1 20 (b + k) = x → sl_At l mX10_laysStatements 383 [(0, vR 1 0), (1, vI b), (2, vI (P 0 0)), (4, vI k), (5, vI y)] [] N3 Q := by
        intro m
        induction m with
        | zero =>
          intro x y N3 ex kx y1 y2 g1 g2 g3 g4 g5 g6
          have ex : x = P 3 k := by omega
          subst ex
          refine vX10_laysStatements_383 fun _ _ _ _ _ => ⟨by omega, fun _ => fin N3 g1 g2 g3 g4 g5 g6, fun q => ?_⟩
          rw [g6] at q
          rw [g6]
          refine ⟨by omega, fun _ => fin N3 g1 g2 g3 g4 g5 g6, fun q2 => ?_⟩
          exfalso
          apply q2
          rw [(g3 (P 3 k) (by omega) (by omega)).2.2.1]
          by_cases k7 : P 1 k = 7
          · rw [y1 k7]; exact (hk (P 3 k) (by omega) (by omega)).1.1
          · rw [y2 k7]; exact (p12 k7).2 (by omega)
        | succ m ih3 =>
          intro x y N3 ex kx y1 y2 g1 g2 g3 g4 g5 g6
          refine vX10_laysStatements_383 fun _ _ _ _ _ => ⟨by omega, fun q => by omega, fun q => ?_⟩
          rw [g6]
          have k7 : P 1 k ≠ 7 := fun z => by have := p11 z; omega
          have hx := (p12 k7).1 x kx (by omega)
          rw [(g3 x (by omega) (by omega)).2.2.1]
          refine ⟨by omega, fun q2 => by rw [y2 k7] at q2; omega, fun q2 => ⟨by omega, fun M6 e6 => ?_⟩⟩
          refine ih3 (x + 1) y M6 (by omega) (by omega) y1 y2 (by rw [e6]; exact g1.wr (by omega) (by omega)) ?_ ?_ ?_ ?_ ?_
          · rw [e6]; simp only [sl_wr]; rw [if_neg (by omega)]; exact g2
          · intro q q0 q1
            rw [e6]; simp only [sl_wr]
            simp
            exact g3 q q0 q1
          · intro q q0 q1
            rw [e6]; simp only [sl_wr]
            simp [show ¬ (b + q = b + k) by omega]
            exact g4 q q0 q1
          · rw [e6]; simp only [sl_wr]; simp; exact g5
          · rw [e6]; exact sl_wr_s
      -- 254
      have lp2 : ∀ (m : Nat) (x : Int) (N3 : sl_M), x = k - (m : Int) → 0 ≤ x → FLs M N3 b (P 0 0) → N3 1 16 (idiv b 41) = P 0 0 → L1 N3 b P (P 0 0) → L2 N3 b P k → N3 1 18 (b + k) = (if P 2 k < x then P 2 k else -1) → sl_At l mX10_laysStatements 254 [(0, vR 1 0), (1, vI b), (2, vI (P 0 0)), (4, vI k), (5, vI x)] [] N3 Q := by
        intro m
        induction m with
        | zero =>
          intro x N3 ex x0 g1 g2 g3 g4 g5
          refine vX10_laysStatements_254 fun _ _ _ _ _ => ⟨fun _ => ⟨by omega, by omega, fun M4 e4 => ?_⟩, fun q => by omega⟩
          obtain ⟨a1, a2, a3, a4, a5⟩ := g3 k k0 kn
          have f4 : FLs M M4 b (P 0 0) := by rw [e4]; exact g1.wr (by omega) (by omega)
          have b17 : M4 1 17 (b + k) = P 1 k := by rw [e4]; simp only [sl_wr]; rw [if_neg (by omega)]; exact a1
          have b21 : M4 1 21 (b + k) = P 30 k := by rw [e4]; simp only [sl_wr]; rw [if_neg (by omega)]; exact a3
          rw [b17, b21, f4.row]
          refine ⟨fun _ => by omega, fun y ey => ?_⟩
          rw [if_pos (show P 2 k < x by omega)] at g5
          refine lp3 (P 3 k - (k + 1)).toNat (k + 1) y M4 (by omega) (by omega) (fun z => by rw [ey, if_neg (fun w => w z)]) (fun z => by rw [ey, if_pos z]) f4 ?_ ?_ ?_ ?_ ?_
          · rw [e4]; simp only [sl_wr]; rw [if_neg (by omega)]; exact g2
          · intro q q0 q1
            rw [e4]; simp only [sl_wr]
            simp
            exact g3 q q0 q1
          · intro q q0 q1
            rw [e4]; simp only [sl_wr]
            simp [show ¬ (b + q = b + k) by omega]
            exact g4 q q0 q1
          · rw [e4]; simp only [sl_wr]; simp; exact g5
          · rw [e4]; exact sl_wr_s
        | succ m ih2 =>
          intro x N3 ex x0 g1 g2 g3 g4 g5
          obtain ⟨a1, a2, a3, a4, a5⟩ := g3 k k0 kn
          obtain ⟨c1, c2, c3, c4, c5⟩ := g3 x x0 (by omega)
          refine vX10_laysStatements_254 fun _ _ _ _ _ => ⟨fun q => by omega, fun _ => ?_⟩
          rw [c1, c3, a3, g1.row]
          refine ⟨by omega, ⟨fun _ => by omega, fun _ => ⟨by omega, by omega⟩⟩, by omega, fun M15 e15 => ⟨by omega, ?_⟩⟩
          refine ih2 (x + 1) M15 (by omega) (by omega) (by rw [e15]; exact g1.wr (by omega) (by omega)) ?_ ?_ ?_ ?_
          · rw [e15]; simp only [sl_wr]; rw [if_neg (by omega)]; exact g2
          · intro q q0 q1
            rw [e15]; simp only [sl_wr]
            simp
            exact g3 q q0 q1
          · intro q q0 q1
            rw [e15]; simp only [sl_wr]
            simp [show ¬ (b + q = b + k) by omega]
            exact g4 q q0 q1
          · rw [e15, sl_wr_s, g5]
            have h := p10 x x0 (by omega)
            by_cases qe : x = P 2 k
            · obtain ⟨h1, h2⟩ := h.mpr qe
              rw [if_neg h1, if_neg (fun z => z h2), if_pos (show P 2 k < x + 1 by omega), qe]
            · have hn : ¬ (P 1 x ≠ 7 ∧ P 30 x = M 1 1 (81 + P 30 k)) := fun z => qe (h.mp z)
              have e : (if P 2 k < x + 1 then P 2 k else -1) = (if P 2 k < x then P 2 k else -1) := by
                by_cases z : P 2 k < x
                · rw [if_pos z, if_pos (by omega)]
                · rw [if_neg z, if_neg (by omega)]
              rw [e]
              by_cases q7 : P 1 x = 7
              · rw [if_pos q7]
              · rw [if_neg q7, if_pos (fun z => hn ⟨q7, z⟩)]
      refine lp2 k.toNat 0 M3 (by omega) (by omega) (by rw [e3]; exact hF.wr (by omega) (by omega)) ?_ ?_ ?_ ?_
      · rw [e3]; simp only [sl_wr]; rw [if_neg (by omega)]; exact h16
      · intro q q0 q1
        rw [e3]; simp only [sl_wr]
        simp
        exact h1 q q0 q1
      · intro q q0 q1
        rw [e3]; simp only [sl_wr]
        simp [show ¬ (b + q = b + k) by omega]
        exact h2 q q0 q1
      · rw [e3, sl_wr_s]
        by_cases z : P 2 k < 0
        · rw [if_pos z]; omega
        · rw [if_neg z]
  -- the first loop
  have loop1 : ∀ (m : Nat) (k : Int) (N : sl_M), k = P 0 0 - (m : Int) → 0 ≤ k → FLs M N b (P 0 0) → L1 N b P k → sl_At l mX10_laysStatements 4 [(0, vR 1 0), (1, vI b), (2, vI k), (3, vI (P 30 k))] [] N Q := by
    intro m
    induction m with
    | zero =>
      intro k N ek k0 hF h1
      have ek : k = P 0 0 := by omega
      subst ek
      refine vX10_laysStatements_4 fun _ _ _ _ => ⟨fun _ => ⟨hdb, fun M3 e3 => ?_⟩, fun q => ?_⟩
      · refine loop2 (P 0 0).toNat 0 M3 (by omega) (by omega) ?_ ?_ ?_ ?_
        · intro o i j z
          rw [e3]; simp only [sl_wr]
          rw [if_neg (by omega)]
          exact hF o i j z
        · rw [e3]; exact sl_wr_s
        · intro q q0 q1
          rw [e3]; simp only [sl_wr]
          simp
          exact h1 q q0 q1
        · intro q q0 q1; omega
      · rw [hF.row] at q; omega
    | succ m ih =>
      intro k N ek k0 hF h1
      have kn : k < P 0 0 := by omega
      obtain ⟨p1, p2, p3, p4, p5, p6, p7, p8, p9, p10, p11, p12⟩ := hk k k0 kn
      -- 128
      have go : ∀ N3 : sl_M, FLs M N3 b (P 0 0) → L1 N3 b P (k + 1) → sl_At l mX10_laysStatements 4 [(0, vR 1 0), (1, vI b), (2, vI (k + 1)), (3, vI (if P 31 k ≠ -1 then M 1 1 (41 + M 1 1 (830 + P 31 k)) else P 30 k + 1))] [] N3 Q := by
        intro N3 g1 g2
        rw [← p4]
        exact ih (k + 1) N3 (by omega) (by omega) g1 g2
      have lp : ∀ (m : Nat) (h a : Int) (N3 : sl_M), P 31 k = -1 → h = M 1 1 (241 + P 30 k) - (m : Int) → 0 ≤ h → FLs M N3 b (P 0 0) → L1 N3 b P k → N3 1 17 (b + k) = P 1 k → N3 1 19 (b + k) = P 4 k → N3 1 21 (b + k) = P 30 k → N3 1 22 (b + k) = P 31 k → N3 1 24 (b + k) = a → usl (M 1 1) (P 30 k) m h a = uses (M 1 1) (P 30 k) → sl_At l mX10_laysStatements 128 [(0, vR 1 0), (1, vI b), (2, vI k), (3, vI (P 30 k)), (4, vI (P 31 k)), (5, vI (b + k)), (6, vI h)] [] N3 Q := by
        intro m
        induction m with
        | zero =>
          intro h a N3 hc eh h0 g1 g2 g3 g4 g5 g6 g7 hu
          refine vX10_laysStatements_128 fun _ _ _ _ _ _ _ => ?_
          rw [g1.row]
          refine ⟨by omega, fun _ => ⟨by omega, fun z => (z hc).elim, by rw [if_neg (fun z => z hc)]; omega, fun y ey => ?_⟩, fun q => by omega⟩
          rw [ey]
          refine go N3 g1 fun q q0 q1 => ?_
          by_cases qe : q = k
          · subst qe
            refine ⟨g3, g4, g5, g6, ?_⟩
            rw [g7, p9, if_neg (fun z => z hc), ← hu]; rfl
          · exact g2 q q0 (by omega)
        | succ m ih3 =>
          intro h a N3 hc eh h0 g1 g2 g3 g4 g5 g6 g7 hu
          refine vX10_laysStatements_128 fun _ _ _ _ _ _ _ => ?_
          rw [g1.row]
          refine ⟨by omega, fun q => by omega, fun q => ⟨fun z => (z hc).elim, fun _ => ⟨by omega, by omega, ?_⟩⟩⟩
          refine kX10_isVariable ⟨_, rfl, fun M20 e20 => ⟨by omega, ?_⟩⟩
          rw [g7] at e20
          refine ih3 (h + 1) _ M20 hc (by omega) (by omega) (by rw [e20]; exact g1.wr (by omega) (by omega)) ?_ ?_ ?_ ?_ ?_ (by rw [e20]; exact sl_wr_s) hu
          · intro q q0 q1
            rw [e20]; simp only [sl_wr]
            simp [show ¬ (b + q = b + k) by omega]
            exact g2 q q0 q1
          · rw [e20]; simp only [sl_wr]; simp; exact g3
          · rw [e20]; simp only [sl_wr]; simp; exact g4
          · rw [e20]; simp only [sl_wr]; simp; exact g5
          · rw [e20]; simp only [sl_wr]; simp; exact g6
      have at27 : sl_At l mX10_laysStatements 27 [(0, vR 1 0), (1, vI b), (2, vI k), (3, vI (P 30 k))] [vI (P 31 k)] N Q := by
        refine vX10_laysStatements_27 (by omega) fun _ _ _ _ => ⟨by omega, fun y ey => ?_⟩
        subst ey
        refine ⟨by omega, fun M4 e4 M5 e5 => ?_⟩
        have f4 : FLs M M4 b (P 0 0) := by rw [e4]; exact hF.wr (by omega) (by omega)
        have f5 : FLs M M5 b (P 0 0) := by rw [e5]; exact f4.wr (by omega) (by omega)
        rw [f5.row]
        refine ⟨fun _ => by omega, fun M8 e8 => ?_⟩
        have f8 : FLs M M8 b (P 0 0) := by rw [e8]; exact f5.wr (by omega) (by omega)
        rw [← p5] at e8
        rw [f8.row]
        refine ⟨by omega, fun M10 e10 => ?_⟩
        have f10 : FLs M M10 b (P 0 0) := by rw [e10]; exact f8.wr (by omega) (by omega)
        rw [← p7] at e10
        have all : ∀ v N3, N3 = sl_wr M10 1 24 (b + k) v → FLs M N3 b (P 0 0) ∧ L1 N3 b P k ∧ N3 1 17 (b + k) = P 1 k ∧ N3 1 19 (b + k) = P 4 k ∧ N3 1 21 (b + k) = P 30 k ∧ N3 1 22 (b + k) = P 31 k ∧ N3 1 24 (b + k) = v := by
          intro v N3 e
          refine ⟨by rw [e]; exact f10.wr (by omega) (by omega), fun q q0 q1 => ?_, ?_⟩
          · rw [e, e10, e8, e5, e4]; simp only [sl_wr]
            simp [show ¬ (b + q = b + k) by omega]
            exact h1 q q0 q1
          · rw [e, e10, e8, e5, e4]; simp only [sl_wr]
            simp
        rw [f10.row]
        refine ⟨fun hc => ⟨by omega, ?_⟩, fun hc => fun M16 e16 => ?_⟩
        · refine kX10_listSet ⟨_, rfl, fun M15 e15 => ?_⟩
          obtain ⟨a1, a2, a3, a4, a5, a6, a7⟩ := all _ _ e15
          obtain ⟨z1, z2⟩ := p3 hc
          refine vX10_laysStatements_128 fun _ _ _ _ _ _ _ => ?_
          rw [a1.row]
          have tail : L1 M15 b P (k + 1) := by
            intro q q0 q1
            by_cases qe : q = k
            · subst qe
              refine ⟨a3, a4, a5, a6, ?_⟩
              rw [a7, p9, if_pos hc]
            · exact a2 q q0 (by omega)
          have rr : sl_rg (if P 31 k ≠ -1 then M 1 1 (41 + M 1 1 (830 + P 31 k)) else P 30 k + 1) := by
            rw [← p4]
            by_cases z : k + 1 < P 0 0
            · have := (hk (k + 1) (by omega) z).1; omega
            · rw [show k + 1 = P 0 0 by omega]; omega
          refine ⟨by omega, fun _ => ⟨by omega, fun _ => by omega, rr, fun y ey => ?_⟩, fun _ => ⟨fun _ => ⟨by omega, fun _ => by omega, rr, fun y ey => ?_⟩, fun z => (z hc).elim⟩⟩
          · rw [ey]; exact go M15 a1 tail
          · rw [ey]; exact go M15 a1 tail
        · obtain ⟨a1, a2, a3, a4, a5, a6, a7⟩ := all _ _ e16
          have hc : P 31 k = -1 := by omega
          exact lp (M 1 1 (241 + P 30 k)).toNat 0 0 M16 hc (by omega) (by omega) a1 a2 a3 a4 a5 a6 a7 rfl
      refine vX10_laysStatements_4 fun _ _ _ _ => ?_
      rw [hF.row]
      refine ⟨fun q => by omega, fun _ => ⟨fun hb0 => ?_, fun hb0 => ?_⟩⟩
      · rw [if_neg hb0] at p2
        rw [← p2]
        exact at27
      · rw [if_pos (by omega)] at p2
        refine kX10_callAt (by rw [hF.row]; exact r789) ⟨_, rfl, ?_⟩
        rw [hF.row, ← p2]
        exact at27
  refine eX10_laysStatements (vX10_laysStatements_0 fun _ _ => ?_)
  have := loop1 (P 0 0).toNat 0 M (by omega) (by omega) (fun _ _ _ _ => rfl) (fun q q0 q1 => by omega)
  rw [nd0] at this
  exact this
end K
