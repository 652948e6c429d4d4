/-! The reference: where a run goes on -/
def tN (P : Pg) (x : Int) : Int := if x < 0 then P 0 0 else x
/-- the rows laid for one of its two programs -/
def Ld (M : sl_M) (b : Int) (P : Pg) : Prop := (b = 0 ∨ b = 41) ∧ M 1 16 (idiv b 41) = P 0 0 ∧ ∀ k, 0 ≤ k → k < P 0 0 → M 1 17 (b + k) = P 1 k ∧ M 1 18 (b + k) = P 2 k ∧ M 1 20 (b + k) = P 3 k ∧ M 1 19 (b + k) = P 4 k ∧ M 1 23 (b + k) = la P 0 40 (P 2 k)
theorem idiv_b {b : Int} (h : b = 0 ∨ b = 41) : 0 ≤ idiv b 41 ∧ idiv b 41 < 2 := by rcases h with rfl | rfl <;> decide +kernel
def nib (x h : Int) : Int := iand (ishr x (4 + 4 * h)) 15
def lsl (x : Int) : Nat → Int → Int → Int
  | 0, _, a => a
  | n + 1, h, a => lsl x n (h + 1) (ior a (ishl 1 (nib x h)))
/-- the set of a list -/
def lset (x : Int) : Int := lsl x (irem x 16).toNat 0 0
def isv (c : Int) : Int := if 97 ≤ c ∧ c ≤ 104 then ishl 1 (c - 97) else 0
/-- the call that stands at a statement told; -1: none -/
def cat (R : Int → Int) (told : Int) : Nat → Int → Int
  | 0, _ => -1
  | n + 1, c => if R 789 ≤ c then -1 else if R (790 + c) = told then c else cat R told n (c + 1)
section K
variable {l : Launch} {M : sl_M} {Q : sl_R} {P : Pg} {b : Int}
theorem kX10_manyOf (hL : Ld M b P) (hQ : Q (some (vI (P 0 0))) M) : sl_Runs l mX10_manyOf [vR 1 0, vI b] M Q := by
  refine eX10_manyOf (vX10_manyOf_0 fun _ _ => ⟨idiv_b hL.1, ?_⟩)
  rw [hL.2.1]; exact hQ
theorem kX10_callAt {told : Int} (h0 : 0 ≤ M 1 1 789 ∧ M 1 1 789 ≤ 40) (hQ : Q (some (vI (cat (M 1 1) told 41 0))) M) : sl_Runs l mX10_callAt [vR 1 0, vI told] M Q := by
  have loop : ∀ (n : Nat) (c : Int), c = 41 - (n : Int) → n ≤ 41 → Q (some (vI (cat (M 1 1) told n c))) M → sl_At l mX10_callAt 2 [(0, vR 1 0), (1, vI told), (2, vI c)] [] M Q := by
    intro n
    induction n with
    | zero =>
      intro c h1 h2 hQ
      exact vX10_callAt_2 fun _ _ _ => ⟨fun _ => hQ, fun q => by omega⟩
    | succ n ih =>
      intro c h1 h2 hQ
      rw [cat] at hQ
      refine vX10_callAt_2 fun _ _ _ => ⟨fun q => ?_, fun q => ⟨by omega, fun q2 => ⟨by omega, ?_⟩, fun q2 => ?_⟩⟩
      · rw [if_pos q] at hQ; exact hQ
      · rw [if_neg q, if_neg q2] at hQ
        exact ih (c + 1) (by omega) (by omega) hQ
      · rw [if_neg q, if_pos (by omega)] at hQ; exact hQ
  exact eX10_callAt (vX10_callAt_0 fun _ _ => loop 41 0 (by omega) (by omega) hQ)
theorem kX10_listSet {x : Int} (hQ : Q (some (vI (lset x))) M) : sl_Runs l mX10_listSet [vR 1 0, vI x] M Q := by
  have hr := rg_irem x 16
  have loop : ∀ (n : Nat) (h a : Int), h = irem x 16 - (n : Int) ∨ (n = 0 ∧ irem x 16 ≤ h) → 0 ≤ h → Q (some (vI (lsl x n h a))) M → sl_At l mX10_listSet 4 [(1, vI x), (2, vI a), (3, vI h)] [] M Q := by
    intro n
    induction n with
    | zero =>
      intro h a h1 h2 hQ
      exact vX10_listSet_4 fun _ _ _ _ => ⟨fun _ => hQ, fun q => by omega⟩
    | succ n ih =>
      intro h a h1 h2 hQ
      refine vX10_listSet_4 fun _ _ _ _ => ⟨fun q => by omega, fun _ y ey => ⟨by omega, ?_⟩⟩
      rw [ey]
      exact ih (h + 1) _ (by omega) (by omega) hQ
  exact eX10_listSet (vX10_listSet_0 fun _ _ => loop (irem x 16).toNat 0 0 (by omega) (by omega) hQ)
theorem kX10_isVariable {c : Int} (hQ : Q (some (vI (isv c))) M) : sl_Runs l mX10_isVariable [vI c] M Q := by
  refine eX10_isVariable (vX10_isVariable_0 fun _ _ => ?_)
  unfold isv at hQ
  by_cases q : 97 ≤ c ∧ c ≤ 104
  · rw [if_pos q] at hQ; rw [if_neg (fun z => z q)]; exact hQ
  · rw [if_neg q] at hQ; rw [if_pos q]; exact hQ
theorem kX10_areOfBlock (hw : WF P) (hL : Ld M b P) {i j : Int} (hi : 0 ≤ i ∧ i < P 0 0) (hj : 0 ≤ j ∧ j < P 0 0) (hQ : Q (some (vI (if P 2 i = P 2 j ∧ P 4 i = P 4 j then 1 else 0))) M) : sl_Runs l mX10_areOfBlock [vR 1 0, vI b, vI i, vI j] M Q := by
  have hn := hw.n0
  have hb := hL.1
  obtain ⟨a1, a2, a3, a4, -⟩ := hL.2.2 i hi.1 hi.2
  obtain ⟨c1, c2, c3, c4, -⟩ := hL.2.2 j hj.1 hj.2
  refine eX10_areOfBlock (vX10_areOfBlock_0 fun _ _ _ _ => ⟨by omega, by omega, ?_⟩)
  rw [a2, c2, a4, c4, b_congr (R := P 2 i = P 2 j ∧ P 4 i = P 4 j) (by omega)]
  exact hQ
theorem kX10_behind (hw : WF P) (hL : Ld M b P) {k : Int} (hk : 0 ≤ k ∧ k < P 0 0) (hQ : Q (some (vI (tN P (bh P 0 (P 0 0 - 1) 40 k)))) M) : sl_Runs l mX10_behind [vR 1 0, vI b, vI k] M Q := by
  have hn := hw.n0
  have hb := hL.1
  have loop : ∀ (m : Nat) (a : Int), a.toNat < m → 0 ≤ a → a < P 0 0 → Q (some (vI (tN P (bh P 0 (P 0 0 - 1) m a)))) M → sl_At l mX10_behind 2 [(0, vR 1 0), (1, vI b), (3, vI a)] [] M Q := by
    intro m
    induction m with
    | zero => intro a h; omega
    | succ m ih =>
      intro a h1 h0 h2 hQ
      obtain ⟨a1, a2, a3, a4, -⟩ := hL.2.2 a h0 h2
      have w1 := hw.pr h0 h2
      have w2 := hw.af h0 h2
      have J : ¬ (P 3 a ≤ P 0 0 - 1 ∧ P 2 (P 3 a) = P 2 a ∧ P 4 (P 3 a) = P 4 a) → sl_At l mX10_behind 36 [(0, vR 1 0), (1, vI b), (3, vI a)] [] M Q := by
        intro hn1
        rw [bh, if_neg hn1] at hQ
        refine vX10_behind_36 fun _ _ _ => ⟨by omega, ?_⟩
        rw [a2]
        refine ⟨fun q => ⟨by omega, ?_⟩, fun q => ?_⟩
        · rw [if_neg (by omega)] at hQ
          rw [(hL.2.2 (P 2 a) (by omega) (by omega)).1]
          refine ⟨fun q2 => ?_, fun q2 => ?_⟩
          · rw [if_neg q2] at hQ
            exact ih (P 2 a) (by omega) (by omega) (by omega) hQ
          · rw [if_pos (by omega)] at hQ
            unfold tN at hQ
            rw [if_neg (by omega)] at hQ; exact hQ
        · rw [if_pos (by omega)] at hQ
          exact kX10_manyOf hL ⟨_, rfl, hQ⟩
      refine vX10_behind_2 fun _ _ _ => ⟨by omega, kX10_manyOf hL ⟨_, rfl, ?_⟩⟩
      rw [a3]
      refine ⟨fun q => J (by omega), fun q => ?_⟩
      refine kX10_areOfBlock hw hL ⟨h0, h2⟩ (by omega) ⟨_, rfl, fun q2 => J ?_, fun q2 => ?_⟩
      · have := b_eq0.mp q2; omega
      · have := b_ne0.mp q2
        rw [bh, if_pos ⟨by omega, by omega, by omega⟩] at hQ
        unfold tN at hQ
        rw [if_neg (by omega)] at hQ
        exact hQ
  exact eX10_behind (vX10_behind_0 fun _ _ _ => loop 40 k (by omega) hk.1 hk.2 hQ)
theorem kX10_firstOf (hw : WF P) (hL : Ld M b P) {k s : Int} (hk : 0 ≤ k ∧ k < P 0 0) (hQ : Q (some (vI (fo P k s 40 (k + 1)))) M) : sl_Runs l mX10_firstOf [vR 1 0, vI b, vI k, vI s] M Q := by
  have hn := hw.n0
  have hb := hL.1
  have w2 := hw.af hk.1 hk.2
  obtain ⟨a1, a2, a3, a4, -⟩ := hL.2.2 k hk.1 hk.2
  have loop : ∀ (m : Nat) (x : Int), P 3 k - x < m → k < x → Q (some (vI (fo P k s m x))) M → sl_At l mX10_firstOf 5 [(0, vR 1 0), (1, vI b), (2, vI k), (3, vI s), (4, vI x)] [] M Q := by
    intro m
    induction m with
    | zero =>
      intro x h1 h2 hQ
      refine vX10_firstOf_5 fun _ _ _ _ _ => ⟨by omega, ?_⟩
      rw [a3]
      exact ⟨fun _ => hQ, fun q => by omega⟩
    | succ m ih =>
      intro x h1 h2 hQ
      rw [fo] at hQ
      refine vX10_firstOf_5 fun _ _ _ _ _ => ⟨by omega, ?_⟩
      rw [a3]
      refine ⟨fun q => ?_, fun q => ⟨by omega, ?_⟩⟩
      · rw [if_neg (by omega)] at hQ; exact hQ
      · rw [if_pos (by omega)] at hQ
        obtain ⟨c1, c2, c3, c4, -⟩ := hL.2.2 x (by omega) (by omega)
        rw [c2, c4]
        refine ⟨fun q2 => ⟨by omega, ?_⟩, fun q2 => ⟨fun q3 => ⟨by omega, ?_⟩, fun q3 => ?_⟩⟩
        · rw [if_neg (fun z => q2 z.1)] at hQ
          exact ih (x + 1) (by omega) (by omega) hQ
        · rw [if_neg (fun z => q3 z.2)] at hQ
          exact ih (x + 1) (by omega) (by omega) hQ
        · rw [if_pos ⟨by omega, by omega⟩] at hQ; exact hQ
  refine eX10_firstOf (vX10_firstOf_0 fun _ _ _ _ => ⟨by omega, fun y ey => ?_⟩)
  rw [ey]
  exact loop 40 (k + 1) (by omega) (by omega) hQ
end K
