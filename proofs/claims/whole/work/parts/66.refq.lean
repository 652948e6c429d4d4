/-! The reference: questions -/
/-- what a question may change -/
def FQ (M N : sl_M) : Prop := ∀ o i j, ¬ (o = 1 ∧ ((16 ≤ i ∧ i ≤ 50) ∨ (i = 0 ∧ 31 ≤ j ∧ j ≤ 45))) → N o i j = M o i j
/-- a question answered with refusal r: 0 none, 1 bad, 2 no, 3 full -/
def FR (M N : sl_M) (r : Int) : Prop := (∀ o i j, ¬ (o = 1 ∧ ((16 ≤ i ∧ i ≤ 50) ∨ (i = 0 ∧ ((31 ≤ j ∧ j ≤ 45) ∨ (4 ≤ j ∧ j ≤ 6))))) → N o i j = M o i j) ∧ ∀ j, 4 ≤ j → j ≤ 6 → N 1 0 j = M 1 0 j + (if j = r + 3 then 1 else 0)
def Tl (M : sl_M) : Prop := ∀ j, 4 ≤ j → j ≤ 6 → 0 ≤ M 1 0 j ∧ M 1 0 j < 2147483647
section K
variable {l : Launch} {M : sl_M} {Q : sl_R} {P P' : Pg}
theorem FQ.tr {N O : sl_M} (h1 : FQ M N) (h2 : FQ N O) : FQ M O := fun o i j z => (h2 o i j z).trans (h1 o i j z)
theorem FLa.fq {N : sl_M} (h : FLa M N) : FQ M N := fun o i j z => h o i j (by omega)
theorem FSp.fq {N : sl_M} (h : FSp M N) : FQ M N := fun o i j z => h o i j (by omega)
theorem FAc.fq {N : sl_M} (h : FAc M N) : FQ M N := fun o i j z => h o i j (by omega)
theorem FQ.row {N : sl_M} (h : FQ M N) : N 1 1 = M 1 1 := by funext j; exact h 1 1 j (by omega)
theorem FQ.fr {N : sl_M} (h : FQ M N) : FR M N 0 := ⟨fun o i j z => h o i j (by omega), fun j h1 h2 => by rw [h 1 0 j (by omega), if_neg (by omega)]; omega⟩
theorem FQ.tl {N : sl_M} (h : FQ M N) (ht : Tl M) : Tl N := fun j h1 h2 => by rw [h 1 0 j (by omega)]; exact ht j h1 h2
theorem FQ.ref {N O : sl_M} {r : Int} (h : FQ M N) (h2 : FR N O r) : FR M O r := by
  refine ⟨fun o i j z => ?_, fun j h3 h4 => ?_⟩
  · rw [h2.1 o i j z]; exact h o i j (by omega)
  · rw [h2.2 j h3 h4, h 1 0 j (by omega)]
theorem fr_wr {j : Int} (hj : 4 ≤ j ∧ j ≤ 6) : FR M (sl_wr M 1 0 j (M 1 0 j + 1)) (j - 3) := by
  refine ⟨fun o i q z => ?_, fun q h1 h2 => ?_⟩
  · simp only [sl_wr]; rw [if_neg (by omega)]
  · simp only [sl_wr]
    by_cases e : q = j
    · subst e; simp
    · rw [if_neg (by omega), if_neg (by omega)]; omega
theorem kX10_bad (ht : Tl M) (hQ : ∀ N, FR M N 1 → Q (some (vI (-2))) N) : sl_Runs l mX10_bad [vR 1 0] M Q := by
  have := ht 4 (by omega) (by omega)
  refine eX10_bad (vX10_bad_0 fun _ => ⟨by omega, fun N e => hQ N ?_⟩)
  rw [e]; exact fr_wr (j := 4) (by omega)
theorem kX10_no (ht : Tl M) (hQ : ∀ N, FR M N 2 → Q (some (vI (-3))) N) : sl_Runs l mX10_no [vR 1 0] M Q := by
  have := ht 5 (by omega) (by omega)
  refine eX10_no (vX10_no_0 fun _ => ⟨by omega, fun N e => hQ N ?_⟩)
  rw [e]; exact fr_wr (j := 5) (by omega)
theorem kX10_full (ht : Tl M) (hQ : ∀ N, FR M N 3 → Q (some (vI (-4))) N) : sl_Runs l mX10_full [vR 1 0] M Q := by
  have := ht 6 (by omega) (by omega)
  refine eX10_full (vX10_full_0 fun _ => ⟨by omega, fun N e => hQ N ?_⟩)
  rw [e]; exact fr_wr (j := 6) (by omega)
theorem kX10_isStatement (hw : WF P) (hL : Ld M 0 P) {k : Int} (hQ : Q (some (vI (if 0 ≤ k ∧ k < P 0 0 then 1 else 0))) M) : sl_Runs l mX10_isStatement [vR 1 0, vI k] M Q := by
  have hn := hw.n0
  refine eX10_isStatement (vX10_isStatement_0 fun _ _ => kX10_manyOf hL ⟨_, rfl, by omega, ?_⟩)
  rw [b_congr (R := 0 ≤ k ∧ k < P 0 0) (by omega)]
  exact hQ
theorem kX10_isSpan (hw : WF P) (hL : Ld M 0 P) {i j : Int} (hQ : Q (some (vI (if isp P i j then 1 else 0))) M) : sl_Runs l mX10_isSpan [vR 1 0, vI i, vI j] M Q := by
  have no : ¬ isp P i j → Q (some (vI 0)) M := fun z => by rw [if_neg z] at hQ; exact hQ
  refine eX10_isSpan (vX10_isSpan_0 fun _ _ _ => kX10_isStatement hw hL ⟨_, rfl, fun q => ?_, fun q => ?_⟩)
  · refine no fun z => ?_
    rw [if_pos (by unfold isp at z; omega)] at q
    omega
  · have hi : 0 ≤ i ∧ i < P 0 0 := by
      by_cases z : 0 ≤ i ∧ i < P 0 0
      · exact z
      · rw [if_neg z] at q; omega
    refine kX10_isStatement hw hL ⟨_, rfl, fun q2 => ?_, fun q2 => ?_⟩
    · refine no fun z => ?_
      rw [if_pos (by unfold isp at z; omega)] at q2
      omega
    · have hj : 0 ≤ j ∧ j < P 0 0 := by
        by_cases z : 0 ≤ j ∧ j < P 0 0
        · exact z
        · rw [if_neg z] at q2; omega
      refine ⟨fun q3 => no fun z => by unfold isp at z; omega, fun q3 => kX10_areOfBlock hw hL hi hj ⟨_, rfl, ?_⟩⟩
      by_cases z : P 2 i = P 2 j ∧ P 4 i = P 4 j
      · rw [if_pos z]
        rw [if_pos (by unfold isp; omega)] at hQ
        exact hQ
      · rw [if_neg z]
        exact no fun w => z (by unfold isp at w; omega)
theorem kX10_statementIs (hw : WF P) (hL : Ld M 0 P) (hN : LdN M 0 P) (hR : PRf (M 1 1) P) (hS : PRs (M 1 1) P) {k w : Int} (hk : 0 ≤ k ∧ k < P 0 0) (hwd : 0 ≤ w ∧ w ≤ 6) (hQ : Q (some (vI (prp P k w))) M) : sl_Runs l mX10_statementIs [vR 1 0, vI k, vI w] M Q := by
  have hn := hw.n0
  have a := hL.2.2 k hk.1 hk.2
  have b := hN k hk.1 hk.2
  rw [Int.zero_add] at a b
  obtain ⟨a1, a2, a3, a4, a5⟩ := a
  obtain ⟨b1, b2, b3⟩ := b
  have pf := hR k hk.1 hk.2
  obtain ⟨q1, q2, q3⟩ := hS k hk.1 hk.2
  have haf := hw.af hk.1 hk.2
  have loop : ∀ (m : Nat) (x s : Int), x = k - (m : Int) → 0 ≤ x → 0 ≤ s → s ≤ x → s + cb P k m x = cb P k k.toNat 0 → sl_At l mX10_statementIs 5 [(0, vR 1 0), (1, vI k), (2, vI w), (3, vI s), (4, vI x)] [] M Q := by
    intro m
    induction m with
    | zero =>
      intro x s ex x0 s0 s1 hs
      refine vX10_statementIs_5 fun _ _ _ _ _ => ⟨fun _ => ?_, fun q => by omega⟩
      rw [a1, a2, a3, a4, b1, b2]
      unfold prp at hQ
      refine ⟨fun q => ⟨by omega, ?_⟩, fun q => ⟨by omega, ?_⟩, fun q => ⟨by omega, by omega, ?_⟩, fun q => ?_, fun q => ⟨by omega, ?_⟩, fun q => ⟨by omega, fun _ => by omega, ?_⟩, fun q => ⟨by omega, fun z => by have := pf.2.2.1 (by omega); omega, ?_⟩⟩
      · rw [if_pos q] at hQ; exact hQ
      · rw [if_neg (by omega), if_pos q] at hQ; exact hQ
      · rw [if_neg (by omega), if_neg (by omega), if_pos q] at hQ; exact hQ
      · rw [if_neg (by omega), if_neg (by omega), if_neg (by omega), if_pos q] at hQ
        rw [cb, Int.add_zero] at hs
        rw [hs]; exact hQ
      · rw [if_neg (by omega), if_neg (by omega), if_neg (by omega), if_neg (by omega), if_pos q] at hQ; exact hQ
      · rw [if_neg (by omega), if_neg (by omega), if_neg (by omega), if_neg (by omega), if_neg (by omega), if_pos q] at hQ
        by_cases z : P 1 k = 0
        · rw [if_pos z] at hQ; rw [if_neg (fun u => u z), ← ((q2 (by omega)).2.2 z).1]; exact hQ
        · rw [if_neg z] at hQ; rw [if_pos z]; exact hQ
      · rw [if_neg (by omega), if_neg (by omega), if_neg (by omega), if_neg (by omega), if_neg (by omega), if_neg (by omega)] at hQ
        by_cases z : P 1 k = 7
        · rw [if_pos z] at hQ; rw [if_neg (fun u => u z), ← (q3 z).2.2.2.2.2.2]; exact hQ
        · rw [if_neg z] at hQ; rw [if_pos z]; exact hQ
    | succ m ih =>
      intro x s ex x0 s0 s1 hs
      refine vX10_statementIs_5 fun _ _ _ _ _ => ⟨fun q => by omega, fun _ => kX10_areOfBlock hw hL (i := x) (j := k) (by omega) hk ⟨_, rfl, ?_⟩⟩
      rw [cb] at hs
      by_cases z : P 2 x = P 2 k ∧ P 4 x = P 4 k
      · rw [if_pos z] at hs ⊢
        rw [if_pos (show ¬ (1 : Int) = 0 by omega)]
        exact ⟨by omega, fun y ey => ⟨by omega, by rw [ey]; exact ih (x + 1) (s + 1) (by omega) (by omega) (by omega) (by omega) (by omega)⟩⟩
      · rw [if_neg z] at hs ⊢
        rw [if_neg (show ¬ ¬ (0 : Int) = 0 by omega)]
        exact ⟨by omega, fun y ey => ⟨by omega, by rw [ey]; exact ih (x + 1) (s + 0) (by omega) (by omega) (by omega) (by omega) (by omega)⟩⟩
  exact eX10_statementIs (vX10_statementIs_0 fun _ _ _ => loop k.toNat 0 0 (by omega) (by omega) (by omega) (by omega) (by omega))
theorem kX10_signOf (hw : WF P) (hL : Ld M 0 P) (hN : LdN M 0 P) (hR : PRf (M 1 1) P) (hS : PRs (M 1 1) P) {k i : Int} (hk : 0 ≤ k ∧ k < P 0 0) (hi : 0 ≤ i) (hQ : Q (some (vI (sgn P k i))) M) : sl_Runs l mX10_signOf [vR 1 0, vI k, vI i] M Q := by
  have hn := hw.n0
  have a := hL.2.2 k hk.1 hk.2
  have b := hN k hk.1 hk.2
  rw [Int.zero_add] at a b
  have a1 := a.1
  obtain ⟨b1, b2, b3⟩ := b
  have pf := hR k hk.1 hk.2
  obtain ⟨q1, q2, q3⟩ := hS k hk.1 hk.2
  unfold sgn at hQ
  refine eX10_signOf (vX10_signOf_0 fun _ _ hrg => ?_)
  rw [a1, b1, b2]
  refine ⟨by omega, fun q => ?_, fun q => ?_⟩
  · obtain ⟨l1, l2, l3, l4, l5, l6, l7⟩ := q3 q
    have g := (pf.2.2.1 q).1
    refine ⟨by omega, by omega, fun y ey => ?_⟩
    subst ey
    refine ⟨fun z => ⟨fun z2 => ⟨by omega, ?_⟩, fun z2 => ?_⟩, fun z => ?_⟩
    · by_cases u : irem (M 1 1 (950 + P 31 k)) 16 ≤ i - irem (M 1 1 (910 + P 31 k)) 16 - 1
      · rw [if_pos (by omega)] at hQ
        rw [if_pos u]
        exact ⟨by omega, hQ⟩
      · rw [if_neg (by omega)] at hQ
        obtain ⟨e1, e2⟩ := l6 (i - irem (M 1 1 (910 + P 31 k)) 16 - 1) (by omega) (by omega)
        rw [show irem (M 1 1 (910 + P 31 k)) 16 + 1 + (i - irem (M 1 1 (910 + P 31 k)) 16 - 1) = i by omega] at e1
        unfold nib at e1 e2
        rw [if_neg u]
        refine ⟨by omega, ?_⟩
        rw [← e1]; exact hQ
    · rw [if_neg (by omega), show i = irem (M 1 1 (910 + P 31 k)) 16 by omega, l5] at hQ
      exact hQ
    · obtain ⟨e1, e2⟩ := l4 i hi (by omega)
      unfold nib at e1 e2
      rw [if_neg (by omega), e1] at hQ
      exact ⟨by omega, hQ⟩
  · obtain ⟨l1, l2, l3⟩ := q2 q
    rw [← l1]
    refine ⟨by omega, fun _ => by omega, ?_⟩
    by_cases u : P 11 k ≤ i
    · rw [if_pos u] at hQ ⊢; exact hQ
    · rw [if_neg u] at hQ ⊢; rw [← l2 i hi (by omega)]; exact hQ
end K
