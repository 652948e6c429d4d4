/-! What the class tells of a program -/
/-- the symbols and names of the class's code -/
def CdS (M : sl_M) (c : Nat) (P : Pg) : Prop := ∀ k, 0 ≤ k → k < P 0 0 → M c 9 k = P 11 k ∧ (0 ≤ P 11 k ∧ P 11 k ≤ 12) ∧ (0 ≤ M c 8 k ∧ M c 8 k + P 11 k ≤ 160) ∧ (∀ i, 0 ≤ i → i < P 11 k → M c 11 (M c 8 k + i) = P 12 (16 * k + i)) ∧ (P 1 k = 0 → M c 6 k = P 6 k ∧ 0 ≤ P 6 k ∧ P 6 k < 8) ∧ (P 1 k = 7 → M c 6 k = P 6 k) ∧ M c 5 k = P 5 k ∧ M c 10 k = P 10 k ∧ M c 7 k = P 7 k
def sgn (P : Pg) (k i : Int) : Int := if P 11 k ≤ i then -1 else P 12 (16 * k + i)
def fol (P : Pg) (k : Int) : Int := if P 3 k < P 0 0 ∧ P 2 (P 3 k) = P 2 k ∧ P 4 (P 3 k) = P 4 k then P 3 k else -1
/-- how many of n from x on stand in the block of k -/
def cb (P : Pg) (k : Int) : Nat → Int → Int
  | 0, _ => 0
  | n + 1, x => (if P 2 x = P 2 k ∧ P 4 x = P 4 k then 1 else 0) + cb P k n (x + 1)
def prp (P : Pg) (k w : Int) : Int := if w = 0 then P 1 k else if w = 1 then P 2 k else if w = 2 then P 3 k - k - 1 else if w = 3 then cb P k k.toNat 0 else if w = 4 then P 4 k else if w = 5 then (if P 1 k = 0 then P 6 k else -1) else (if P 1 k = 7 then P 6 k else -1)
theorem cb_rg (P : Pg) (k : Int) : ∀ (n : Nat) (x : Int), 0 ≤ cb P k n x ∧ cb P k n x ≤ n := by
  intro n
  induction n with
  | zero => intro x; exact ⟨Int.le_refl _, Int.le_refl _⟩
  | succ n ih =>
    intro x
    have := ih (x + 1)
    rw [cb]
    split <;> omega
theorem cb_app (P : Pg) (k : Int) (b : Nat) : ∀ (a : Nat) (x : Int), cb P k (a + b) x = cb P k a x + cb P k b (x + a) := by
  intro a
  induction a with
  | zero => intro x; simp [cb]
  | succ a ih =>
    intro x
    rw [show a + 1 + b = (a + b) + 1 by omega, cb, ih, cb, show x + 1 + (a : Int) = x + ((a + 1 : Nat) : Int) by omega]
    omega
theorem cb_none {P : Pg} {k : Int} : ∀ (n : Nat) (x : Int), (∀ y, x ≤ y → y < x + n → P 2 y ≠ P 2 k) → cb P k n x = 0 := by
  intro n
  induction n with
  | zero => intro x _; rfl
  | succ n ih =>
    intro x h
    rw [cb, if_neg (fun z => h x (by omega) (by omega) z.1), ih (x + 1) (fun y h1 h2 => h y (by omega) (by omega))]
    rfl
section K
variable {l : Launch} {M : sl_M} {Q : sl_R} {P : Pg} {c : Nat}
theorem kX0_symbol (hc : sl_cls c = 0) (hw : WF P) (hS : CdS M c P) {k i : Int} (hk : 0 ≤ k ∧ k < P 0 0) (hi : 0 ≤ i) (hQ : Q (some (vI (sgn P k i))) M) : sl_Runs l mX0_symbol [vR c 0, vI k, vI i] M Q := by
  have hn := hw.n0
  obtain ⟨s1, s2, s3, s4, -⟩ := hS k hk.1 hk.2
  refine eX0_symbol (vX0_symbol_0 hc fun _ _ _ => ?_)
  rw [s1]
  refine ⟨by omega, fun q => by omega, ?_⟩
  unfold sgn at hQ
  by_cases q : P 11 k ≤ i
  · rw [if_pos q] at hQ ⊢; exact hQ
  · rw [if_neg q] at hQ ⊢; rw [s4 i hi (by omega)]; exact hQ
theorem kX0_following (hc : sl_cls c = 0) (hw : WF P) (hC : Cd M c P) {k : Int} (hk : 0 ≤ k ∧ k < P 0 0) (hQ : Q (some (vI (fol P k))) M) : sl_Runs l mX0_following [vR c 0, vI k] M Q := by
  have hn := hw.n0
  have haf := hw.af hk.1 hk.2
  obtain ⟨a1, a2, a3, a4⟩ := hC.2 k hk.1 hk.2
  refine eX0_following (vX0_following_0 hc fun _ _ => ⟨by omega, by omega, fun y ey => ?_⟩)
  have ey : y = P 3 k := by omega
  subst ey
  rw [hC.1, a2, a4]
  refine ⟨fun q => by omega, ?_⟩
  unfold fol at hQ
  by_cases q : P 3 k < P 0 0
  · obtain ⟨b1, b2, b3, b4⟩ := hC.2 (P 3 k) (by omega) q
    rw [if_neg (by omega), b2, b4]
    by_cases q2 : P 2 (P 3 k) = P 2 k
    · by_cases q3 : P 4 (P 3 k) = P 4 k
      · rw [if_pos ⟨q, q2, q3⟩] at hQ
        rw [if_neg (fun z => z q2), if_neg (fun z => z q3)]; exact hQ
      · rw [if_neg (fun z => q3 z.2.2)] at hQ
        rw [if_neg (fun z => z q2), if_pos q3]; exact hQ
    · rw [if_neg (fun z => q2 z.2.1)] at hQ
      rw [if_pos q2]; exact hQ
  · rw [if_neg (fun z => q z.1)] at hQ
    rw [if_pos (by omega)]; exact hQ
theorem kX0_position (hc : sl_cls c = 0) (hw : WF P) (hC : Cd M c P) {k : Int} (hk : 0 ≤ k ∧ k < P 0 0) (hQ : Q (some (vI (cb P k k.toNat 0))) M) : sl_Runs l mX0_position [vR c 0, vI k] M Q := by
  have hn := hw.n0
  have hpr := hw.pr hk.1 hk.2
  obtain ⟨a1, a2, a3, a4⟩ := hC.2 k hk.1 hk.2
  have loop : ∀ (m : Nat) (x a : Int), (k - x).toNat ≤ m → P 2 k < x → 0 ≤ x → x ≤ k → (x = k ∨ P 2 x = P 2 k) → 0 ≤ a → a ≤ x → a + cb P k (k - x).toNat x = cb P k k.toNat 0 → sl_At l mX0_position 11 [(0, vR c 0), (1, vI k), (2, vI a), (3, vI x)] [] M Q := by
    intro m
    induction m with
    | zero =>
      intro x a h1 h2 h3 h4 h5 h6 h7 h8
      rw [show (k - x).toNat = 0 by omega, cb, Int.add_zero] at h8
      refine vX0_position_11 hc fun _ _ _ _ => ⟨fun _ => by rw [h8]; exact hQ, fun q => by omega⟩
    | succ m ih =>
      intro x a h1 h2 h3 h4 h5 h6 h7 h8
      refine vX0_position_11 hc fun _ _ _ _ => ⟨fun q => ?_, fun q => ?_⟩
      · rw [show (k - x).toNat = 0 by omega, cb, Int.add_zero] at h8
        rw [h8]; exact hQ
      · obtain ⟨b1, b2, b3, b4⟩ := hC.2 x h3 (by omega)
        have hp : P 2 x = P 2 k := by omega
        have haf := hw.af h3 (k := x) (by omega)
        have hle : P 3 x ≤ k := hw.bt hk.1 hk.2 h3 h2 (by omega)
        have h9 : cb P k (k - x).toNat x = (if P 4 x = P 4 k then 1 else 0) + cb P k (k - P 3 x).toNat (P 3 x) := by
          rw [show (k - x).toNat = ((P 3 x - x - 1).toNat + (k - P 3 x).toNat) + 1 by omega, cb, cb_app, cb_none (P 3 x - x - 1).toNat (x + 1) (fun y y1 y2 => ?_), show x + 1 + ((P 3 x - x - 1).toNat : Int) = P 3 x by omega]
          · by_cases z : P 4 x = P 4 k
            · rw [if_pos ⟨hp, z⟩, if_pos z]; omega
            · rw [if_neg (fun w => z w.2), if_neg z]; omega
          · have := hw.in1 h3 (k := y) (by omega) (by omega) (by omega)
            omega
        have hnx : P 3 x = k ∨ P 2 (P 3 x) = P 2 k := by
          by_cases z : P 3 x = k
          · exact Or.inl z
          · refine Or.inr ?_
            have p1 := hw.pr (k := P 3 x) (by omega) (by omega)
            -- its parent is not inside k's block
            rcases Int.lt_trichotomy (P 2 (P 3 x)) (P 2 k) with w | w | w
            · exfalso
              by_cases pk : P 2 k = -1
              · omega
              · have := hw.in1 (j := P 2 k) (k := P 3 x) (by omega) (by omega) (by
                  have u := hw.ins (j := P 2 k) (k := k)
                  have := hw.af (k := P 2 k) (by omega) (by omega)
                  have u2 := hw.up hk.1 hk.2 (by omega)
                  have u3 := hw.af hk.1 hk.2
                  omega) (by omega)
                omega
            · exact w
            · exfalso
              have u := hw.af (k := P 2 (P 3 x)) (by omega) (by omega)
              have u2 := hw.up (k := P 3 x) (by omega) (by omega) (by omega)
              have u3 := hw.af (k := P 3 x) (by omega) (by omega)
              rcases Int.lt_trichotomy (P 2 (P 3 x)) x with v | v | v
              · have := hw.in1 (j := P 2 (P 3 x)) (k := x) (by omega) v (by omega) (by omega)
                omega
              · rw [v] at u2; omega
              · have := hw.in2 h3 40 (P 2 (P 3 x)) (by omega) v (by omega) (by omega)
                omega
        rw [b4, a4]
        refine ⟨by omega, by omega, fun z => ⟨by omega, fun y ey => ?_⟩, fun z => ⟨by omega, by omega, fun y ey => ?_⟩⟩
        · have ey : y = P 3 x := by omega
          subst ey
          rw [if_neg z] at h9
          exact ih (P 3 x) a (by omega) (by omega) (by omega) (by omega) hnx h6 (by omega) (by omega)
        · have ey : y = P 3 x := by omega
          subst ey
          rw [if_pos (by omega)] at h9
          exact ih (P 3 x) (a + 1) (by omega) (by omega) (by omega) (by omega) hnx (by omega) (by omega) (by omega)
  refine eX0_position (vX0_position_0 hc fun _ _ => ?_)
  rw [a2]
  refine ⟨by omega, by omega, fun y ey => ?_⟩
  subst ey
  refine loop 40 (P 2 k + 1) 0 (by omega) (by omega) (by omega) (by omega) ?_ (by omega) (by omega) ?_
  · by_cases z : P 2 k + 1 = k
    · exact Or.inl z
    · refine Or.inr ?_
      have p1 := hw.pr (k := P 2 k + 1) (by omega) (by omega)
      by_cases pk : P 2 k = -1
      · omega
      · have u2 := hw.up hk.1 hk.2 (by omega)
        have u3 := hw.af hk.1 hk.2
        have := hw.in1 (j := P 2 k) (k := P 2 k + 1) (by omega) (by omega) (by omega) (by omega)
        omega
  · rw [show k.toNat = (P 2 k + 1).toNat + (k - (P 2 k + 1)).toNat by omega, cb_app, cb_none (P 2 k + 1).toNat 0 (fun y y1 y2 => ?_), show (0 : Int) + ((P 2 k + 1).toNat : Int) = P 2 k + 1 by omega]
    have := hw.pr (k := y) (by omega) (by omega)
    omega
theorem kX0_property (hc : sl_cls c = 0) (hw : WF P) (hC : Cd M c P) (hS : CdS M c P) {k w : Int} (hk : 0 ≤ k ∧ k < P 0 0) (hwd : 0 ≤ w ∧ w ≤ 6) (hQ : Q (some (vI (prp P k w))) M) : sl_Runs l mX0_property [vR c 0, vI k, vI w] M Q := by
  have hn := hw.n0
  obtain ⟨a1, a2, a3, a4⟩ := hC.2 k hk.1 hk.2
  obtain ⟨s1, s2, s3, s4, s5, s6, -⟩ := hS k hk.1 hk.2
  refine eX0_property (vX0_property_0 hc fun _ _ _ => ?_)
  rw [a1, a2, a4]
  unfold prp at hQ
  refine ⟨fun q => ⟨by omega, ?_⟩, fun q => ⟨by omega, ?_⟩, fun q => ⟨by omega, ?_⟩, fun q => ?_, fun q => ⟨by omega, ?_⟩, fun q => ⟨by omega, ?_⟩, fun q => ⟨by omega, ?_⟩⟩
  · rw [if_pos q] at hQ; exact hQ
  · rw [if_neg (by omega), if_pos q] at hQ; exact hQ
  · rw [if_neg (by omega), if_neg (by omega), if_pos q] at hQ
    rw [show M c 3 k = P 3 k - k - 1 by omega]; exact hQ
  · rw [if_neg (by omega), if_neg (by omega), if_neg (by omega), if_pos q] at hQ
    exact kX0_position hc hw hC hk ⟨_, rfl, hQ⟩
  · rw [if_neg (by omega), if_neg (by omega), if_neg (by omega), if_neg (by omega), if_pos q] at hQ; exact hQ
  · rw [if_neg (by omega), if_neg (by omega), if_neg (by omega), if_neg (by omega), if_neg (by omega), if_pos q] at hQ
    by_cases z : P 1 k = 0
    · rw [if_pos z] at hQ; rw [if_neg (fun u => u z), (s5 z).1]; exact hQ
    · rw [if_neg z] at hQ; rw [if_pos z]; exact hQ
  · rw [if_neg (by omega), if_neg (by omega), if_neg (by omega), if_neg (by omega), if_neg (by omega), if_neg (by omega)] at hQ
    by_cases z : P 1 k = 7
    · rw [if_pos z] at hQ; rw [if_neg (fun u => u z), s6 z]; exact hQ
    · rw [if_neg z] at hQ; rw [if_pos z]; exact hQ
end K
