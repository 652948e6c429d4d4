/-! The kind of a statement by its first byte; blocks are opened -/
def kdA (c : Int) : Int := if c = 33 then 3 else if c = 35 then 1 else if c = 42 then 6 else if c = 60 then 2 else if c = 63 then 5 else if c = 94 then 4 else if 97 ≤ c ∧ c ≤ 104 then 0 else -1
section K
variable {l : Launch} {M : sl_M} {Q : sl_R}
theorem kdA_e {c : Int} : (c = 33 → kdA c = 3) ∧ (c = 35 → kdA c = 1) ∧ (c = 42 → kdA c = 6) ∧ (c = 60 → kdA c = 2) ∧ (c = 63 → kdA c = 5) ∧ (c = 94 → kdA c = 4) := by
  refine ⟨?_, ?_, ?_, ?_, ?_, ?_⟩ <;> intro h <;> subst h <;> rfl
theorem kdA_n {c : Int} (h : ¬ (c = 33) ∧ ¬ (c = 35) ∧ ¬ (c = 42) ∧ ¬ (c = 60) ∧ ¬ (c = 63) ∧ ¬ (c = 94)) : kdA c = (if 97 ≤ c ∧ c ≤ 104 then 0 else -1) := by
  obtain ⟨h1, h2, h3, h4, h5, h6⟩ := h
  unfold kdA
  rw [if_neg h1, if_neg h2, if_neg h3, if_neg h4, if_neg h5, if_neg h6]
theorem kdA_rng (c : Int) : -1 ≤ kdA c ∧ kdA c ≤ 6 := by
  unfold kdA
  repeat' split
  all_goals omega
theorem kX10_kindOf {c : Int} (hQ : Q (some (vI (kdA c))) M) : sl_Runs l mX10_kindOf [vI c] M Q := by
  obtain ⟨h1, h2, h3, h4, h5, h6⟩ := kdA_e (c := c)
  refine eX10_kindOf (vX10_kindOf_0 fun _ _ => ⟨fun z => ?_, fun z => ?_, fun z => ?_, fun z => ?_, fun z => ?_, fun z => ?_, fun z => ?_⟩)
  · rw [h1 z] at hQ; exact hQ
  · rw [h2 z] at hQ; exact hQ
  · rw [h3 z] at hQ; exact hQ
  · rw [h4 z] at hQ; exact hQ
  · rw [h5 z] at hQ; exact hQ
  · rw [h6 z] at hQ; exact hQ
  · rw [kdA_n z] at hQ
    have e : (if ¬ (97 ≤ c ∧ c ≤ 104) then (-1 : Int) else 0) = (if 97 ≤ c ∧ c ≤ 104 then 0 else -1) := by
      by_cases q : 97 ≤ c ∧ c ≤ 104
      · rw [if_neg (fun y => y q), if_pos q]
      · rw [if_pos q, if_neg q]
    rw [e]; exact hQ
theorem kX4_kindOf {c : Int} (hQ : Q (some (vI (kdA c))) M) : sl_Runs l mX4_kindOf [vI c] M Q := by
  obtain ⟨h1, h2, h3, h4, h5, h6⟩ := kdA_e (c := c)
  refine eX4_kindOf (vX4_kindOf_0 fun _ _ => ⟨fun z => ?_, fun z => ?_, fun z => ?_, fun z => ?_, fun z => ?_, fun z => ?_, fun z => ?_⟩)
  · rw [h1 z] at hQ; exact hQ
  · rw [h2 z] at hQ; exact hQ
  · rw [h3 z] at hQ; exact hQ
  · rw [h4 z] at hQ; exact hQ
  · rw [h5 z] at hQ; exact hQ
  · rw [h6 z] at hQ; exact hQ
  · rw [kdA_n z] at hQ
    have e : (if sp_var c ≠ (-1) then (0 : Int) else -1) = (if 97 ≤ c ∧ c ≤ 104 then 0 else -1) := by
      unfold sp_var
      by_cases q : 97 ≤ c ∧ c ≤ 104
      · rw [if_pos q, if_pos (show 97 ≤ c ∧ c < 105 by omega), if_pos (by omega)]
      · rw [if_neg q, if_neg (show ¬ (97 ≤ c ∧ c < 105) by omega), if_neg (fun y => y rfl)]
    rw [e]; exact hQ
theorem kX10_opens (h : 0 ≤ M 1 0 12 ∧ M 1 0 12 < 41) {k s : Int} (hQ : ∀ N, (∀ (o i : Nat) (j : Int), ¬ (o = 1 ∧ ((i = 0 ∧ j = 12) ∨ ((i = 14 ∨ i = 15) ∧ j = M 1 0 12))) → N o i j = M o i j) → N 1 0 12 = M 1 0 12 + 1 → N 1 14 (M 1 0 12) = k → N 1 15 (M 1 0 12) = s → Q none N) : sl_Runs l mX10_opens [vR 1 0, vI k, vI s] M Q := by
  refine eX10_opens (vX10_opens_0 fun _ _ _ => ⟨h, fun M2 e2 => ?_⟩)
  have a : M2 1 0 12 = M 1 0 12 := by rw [e2]; simp only [sl_wr]; rw [if_neg (by omega)]
  rw [a]
  refine ⟨h, fun M4 e4' => ?_⟩
  have b : M4 1 0 12 = M 1 0 12 := by rw [e4']; simp only [sl_wr]; rw [if_neg (by omega)]; exact a
  rw [b]
  refine ⟨by omega, fun M6 e6 => hQ M6 (fun o i j q => ?_) (by rw [e6]; exact sl_wr_s) ?_ ?_⟩
  · rw [e6, e4', e2]; simp only [sl_wr]; rw [if_neg (by omega), if_neg (by omega), if_neg (by omega)]
  · rw [e6, e4', e2]; simp [sl_wr]
  · rw [e6, e4']; simp [sl_wr]
/-- a loop is open -/
theorem kX10_isInLoop (h : 0 ≤ M 1 0 12 ∧ M 1 0 12 ≤ 40) (hs : ∀ a, 0 ≤ a → a < M 1 0 12 → 0 ≤ M 1 14 a ∧ M 1 14 a < 40) (hQ : Q (some (vI (cif (∃ a, 0 ≤ a ∧ a < M 1 0 12 ∧ M 1 12 (1 + M 1 14 a) = 6) 1 0))) M) : sl_Runs l mX10_isInLoop [vR 1 0] M Q := by
  have loop : ∀ (n : Nat) (x1 x2 : Int), x2 + (n : Int) = M 1 0 12 → 0 ≤ x2 → x1 = cif (∃ a, 0 ≤ a ∧ a < x2 ∧ M 1 12 (1 + M 1 14 a) = 6) 1 0 → sl_At l mX10_isInLoop 4 [(0, vR 1 0), (1, vI x1), (2, vI x2)] [] M Q := by
    intro n
    induction n with
    | zero =>
      intro x1 x2 hx x0 e
      have ex : x2 = M 1 0 12 := by omega
      rw [ex] at e
      refine vX10_isInLoop_4 fun _ _ _ => ⟨fun _ => ⟨?_, by rw [e]; exact hQ⟩, fun q => by omega⟩
      by_cases c : ∃ a, 0 ≤ a ∧ a < M 1 0 12 ∧ M 1 12 (1 + M 1 14 a) = 6
      · rw [e, cif1 c]; exact Or.inr rfl
      · rw [e, cif0 c]; exact Or.inl rfl
    | succ n ih =>
      intro x1 x2 hx x0 e
      have s := hs x2 x0 (by omega)
      refine vX10_isInLoop_4 fun _ _ _ => ⟨fun q => by omega, fun _ => ⟨fun _ => ⟨by omega, by omega⟩, fun y ey => ⟨by omega, ih y (x2 + 1) (by omega) (by omega) ?_⟩⟩⟩
      rw [ey]
      by_cases c : ∃ a, 0 ≤ a ∧ a < x2 ∧ M 1 12 (1 + M 1 14 a) = 6
      · rw [cif1 c] at e
        obtain ⟨a, a0, a1, a2⟩ := c
        rw [if_pos (Or.inl (by omega)), cif1 ⟨a, a0, by omega, a2⟩]
      · rw [cif0 c] at e
        by_cases c2 : M 1 12 (1 + M 1 14 x2) = 6
        · rw [if_pos (Or.inr (fun z => z c2)), cif1 ⟨x2, x0, by omega, c2⟩]
        · rw [if_neg (fun z => z.elim (fun z => z e) (fun z => z c2)), cif0]
          rintro ⟨a, a0, a1, a2⟩
          by_cases ea : a = x2
          · subst ea; exact c2 a2
          · exact c ⟨a, a0, by omega, a2⟩
  refine eX10_isInLoop (vX10_isInLoop_0 fun _ => loop (M 1 0 12).toNat 0 0 (by omega) (by omega) ?_)
  rw [cif0]
  rintro ⟨a, a0, a1, a2⟩; omega
end K
