/-! The reference: whether a division may fail, and what is told of a method -/
section K
variable {l : Launch} {M : sl_M} {Q : sl_R} {P : Pg}
theorem nd_plain {R : Int → Int} (h : PR R 41 P) : ∀ (m : Nat), (m : Int) ≤ P 0 0 → P 30 (m : Int) = m := by
  intro m
  induction m with
  | zero => intro _; exact h.2.2.1
  | succ m ih =>
    intro hm
    obtain ⟨p1, p2, p3, p4, -⟩ := h.2.2.2.2 (m : Int) (by omega) (by omega)
    rw [if_neg (by omega)] at p2
    rw [if_neg (fun z => z p2), ih (by omega)] at p4
    rw [show ((m + 1 : Nat) : Int) = (m : Int) + 1 by omega]
    exact p4
theorem nd_at {R : Int → Int} (h : PR R 41 P) {k : Int} (hk : 0 ≤ k ∧ k ≤ P 0 0) : P 30 k = k := by
  have := nd_plain h k.toNat (by omega)
  rw [show ((k.toNat : Nat) : Int) = k by omega] at this
  exact this
/-- the symbols of a statement told -/
theorem sy_plain {R : Int → Int} (h : PR R 41 P) (hS : PRs R P) {k : Int} (hk : 0 ≤ k ∧ k < P 0 0) : (0 ≤ P 11 k ∧ P 11 k ≤ 12) ∧ P 11 k = R (241 + k) ∧ ∀ i, 0 ≤ i → i < P 11 k → R ((281 + (12 * k)) + i) = P 12 (16 * k + i) := by
  have e := nd_at h (k := k) (by omega)
  obtain ⟨p1, p2, p3, p4, p5, p6, -⟩ := h.2.2.2.2 k hk.1 hk.2
  rw [if_neg (by omega)] at p2
  obtain ⟨q1, q2, q3⟩ := hS k hk.1 hk.2
  obtain ⟨l1, l2, -⟩ := q2 (p6 p2)
  rw [e] at l1 l2
  exact ⟨q1, l1, fun i i0 i1 => (l2 i i0 i1).symm⟩
theorem kX10_partEnd (hP : PR (M 1 1) 41 P) (hw : WF P) (hS : PRs (M 1 1) P) {k b : Int} (hk : 0 ≤ k ∧ k < P 0 0) (hx : WX (Sy P k) (P 11 k)) (hb : 0 ≤ b ∧ b < P 11 k) (hQ : Q (some (vI (pe (Sy P k) 13 1 b))) M) : sl_Runs l mX10_partEnd [vR 1 0, vI k, vI b] M Q := by
  have hn := hw.n0
  obtain ⟨s2, s1, s4⟩ := sy_plain hP hS hk
  have loop : ∀ (m : Nat) (i w : Int), w = Wt (Sy P k) i.toNat - Wt (Sy P k) b.toNat + 1 → b ≤ i → i ≤ P 11 k → (P 11 k - i).toNat < m → w ≤ 15 → -15 ≤ w → w ≤ 1 + (i - b) → Q (some (vI (pe (Sy P k) m w i))) M → sl_At l mX10_partEnd 5 [(0, vR 1 0), (1, vI k), (3, vI w), (4, vI i)] [] M Q := by
    intro m
    induction m with
    | zero => intro i w _ _ _ h; omega
    | succ m ih =>
      intro i w ew bi il lm w1 w2 w3 hQ
      rw [pe] at hQ
      refine vX10_partEnd_5 fun _ _ _ _ => ⟨fun q => ?_, fun q => ?_⟩
      · rw [if_pos q] at hQ; exact hQ
      · rw [if_neg q] at hQ
        have il : i < P 11 k := by
          by_cases e : i = P 11 k
          · have z := hx.2
            have y := hx.1 b.toNat (by omega)
            rw [e] at ew
            omega
          · omega
        rw [s4 i (by omega) il]
        have hs : Wt (Sy P k) (i + 1).toNat = Wt (Sy P k) i.toNat + (if ¬ sp_op (P 12 (16 * k + i)) then -1 else 1) := Wt_step (Sy P k) (i := i) (by omega)
        have d : (if ¬ sp_op (P 12 (16 * k + i)) then (-1 : Int) else 1) = -1 ∨ (if ¬ sp_op (P 12 (16 * k + i)) then (-1 : Int) else 1) = 1 := by split <;> simp
        refine ⟨by omega, by omega, fun y ey => ⟨by omega, ?_⟩⟩
        refine ih (i + 1) y (by omega) (by omega) (by omega) (by omega) (by omega) (by omega) (by omega) ?_
        rw [ey]; exact hQ
  exact eX10_partEnd (vX10_partEnd_0 fun _ _ _ => loop 13 b 1 (by omega) (by omega) (by omega) (by omega) (by omega) (by omega) (by omega) hQ)
theorem kX10_endOf {m : Int} (hm : 0 ≤ m ∧ m < 3) (hl : 0 ≤ M 1 1 (765 + m) ∧ M 1 1 (765 + m) < 40) (hQ : Q (some (vI (M 1 1 (41 + M 1 1 (765 + m))))) M) : sl_Runs l mX10_endOf [vR 1 0, vI m] M Q := eX10_endOf (vX10_endOf_0 fun _ _ => ⟨by omega, by omega, hQ⟩)
theorem kX10_mayFail (hP : PR (M 1 1) 41 P) (hw : WF P) (hS : PRs (M 1 1) P) {m f e : Int} (hm : 0 ≤ m ∧ m < 3) (hl : 0 ≤ M 1 1 (765 + m) ∧ M 1 1 (765 + m) < 40) (hf : M 1 1 (762 + m) = f) (he : M 1 1 (41 + M 1 1 (765 + m)) = e) (hfe : 0 ≤ f ∧ f ≤ e ∧ e ≤ P 0 0) (hE : EX P f e) (hQ : Q (some (vI (cif (mf P f e) 1 0))) M) : sl_Runs l mX10_mayFail [vR 1 0, vI m] M Q := by
  have hn := hw.n0
  have loop : ∀ (n : Nat) (k a : Int), k = e - (n : Int) → f ≤ k → (a = 0 ∨ a = 1) → (a = 1 ↔ mf P f k) → sl_At l mX10_mayFail 13 [(0, vR 1 0), (1, vI m), (2, vI a), (3, vI k)] [] M Q := by
    intro n
    induction n with
    | zero =>
      intro k a ek k0 ha hno
      have ek : k = e := by omega
      subst ek
      refine vX10_mayFail_13 fun _ _ _ _ => kX10_endOf hm hl ⟨_, rfl, fun _ => ⟨ha, ?_⟩, fun q => by omega⟩
      rcases ha with a0 | a1
      · rw [cif0 (fun z => by have := hno.mpr z; omega)] at hQ; rw [a0]; exact hQ
      · rw [cif1 (hno.mp a1)] at hQ; rw [a1]; exact hQ
    | succ n ih =>
      intro k a ek k0 ha hno
      have kn : k < P 0 0 := by omega
      obtain ⟨s2, s1, s4⟩ := sy_plain hP hS (k := k) (by omega)
      have hX := (hE k k0 (by omega)).2
      have inner : ∀ (n : Nat) (i a : Int), i = P 11 k - (n : Int) → 0 ≤ i → (a = 0 ∨ a = 1) → (a = 1 ↔ (mf P f k ∨ ∃ x, 0 ≤ x ∧ x < i ∧ mfk P k x)) → sl_At l mX10_mayFail 25 [(0, vR 1 0), (1, vI m), (2, vI a), (3, vI k), (4, vI i)] [] M Q := by
        intro n
        induction n with
        | zero =>
          intro i a ei i0 ha hni
          refine vX10_mayFail_25 fun _ _ _ _ _ => ?_
          rw [← s1]
          refine ⟨by omega, fun _ => ⟨by omega, ih (k + 1) a (by omega) (by omega) ha (hni.trans ⟨fun z => ?_, fun z => ?_⟩)⟩, fun q => by omega⟩
          · rcases z with ⟨x, x0, x1, hx⟩ | ⟨x, x0, x1, hx⟩
            · exact ⟨x, x0, by omega, hx⟩
            · exact ⟨k, k0, by omega, x, x0, by omega, hx⟩
          · obtain ⟨x, x0, x1, hx⟩ := z
            by_cases e : x = k
            · subst e
              obtain ⟨y, y0, y1, hy⟩ := hx
              exact Or.inr ⟨y, y0, by omega, hy⟩
            · exact Or.inl ⟨x, x0, by omega, hx⟩
        | succ n ih2 =>
          intro i a ei i0 ha hni
          have hx : WX (Sy P k) (P 11 k) := by
            rcases hX with z | z
            · omega
            · exact z
          have ext : ∀ a', (a' = 0 ∨ a' = 1) → (a' = 1 ↔ (a = 1 ∨ mfk P k i)) → sl_At l mX10_mayFail 25 [(0, vR 1 0), (1, vI m), (2, vI a'), (3, vI k), (4, vI (i + 1))] [] M Q := by
            intro a' h1 h2
            refine ih2 (i + 1) a' (by omega) (by omega) h1 (h2.trans ⟨fun z => ?_, fun z => ?_⟩)
            · rcases z with z | z
              · rcases hni.mp z with u | ⟨x, x0, x1, hx⟩
                · exact Or.inl u
                · exact Or.inr ⟨x, x0, by omega, hx⟩
              · exact Or.inr ⟨i, i0, by omega, z⟩
            · rcases z with u | ⟨x, x0, x1, hx⟩
              · exact Or.inl (hni.mpr (Or.inl u))
              · by_cases e : x = i
                · subst e; exact Or.inr hx
                · exact Or.inl (hni.mpr (Or.inr ⟨x, x0, by omega, hx⟩))
          have at76 : a = 0 → (P 12 (16 * k + i) = 47 ∨ P 12 (16 * k + i) = 37) → sl_At l mX10_mayFail 76 [(0, vR 1 0), (1, vI m), (3, vI k), (4, vI i)] [] M Q := by
            intro a0 ho
            obtain ⟨o1, o2, o3⟩ := op_next hx (i := i) (by omega) ho s2.2
            refine vX10_mayFail_76 fun _ _ _ _ => ⟨by omega, kX10_partEnd hP hw hS (by omega) hx (by omega) ⟨_, rfl, by omega, fun y ey => ?_⟩⟩
            rw [s4 _ (by omega) o3] at ey
            refine ext y (by rw [ey]; split <;> simp) ?_
            by_cases u : 49 ≤ P 12 (16 * k + pe (Sy P k) 13 1 (i + 1)) ∧ P 12 (16 * k + pe (Sy P k) 13 1 (i + 1)) ≤ 57
            · rw [if_neg (fun z => z u)] at ey
              exact ⟨fun z => by omega, fun z => by rcases z with z | z; exact absurd z (by omega); exact (z.2 u).elim⟩
            · rw [if_pos u] at ey
              exact ⟨fun _ => Or.inr ⟨ho, u⟩, fun _ => ey⟩
          refine vX10_mayFail_25 fun _ _ _ _ _ => ?_
          rw [← s1, s4 i i0 (by omega)]
          refine ⟨by omega, fun q => by omega, fun _ => ⟨by omega, fun q => ⟨by omega, ?_⟩, fun q => ⟨fun q2 => at76 (by omega) (Or.inl q2), fun q2 => ⟨fun q3 => ⟨by omega, ?_⟩, fun q3 => at76 (by omega) (Or.inr (by omega))⟩⟩⟩⟩
          · exact ext 1 (Or.inr rfl) ⟨fun _ => Or.inl (by omega), fun _ => rfl⟩
          · refine ext 0 (Or.inl rfl) ⟨fun z => by omega, fun z => ?_⟩
            rcases z with z | z
            · exact absurd z (by omega)
            · rcases z.1 with u | u
              · exact absurd u q2
              · exact absurd u q3
      refine vX10_mayFail_13 fun _ _ _ _ => kX10_endOf hm hl ⟨_, rfl, fun q => by omega, fun _ => ?_⟩
      refine inner (P 11 k).toNat 0 a (by omega) (by omega) ha (hno.trans ⟨Or.inl, fun z => ?_⟩)
      rcases z with z | ⟨x, x0, x1, -⟩
      · exact z
      · omega
  refine eX10_mayFail (vX10_mayFail_0 fun _ _ => ?_)
  rw [hf]
  refine ⟨by omega, loop (e - f).toNat f 0 (by omega) (by omega) (Or.inl rfl) ⟨fun z => by omega, fun ⟨x, x0, x1, _⟩ => by omega⟩⟩
end K
