/-! Whether a loop is open, in the class -/
section K
variable {l : Launch} {M : sl_M} {Q : sl_R} {P : Pg} {c : Nat}
theorem kX4_inLoop (hc : sl_cls c = 0) (hw : WF P) (hC : Cd M c P) (h2 : M 2 0 2 = (c : Int) + 1) (h3 : M 2 0 3 = -1 ∨ (0 ≤ M 2 0 3 ∧ M 2 0 3 < P 0 0)) (hQ : Q (some (vI (if M 2 0 3 ≠ -1 ∧ (P 1 (M 2 0 3) = 6 ∨ la P 0 40 (P 2 (M 2 0 3)) ≠ -1) then 1 else 0))) M) : sl_Runs l mX4_inLoop [vR 2 0] M Q := by
  have hn := hw.n0
  refine eX4_inLoop (vX4_inLoop_0 fun _ => ⟨fun z => ?_, fun z => ⟨c, ⟨h2, hc⟩, by omega, ?_⟩⟩)
  · rw [if_neg (fun q => q.1 z)] at hQ; exact hQ
  · rw [(hC.2 (M 2 0 3) (by omega) (by omega)).1]
    refine ⟨fun q => ?_, fun q => kX0_loopAround (k := M 2 0 3) hc hw hC (by omega) ⟨_, rfl, ?_⟩⟩
    · rw [if_pos ⟨z, Or.inl q⟩] at hQ; exact hQ
    · by_cases y : la P 0 40 (P 2 (M 2 0 3)) = -1
      · rw [if_neg (fun w => w.2.elim q (fun v => v y))] at hQ
        show Q (some (vI (if ¬ (la P 0 40 (P 2 (M 2 0 3)) = -1) then 1 else 0))) M
        rw [if_neg (fun w => w y)]; exact hQ
      · rw [if_pos ⟨z, Or.inr y⟩] at hQ
        show Q (some (vI (if ¬ (la P 0 40 (P 2 (M 2 0 3)) = -1) then 1 else 0))) M
        rw [if_pos y]; exact hQ
end K
theorem la_grw {P P2 : Pg} {u s x f : Int} (h : WF P) (g : Grw P P2 u s x) : ∀ (m : Nat) (a : Int), a < P 0 0 → la P2 f m a = la P f m a := by
  intro m
  induction m with
  | zero => intro a _; rfl
  | succ m ih =>
    intro a ha
    rw [la, la]
    by_cases c : a < f ∨ a < 0
    · rw [if_pos c, if_pos c]
    · rw [if_neg c, if_neg c]
      obtain ⟨a1, a2, -⟩ := g.2.2 a (by omega) ha
      rw [a1, a2]
      have := h.pr (k := a) (by omega) ha
      rw [ih (P 2 a) (by omega)]
