/-! What the last run left -/
def qRan (v s p : Int) (pr : Int → Int) (st w k : Int) : Int × Int := if (0 ≤ w ∧ w ≤ 4) ∧ 0 ≤ k then (if w = 0 then v else if w = 1 then s else if w = 2 then p else if w = 3 then (if p ≤ k then 0 else pr k) else st, 0) else (-2, 1)
section K
variable {l : Launch} {M : sl_M} {Q : sl_R} {P : Pg}
theorem kX10_ran (ht : Tl M) (hp : M 1 0 56 ≤ 400) {w k : Int} (hQ : ∀ N, FR M N (qRan (M 1 0 54) (M 1 0 55) (M 1 0 56) (M 1 58) (M 1 0 58) w k).2 → Q (some (vI (qRan (M 1 0 54) (M 1 0 55) (M 1 0 56) (M 1 58) (M 1 0 58) w k).1)) N) : sl_Runs l mX10_ran [vR 1 0, vI w, vI k] M Q := by
  have bad : ¬ ((0 ≤ w ∧ w ≤ 4) ∧ 0 ≤ k) → sl_RI l mX10_bad [vR 1 0] M (fun y M => Q (some (vI y)) M) := fun z => kX10_bad ht (fun N f => ⟨_, rfl, ask hQ (if_neg z) f⟩)
  have f0 : FR M M 0 := FQ.fr (fun _ _ _ _ => rfl)
  refine eX10_ran (vX10_ran_0 fun _ _ _ => ⟨fun q => bad (fun z => q z.1), fun q => ⟨fun q2 => ?_, fun q2 => bad (by omega)⟩⟩)
  have key : ∀ a, (if w = 0 then M 1 0 54 else if w = 1 then M 1 0 55 else if w = 2 then M 1 0 56 else if w = 3 then (if M 1 0 56 ≤ k then 0 else M 1 58 k) else M 1 0 58) = a → Q (some (vI a)) M := by
    intro a ea
    refine ask hQ ?_ f0
    unfold qRan
    rw [if_pos ⟨q, q2⟩, ea]
  exact ⟨fun z => key _ (by rw [if_pos z]), fun z => key _ (by rw [if_neg (by omega), if_pos z]), fun z => key _ (by rw [if_neg (by omega), if_neg (by omega), if_pos z]), fun z => ⟨fun _ => by omega, key _ (by rw [if_neg (by omega), if_neg (by omega), if_neg (by omega), if_pos z])⟩, fun z => key _ (by rw [if_neg (by omega), if_neg (by omega), if_neg (by omega), if_neg (by omega)])⟩
theorem kX9_ran (hC : Cs M P) (ht : Tc M) (hp : M 3 0 5 ≤ 400) {w k : Int} (hQ : ∀ N, CR M N P (qRan (M 3 0 2) (M 3 0 3) (M 3 0 5) (M 3 5) (M 4 0 1) w k).2 → Q (some (vI (qRan (M 3 0 2) (M 3 0 3) (M 3 0 5) (M 3 5) (M 4 0 1) w k).1)) N) : sl_Runs l mX9_ran [vR 0 0, vI w, vI k] M Q := by
  have bad : ¬ ((0 ≤ w ∧ w ≤ 4) ∧ 0 ≤ k) → sl_RI l mX9_refuse [vR 0 0, vI (-2)] M (fun y M => Q (some (vI y)) M) := fun z => kX9_refuse hC ht (by omega) (fun N f => ⟨_, rfl, askc hQ (if_neg z) f⟩)
  refine eX9_ran (vX9_ran_0 fun _ _ _ => ⟨fun q => bad (by omega), fun q => ⟨fun q1 => bad (by omega), fun q1 => ⟨fun q2 => ?_, fun q2 => bad (by omega)⟩⟩⟩)
  have key : ∀ a, (if w = 0 then M 3 0 2 else if w = 1 then M 3 0 3 else if w = 2 then M 3 0 5 else if w = 3 then (if M 3 0 5 ≤ k then 0 else M 3 5 k) else M 4 0 1) = a → Q (some (vI a)) M := by
    intro a ea
    refine askc hQ ?_ (CF.rf.cr hC)
    unfold qRan
    rw [if_pos ⟨⟨by omega, by omega⟩, q2⟩, ea]
  exact ⟨fun z => key _ (by rw [if_pos z]), fun z => key _ (by rw [if_neg (by omega), if_pos z]), fun z => key _ (by rw [if_neg (by omega), if_neg (by omega), if_pos z]), fun z => ⟨fun _ => by omega, key _ (by rw [if_neg (by omega), if_neg (by omega), if_neg (by omega), if_pos z])⟩, fun z => key _ (by rw [if_neg (by omega), if_neg (by omega), if_neg (by omega), if_neg (by omega)])⟩
end K
