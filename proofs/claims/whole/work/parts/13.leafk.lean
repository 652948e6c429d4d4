/-! The leaf functions' contracts -/
abbrev sp_op (c : Int) : Prop := c = 43 ∨ c = 45 ∨ c = 42 ∨ c = 47 ∨ c = 37 ∨ c = 60 ∨ c = 61
def sp_var (c : Int) : Int := if 97 ≤ c ∧ c < 105 then c - 97 else -1
def sp_place (x : Int) : Int := if x = 1 then 0 else if x = 2 then 1 else if x = 4 then 2 else 3
section K
variable {l : Launch} {M : sl_M} {a b c : Int}
theorem kX10_in : sl_RI l mX10_in [vI a, vI b, vI c] M (fun x N => x = (if b ≤ a ∧ a ≤ c then 1 else 0) ∧ N = M) := by
  refine eX10_in (vX10_in_0 fun _ _ _ _ => ⟨_, rfl, ?_, rfl⟩)
  exact b_congr (by omega)
theorem kX10_has : sl_RI l mX10_has [vI a, vI b] M (fun x N => x = (if iand (ishr a b) 1 = 1 then 1 else 0) ∧ N = M) := by
  refine eX10_has (vX10_has_0 fun _ _ _ => ⟨_, rfl, ?_, rfl⟩)
  exact b_congr (by omega)
theorem kX10_isAct : sl_RI l mX10_isAct [vI a] M (fun x N => x = (if sp_op a then 1 else 0) ∧ N = M) := by
  refine eX10_isAct (vX10_isAct_0 fun _ _ => ⟨_, rfl, ?_, rfl⟩)
  exact b_congr (by unfold sp_op; omega)
theorem kX10_placeOf : sl_RI l mX10_placeOf [vI a] M (fun x N => x = sp_place a ∧ N = M) := by
  refine eX10_placeOf (vX10_placeOf_0 fun _ _ => ⟨_, rfl, ?_, rfl⟩)
  unfold sp_place
  repeat' split
  all_goals omega
theorem rgkX10_placeOf (a : Int) : sl_rg (sp_place a) := by
  unfold sp_place
  repeat' split
  all_goals omega
theorem kX9_isOperator : sl_RI l mX9_isOperator [vI a] M (fun x N => x = (if sp_op a then 1 else 0) ∧ N = M) := by
  refine eX9_isOperator (vX9_isOperator_0 fun _ _ => ⟨fun h => ⟨_, rfl, ?_, rfl⟩, fun h => ⟨_, rfl, ?_, rfl⟩⟩)
  · rw [if_pos (by unfold sp_op; omega)]
  · rw [if_neg (by unfold sp_op; omega)]
theorem kX9_isDigit : sl_RI l mX9_isDigit [vI a] M (fun x N => x = (if 48 ≤ a ∧ a ≤ 57 then 1 else 0) ∧ N = M) := by
  refine eX9_isDigit (vX9_isDigit_0 fun _ _ => ⟨_, rfl, ?_, rfl⟩)
  exact b_congr (by omega)
theorem rgkX9_variableOf (a : Int) : sl_rg (sp_var a) := by
  unfold sp_var
  split <;> omega
theorem kX9_variableOf : sl_RI l mX9_variableOf [vI a] M (fun x N => x = sp_var a ∧ N = M) := by
  have e : (if a < 97 then (-1) else (if 105 ≤ a then (-1) else a - 97)) = sp_var a := by
    unfold sp_var
    repeat' split
    all_goals omega
  refine eX9_variableOf (vX9_variableOf_0 fun _ _ => ⟨?_, _, rfl, e, rfl⟩)
  rw [e]
  exact rgkX9_variableOf a
theorem kX9_has : sl_RI l mX9_has [vI a, vI b] M (fun x N => x = (if iand (ishr a b) 1 ≠ 0 then 1 else 0) ∧ N = M) := by
  refine eX9_has (vX9_has_0 fun _ _ _ => ⟨_, rfl, ?_, rfl⟩)
  exact b_congr (by omega)
theorem kX9_renamed : sl_RI l mX9_renamed [vI a, vI b] M (fun x N => x = iand (ishr a (3 * b)) 7 ∧ N = M) := eX9_renamed (vX9_renamed_0 fun _ _ _ => ⟨_, rfl, rfl, rfl⟩)
theorem rgkX9_renamed (a b : Int) : sl_rg (iand (ishr a (3 * b)) 7) := rg_iand _ _
end K
