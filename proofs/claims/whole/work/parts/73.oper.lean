/-! What an operator gives -/
def opv (c x y : Int) : Int := if c = 37 then irem x y else if c = 42 then iwrap (x * y) else if c = 43 then iwrap (x + y) else if c = 45 then iwrap (x - y) else if c = 47 then idiv x y else if c = 60 then (if x < y then 1 else 0) else (if x = y then 1 else 0)
/-- it fails -/
abbrev opf (c y : Int) : Prop := (c = 47 ∨ c = 37) ∧ y = 0
/-- operators that wait, the innermost first, with the operand they have; an operand comes: what then waits, and the value so far; none: a failure -/
def psh : List (Int × Option Int) → Int → Option (List (Int × Option Int) × Int)
  | [], v => some ([], v)
  | (o, none) :: t, v => some ((o, some v) :: t, v)
  | (o, some x) :: t, v => if opf o v then none else psh t (opv o x v)
section K
variable {l : Launch} {M : sl_M} {Q : sl_R}
theorem kX10_done {c x y : Int} (hf : ¬ opf c y) (hQ : Q (some (vI (opv c x y))) M) : sl_Runs l mX10_done [vI c, vI x, vI y] M Q := by
  unfold opv at hQ
  refine eX10_done (wX10_done_0 fun _ _ _ _ => ⟨fun q => ⟨fun z => hf ⟨Or.inr q, z⟩, ?_⟩, fun q => ?_, fun q => ?_, fun q => ?_, fun q => ⟨fun z => hf ⟨Or.inl q, z⟩, ?_⟩, fun q => ?_, fun q => ?_⟩)
  · rw [if_pos q] at hQ; exact hQ
  · rw [if_neg (by omega), if_pos q] at hQ; exact hQ
  · rw [if_neg (by omega), if_neg (by omega), if_pos q] at hQ; exact hQ
  · rw [if_neg (by omega), if_neg (by omega), if_neg (by omega), if_pos q] at hQ; exact hQ
  · rw [if_neg (by omega), if_neg (by omega), if_neg (by omega), if_neg (by omega), if_pos q] at hQ; exact hQ
  · rw [if_neg (by omega), if_neg (by omega), if_neg (by omega), if_neg (by omega), if_neg (by omega), if_pos q] at hQ
    rw [b_congr (R := x < y) (by omega)]; exact hQ
  · rw [if_neg (by omega), if_neg (by omega), if_neg (by omega), if_neg (by omega), if_neg (by omega), if_neg (by omega)] at hQ
    rw [b_congr (R := x = y) (by omega)]; exact hQ
theorem kX3_apply {c x y : Int} (hQ : ¬ opf c y → Q (some (vI (opv c x y))) M) (hF : opf c y → Q (some (vI 0)) (sl_wr M 3 0 6 1)) : sl_Runs l mX3_apply [vR 3 0, vI c, vI x, vI y] M Q := by
  have at23 : ¬ opf c y → sl_At l mX3_apply 23 [(1, vI c), (2, vI x), (3, vI y)] [] M Q := by
    intro hf
    have hQ := hQ hf
    unfold opv at hQ
    refine wX3_apply_23 fun _ _ _ _ => ⟨fun q => ⟨fun z => ⟨z, ?_⟩, fun z => (hf ⟨Or.inr q, by omega⟩).elim⟩, fun q => ?_, fun q => ?_, fun q => ?_, fun q => ⟨fun z => ⟨z, ?_⟩, fun z => (hf ⟨Or.inl q, by omega⟩).elim⟩, fun q => ?_, fun q => ?_⟩
    · rw [if_pos q] at hQ; exact hQ
    · rw [if_neg (by omega), if_pos q] at hQ; exact hQ
    · rw [if_neg (by omega), if_neg (by omega), if_pos q] at hQ; exact hQ
    · rw [if_neg (by omega), if_neg (by omega), if_neg (by omega), if_pos q] at hQ; exact hQ
    · rw [if_neg (by omega), if_neg (by omega), if_neg (by omega), if_neg (by omega), if_pos q] at hQ; exact hQ
    · rw [if_neg (by omega), if_neg (by omega), if_neg (by omega), if_neg (by omega), if_neg (by omega), if_pos q] at hQ
      rw [b_congr (R := x < y) (by omega)]; exact hQ
    · rw [if_neg (by omega), if_neg (by omega), if_neg (by omega), if_neg (by omega), if_neg (by omega), if_neg (by omega)] at hQ
      rw [b_congr (R := x = y) (by omega)]; exact hQ
  refine eX3_apply (wX3_apply_0 fun _ _ _ _ => ⟨fun q => ⟨fun z => at23 (fun w => z w.2), fun z N e => ?_⟩, fun q => ⟨fun q2 => at23 (fun w => by rcases w.1 with u | u; exact q u; exact q2 u), fun q2 => ⟨fun z => at23 (fun w => z w.2), fun z N e => ?_⟩⟩⟩)
  · rw [e]; exact hF ⟨Or.inl q, by omega⟩
  · rw [e]; exact hF ⟨Or.inr (by omega), by omega⟩
theorem kX3_valueOf {v : Int} {o : Nat} (ho : sl_cls o = 2) (hv : 0 ≤ v ∧ v < 8) (hQ : bt (M o 0 1) v.toNat = true → Q (some (vI (M o 1 v))) M) (hF : bt (M o 0 1) v.toNat = false → Q (some (vI 0)) (sl_wr M 3 0 6 2)) : sl_Runs l mX3_valueOf [vR 3 0, vI v, vR o 0] M Q := by
  refine eX3_valueOf (vX3_valueOf_0 ho fun _ _ => ⟨fun q => by omega, fun q => ⟨fun q2 => by omega, fun q2 => ⟨fun z => ⟨by omega, hQ ((has0 (by omega)).mp z)⟩, fun z N e => ?_⟩⟩⟩)
  rw [e]
  exact hF (by
    cases h : bt (M o 0 1) v.toNat
    · rfl
    · exact (z ((has0 (by omega)).mpr h)).elim)
theorem kX10_sets {v x b : Int} (hv : 0 ≤ v ∧ v < 8) (hQ : Q none (if b = 0 then sl_wr (sl_wr M 1 51 v x) 1 0 51 (ior (M 1 0 51) (ishl 1 v)) else sl_wr (sl_wr M 1 53 v x) 1 0 53 (ior (M 1 0 53) (ishl 1 v)))) : sl_Runs l mX10_sets [vR 1 0, vI v, vI x, vI b] M Q := by
  refine eX10_sets (vX10_sets_0 fun _ _ _ _ => ⟨fun q => ⟨hv, fun M3 e3 M4 e4 => ?_⟩, fun q => ⟨hv, fun M3 e3 M4 e4 => ?_⟩⟩)
  · rw [if_pos q] at hQ
    have h : M3 1 0 51 = M 1 0 51 := by rw [e3]; simp [sl_wr]
    rw [e4, h, e3]; exact hQ
  · rw [if_neg q] at hQ
    have h : M3 1 0 53 = M 1 0 53 := by rw [e3]; simp [sl_wr]
    rw [e4, h, e3]; exact hQ
end K
