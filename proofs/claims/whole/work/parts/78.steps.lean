/-! The reference: a statement is done -/
/-- what a run may change in the reference -/
def FRn (M N : sl_M) : Prop := ∀ o i j, ¬ (o = 1 ∧ ((51 ≤ i ∧ i ≤ 64) ∨ (i = 0 ∧ 51 ≤ j ∧ j ≤ 60))) → N o i j = M o i j
theorem FRn.tr {M N O : sl_M} (h1 : FRn M N) (h2 : FRn N O) : FRn M O := fun o i j z => (h2 o i j z).trans (h1 o i j z)
theorem FWo.rn {M N : sl_M} (h : FWo M N) : FRn M N := fun o i j z => h o i j (by omega)
section K
variable {l : Launch} {M : sl_M} {Q : sl_R} {P : Pg}
/-- the symbols of a statement are an expression of digits, variables and operators, or none -/
def EV (P : Pg) (k : Int) : Prop := (P 11 k = 0 ∨ WX (Sy P k) (P 11 k)) ∧ ∀ i, 0 ≤ i → i < P 11 k → sp_op (P 12 (16 * k + i)) ∨ (48 ≤ P 12 (16 * k + i) ∧ P 12 (16 * k + i) ≤ 57) ∨ (97 ≤ P 12 (16 * k + i) ∧ P 12 (16 * k + i) ≤ 104)
theorem kX1_forget (hQ : Q none (sl_wr M 6 0 1 0)) : sl_Runs l mX1_forget [vR 6 0] M Q := by
  refine eX1_forget (vX1_forget_0 fun _ N e => ?_)
  rw [e]; exact hQ
end K
