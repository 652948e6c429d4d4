/-! runs, on both sides -/
/-- one turn: a statement or a call -/
def toA (R rho : Int → Int) (k : Int) (D : Int → Int) (B : Int) (g : Gs) : Rs := if ly R rho 1 k = 7 then ((clA R rho (clR R (tk R k)) D B g).1, (if (wkC R rho (clR R (tk R k)) D g).1 = 0 then tg (ly R rho) 0 (ly R rho 0 0 - 1) k (-(wkC R rho (clR R (tk R k)) D g).2.1) else -1), (clA R rho (clR R (tk R k)) D B g).2.2) else stA (ly R rho) 0 (ly R rho 0 0 - 1) k D B g
/-- the answer, the mask of what is set, the rest -/
def rnA (R rho : Int → Int) : Nat → Int → (Int → Int) → Int → Gs → Int × Int × Gs
  | 0, _, _, B, g => (4, B, g)
  | m + 1, k, D, B, g => if (toA R rho k D B g).1 ≠ 0 then ((toA R rho k D B g).1, (toA R rho k D B g).2.2.2.1, (toA R rho k D B g).2.2.2.2) else if (toA R rho k D B g).2.1 < 0 then ((if (toA R rho k D B g).2.1 = -8 then 1 else 0), (toA R rho k D B g).2.2.2.1, (toA R rho k D B g).2.2.2.2) else rnA R rho m (toA R rho k D B g).2.1 (toA R rho k D B g).2.2.1 (toA R rho k D B g).2.2.2.1 (toA R rho k D B g).2.2.2.2
theorem rnA_s {R rho : Int → Int} {m : Nat} {k : Int} {D : Int → Int} {B : Int} {g : Gs} : rnA R rho (m + 1) k D B g = if (toA R rho k D B g).1 ≠ 0 then ((toA R rho k D B g).1, (toA R rho k D B g).2.2.2.1, (toA R rho k D B g).2.2.2.2) else if (toA R rho k D B g).2.1 < 0 then ((if (toA R rho k D B g).2.1 = -8 then 1 else 0), (toA R rho k D B g).2.2.2.1, (toA R rho k D B g).2.2.2.2) else rnA R rho m (toA R rho k D B g).2.1 (toA R rho k D B g).2.2.1 (toA R rho k D B g).2.2.2.1 (toA R rho k D B g).2.2.2.2 := rfl
def D0 (a b : Int) : Int → Int := fun q => if q = 1 then b else if q = 0 then a else 0
def runA (R rho : Int → Int) (a b : Int) : Int × Int × Gs := if ly R rho 0 0 ≤ 0 then (0, 3, (0, 0, 0, fun _ => 0)) else rnA R rho 401 0 (D0 a b) 3 (0, 0, 0, fun _ => 0)
section T
variable {R rho : Int → Int}
theorem to_call {k : Int} {D : Int → Int} {B : Int} {g : Gs} (h7 : ly R rho 1 k = 7) : toA R rho k D B g = ((clA R rho (clR R (tk R k)) D B g).1, (if (wkC R rho (clR R (tk R k)) D g).1 = 0 then tg (ly R rho) 0 (ly R rho 0 0 - 1) k (-(wkC R rho (clR R (tk R k)) D g).2.1) else -1), (clA R rho (clR R (tk R k)) D B g).2.2) := if_pos h7
theorem to_st {k : Int} {D : Int → Int} {B : Int} {g : Gs} (h7 : ly R rho 1 k ≠ 7) : toA R rho k D B g = stA (ly R rho) 0 (ly R rho 0 0 - 1) k D B g := if_neg h7
theorem ly_rg (hG : Good R rho) (h : 0 < ly R rho 0 0) : RG (ly R rho) 0 (ly R rho 0 0) := by
  have hw := hG.wf
  refine ⟨hw, Int.le_refl _, h, by omega, fun x x0 x1 => ?_, fun x x0 x1 hx => ?_⟩
  · rw [Int.zero_add]; have := hw.af x0 x1; omega
  · rw [Int.zero_add] at hx ⊢
    have p := hw.pr x0 x1
    have p0 := hw.pr (k := 0) (by omega) h
    exact ⟨by omega, by rw [hw.rt x0 x1 hx, hw.rt (Int.le_refl _) h (by omega)]⟩
/-- what a statement that is no call has of what is told -/
theorem ly_st (hG : Good R rho) {k : Int} (k0 : 0 ≤ k) (k1 : k < ly R rho 0 0) (h7 : ly R rho 1 k ≠ 7) : clR R (tk R k) = -1 ∧ (0 ≤ tk R k ∧ tk R k < tp (cutR R) 0 0) ∧ ly R rho 1 k = tp (cutR R) 1 (tk R k) ∧ ly R rho 6 k = cutR R (201 + tk R k) ∧ ly R rho 11 k = cutR R (241 + tk R k) ∧ (∀ i, 0 ≤ i → i < 16 → ly R rho 12 (16 * k + i) = tp (cutR R) 12 (16 * tk R k + i)) ∧ ly R rho 20 k = eK (ly R rho 1 k) := by
  have hc : clR R (tk R k) = -1 := by
    refine Classical.byContradiction fun q => h7 ?_
    show (if clR R (tk R k) ≠ -1 then 7 else _) = (7 : Int)
    rw [if_pos q]
  have at' := hG.at (rho := rho) k0 (by omega)
  have e1 : ly R rho 1 k = cutR R (1 + tk R k) := by show (if clR R (tk R k) ≠ -1 then 7 else cutR R (1 + tk R k)) = _; rw [if_neg (fun q => q hc)]
  refine ⟨hc, ⟨at'.1, (at'.2.2.2.2 k1).1⟩, e1, ?_, ?_, fun i i0 i1 => ?_, ?_⟩
  · show (if clR R (tk R k) ≠ -1 then _ else cutR R (201 + tk R k)) = _; rw [if_neg (fun q => q hc)]
  · show (if clR R (tk R k) ≠ -1 then _ else cutR R (241 + tk R k)) = _; rw [if_neg (fun q => q hc)]
  · show (if clR R (tk R ((16 * k + i) / 16)) ≠ -1 then _ else cutR R ((281 + (12 * tk R ((16 * k + i) / 16))) + (16 * k + i) % 16)) = cutR R ((281 + (12 * ((16 * tk R k + i) / 16))) + (16 * tk R k + i) % 16)
    rw [show (16 * k + i) / 16 = k by omega, if_neg (fun q => q hc), show (16 * k + i) % 16 = i by omega, show (16 * tk R k + i) / 16 = tk R k by omega, show (16 * tk R k + i) % 16 = i by omega]
  · rw [e1]; show (if clR R (tk R k) ≠ -1 then _ else tp (cutR R) 20 (tk R k)) = _; rw [if_neg (fun q => q hc)]; rfl
end T
