/-! runs, on both sides -/
/-- one turn: a statement or a call -/
def toA (R rho : Int → Int) (k : Int) (D : Int → Int) (B : Int) (g : Gs) : Rs := if ly R rho 1 k = 7 then ((clA R rho (clR R (tk R k)) D B g).1, (if (wkC R rho (clR R (tk R k)) D g).1 = 0 then tg (ly R rho) 0 (ly R rho 0 0 - 1) k (-(wkC R rho (clR R (tk R k)) D g).2.1) else -1), (clA R rho (clR R (tk R k)) D B g).2.2) else stA (ly R rho) 0 (ly R rho 0 0 - 1) k D B g
/-- the answer, the mask of what is set, the rest -/
def rnA (R rho : Int → Int) : Nat → Int → (Int → Int) → Int → Gs → Int × Int × Gs
  | 0, _, _, B, g => (4, B, g)
  | m + 1, k, D, B, g => if (toA R rho k D B g).1 ≠ 0 then ((toA R rho k D B g).1, (toA R rho k D B g).2.2.2.1, (toA R rho k D B g).2.2.2.2) else if (toA R rho k D B g).2.1 < 0 then ((if (toA R rho k D B g).2.1 = -8 then 1 else 0), (toA R rho k D B g).2.2.2.1, (toA R rho k D B g).2.2.2.2) else rnA R rho m (toA R rho k D B g).2.1 (toA R rho k D B g).2.2.1 (toA R rho k D B g).2.2.2.1 (toA R rho k D B g).2.2.2.2
theorem rnA_s {R rho : Int → Int} {m : Nat} {k : Int} {D : Int → Int} {B : Int} {g : Gs} : rnA R rho (m + 1) k D B g = if (toA R rho k D B g).1 ≠ 0 then ((toA R rho k D B g).1, (toA R rho k D B g).2.2.2.1, (toA R rho k D B g).2.2.2.2) else if (toA R rho k D B g).2.1 < 0 then ((if (toA R rho k D B g).2.1 = -8 then 1 else 0), (toA R rho k D B g).2.2.2.1, (toA R rho k D B g).2.2.2.2) else rnA R rho m (toA R rho k D B g).2.1 (toA R rho k D B g).2.2.1 (toA R rho k D B g).2.2.2.1 (toA R rho k D B g).2.2.2.2 := rfl
def D0 (a b : Int) : Int → Int := fun q => if q = 1 then b else if q = 0 then a else 0
def runA (R rho : Int → Int) (a b : Int) : Int × Int × Gs := if ly R rho 0 0 ≤ 0 then (0, 3, (0, 0, 0, fun _ => 0)) else rnA R rho 401 0 (D0 a b) 3 (0, 0, 0, fun _ => 0)
section T
variable {R rho : Int → Int}
theorem to_call {k : Int} {D : Int → Int} {B : Int} {g : Gs} (h7 : ly R rho 1 k = 7) : toA R rho k D B g = ((clA R rho (clR R (tk R k)) D B g).1, (if (wkC R rho (clR R (tk R k)) D g).1 = 0 then tg (ly R rho) 0 (ly R rho 0 0 - 1) k (-(wkC R rho (clR R (tk R k)) D g).2.1) else -1), (clA R rho (clR R (tk R k)) D B g).2.2) := if_pos h7
theorem to_st {k : Int} {D : Int → Int} {B : Int} {g : Gs} (h7 : ly R rho 1 k ≠ 7) : toA R rho k D B g = stA (ly R rho) 0 (ly R rho 0 0 - 1) k D B g := if_neg h7
theorem ly_rg (hG : Good R rho) (h : 0 < ly R rho 0 0) : RG (ly R rho) 0 (ly R rho 0 0) := by
  have hw := hG.wf
  refine ⟨hw, Int.le_refl _, h, by omega, fun x x0 x1 => ?_, fun x x0 x1 hx => ?_⟩
  · rw [Int.zero_add]; have := hw.af x0 x1; omega
  · rw [Int.zero_add] at hx ⊢
    have p := hw.pr x0 x1
    have p0 := hw.pr (k := 0) (by omega) h
    exact ⟨by omega, by rw [hw.rt x0 x1 hx, hw.rt (Int.le_refl _) h (by omega)]⟩
/-- what a statement that is no call has of what is told -/
theorem ly_st (hG : Good R rho) {k : Int} (k0 : 0 ≤ k) (k1 : k < ly R rho 0 0) (h7 : ly R rho 1 k ≠ 7) : clR R (tk R k) = -1 ∧ (0 ≤ tk R k ∧ tk R k < tp (cutR R) 0 0) ∧ ly R rho 1 k = tp (cutR R) 1 (tk R k) ∧ ly R rho 6 k = cutR R (201 + tk R k) ∧ ly R rho 11 k = cutR R (241 + tk R k) ∧ (∀ i, 0 ≤ i → i < 16 → ly R rho 12 (16 * k + i) = tp (cutR R) 12 (16 * tk R k + i)) ∧ ly R rho 20 k = eK (ly R rho 1 k) := by
  have hc : clR R (tk R k) = -1 := by
    refine Classical.byContradiction fun q => h7 ?_
    show (if clR R (tk R k) ≠ -1 then 7 else _) = (7 : Int)
    rw [if_pos q]
  have at' := hG.at (rho := rho) k0 (by omega)
  have e1 : ly R rho 1 k = cutR R (1 + tk R k) := by show (if clR R (tk R k) ≠ -1 then 7 else cutR R (1 + tk R k)) = _; rw [if_neg (fun q => q hc)]
  refine ⟨hc, ⟨at'.1, (at'.2.2.2.2 k1).1⟩, e1, ?_, ?_, fun i i0 i1 => ?_, ?_⟩
  · show (if clR R (tk R k) ≠ -1 then _ else cutR R (201 + tk R k)) = _; rw [if_neg (fun q => q hc)]
  · show (if clR R (tk R k) ≠ -1 then _ else cutR R (241 + tk R k)) = _; rw [if_neg (fun q => q hc)]
  · show (if clR R (tk R ((16 * k + i) / 16)) ≠ -1 then _ else cutR R ((281 + (12 * tk R ((16 * k + i) / 16))) + (16 * k + i) % 16)) = cutR R ((281 + (12 * ((16 * tk R k + i) / 16))) + (16 * tk R k + i) % 16)
    rw [show (16 * k + i) / 16 = k by omega, if_neg (fun q => q hc), show (16 * k + i) % 16 = i by omega, show (16 * tk R k + i) / 16 = tk R k by omega, show (16 * tk R k + i) % 16 = i by omega]
  · rw [e1]; show (if clR R (tk R k) ≠ -1 then _ else tp (cutR R) 20 (tk R k)) = _; rw [if_neg (fun q => q hc)]; rfl
end T
theorem ly_ev {R rho : Int → Int} (hG : Good R rho) {k : Int} (k0 : 0 ≤ k) (k1 : k < ly R rho 0 0) (h7 : ly R rho 1 k ≠ 7) : EV (ly R rho) k ∧ (0 ≤ ly R rho 11 k ∧ ly R rho 11 k ≤ 12) ∧ (ly R rho 11 k = 0 → ly R rho 1 k = 3 ∨ ly R rho 1 k = 4) ∧ (ly R rho 1 k = 0 → 0 ≤ ly R rho 6 k ∧ ly R rho 6 k < 8) := by
  obtain ⟨a1, a2, a3, a4, a5, a6, a7⟩ := ly_st hG k0 k1 h7
  obtain ⟨d1, d2, d3, d4, d5, d6, d7⟩ := hG.1.2.2.2 (tk R k) a2.1 a2.2
  have e1 : tp (cutR R) 1 (tk R k) = cutR R (1 + tk R k) := rfl
  have e11 : tp (cutR R) 11 (tk R k) = cutR R (241 + tk R k) := rfl
  rw [a3, a4, a5, e1]
  refine ⟨⟨?_, fun i i0 i1 => ?_⟩, d3, fun q => d6.mp q, d2⟩
  · rw [a5]
    rcases d4.1 with q | q
    · exact Or.inl q
    · rw [e11] at q
      exact Or.inr (WX_cong (fun x x0 x1 => (a6 x x0 (by omega)).symm) q)
  · rw [a5] at i1
    rw [a6 i i0 (by omega)]
    exact d4.2 i i0 (by rw [e11]; exact i1)
section K
variable {l : Launch} {M : sl_M} {Q : sl_R} {rho R : Int → Int} {s : Nat}
/-- where a turn leads -/
theorem to_nx (hG : Good R rho) {k : Int} (k0 : 0 ≤ k) (k1 : k < ly R rho 0 0) {D : Int → Int} {B : Int} {g : Gs} (hg : gI g) (hB : m8 B) (hI : Inv R k B) : gI (toA R rho k D B g).2.2.2.2 ∧ ((toA R rho k D B g).1 = 0 ∨ 2 ≤ (toA R rho k D B g).1) ∧ ((toA R rho k D B g).1 ≠ 0 → (toA R rho k D B g).2.1 = -1) ∧ ((toA R rho k D B g).1 = 0 → g.2.1 < (toA R rho k D B g).2.2.2.2.2.1 ∧ m8 (toA R rho k D B g).2.2.2.1 ∧ ((∃ e, e4 e ∧ (toA R rho k D B g).2.1 = -e) ∨ ((0 ≤ (toA R rho k D B g).2.1 ∧ (toA R rho k D B g).2.1 < ly R rho 0 0) ∧ Inv R (toA R rho k D B g).2.1 (toA R rho k D B g).2.2.2.1))) := by
  have hw := hG.wf
  have hn := hw.n0
  by_cases h7 : ly R rho 1 k = 7
  · obtain ⟨ne, hc, -⟩ := hG.cnode k0 k1 h7
    have gg := wk_gI (P := tp (cutR R)) (f := mf0 R (cm R (clR R (tk R k)))) (t := tp (cutR R) 3 (ml0 R (cm R (clR R (tk R k)))) - 1) (401 - g.2.1).toNat (mf0 R (cm R (clR R (tk R k)))) (fun v => D (rn (rho (clR R (tk R k))) v)) (iM R (cm R (clR R (tk R k)))) g hg
    have ff := wk_fail (P := tp (cutR R)) (f := mf0 R (cm R (clR R (tk R k)))) (t := tp (cutR R) 3 (ml0 R (cm R (clR R (tk R k)))) - 1) (401 - g.2.1).toNat (mf0 R (cm R (clR R (tk R k)))) (fun v => D (rn (rho (clR R (tk R k))) v)) (iM R (cm R (clR R (tk R k)))) g
    rw [to_call h7]
    by_cases w0 : (wkC R rho (clR R (tk R k)) D g).1 = 0
    · have ic := Inv.call hG k0 k1 h7 hB hI w0
      obtain ⟨e, e1, e2, -⟩ := call_path hG hc w0
      have oR := out_R (D := D) (Di := (wkC R rho (clR R (tk R k)) D g).2.2.1) (Bi := (wkC R rho (clR R (tk R k)) D g).2.2.2.1) hG hc hB
      rw [if_pos w0]
      rw [clA_ok w0] at ic ⊢
      refine ⟨gg.1, Or.inl rfl, fun q => (q rfl).elim, fun _ => ⟨gg.2 w0, oR.1, ?_⟩⟩
      show (∃ e', e4 e' ∧ tg (ly R rho) 0 (ly R rho 0 0 - 1) k (-(wkC R rho (clR R (tk R k)) D g).2.1) = -e') ∨ ((0 ≤ tg (ly R rho) 0 (ly R rho 0 0 - 1) k (-(wkC R rho (clR R (tk R k)) D g).2.1) ∧ tg (ly R rho) 0 (ly R rho 0 0 - 1) k (-(wkC R rho (clR R (tk R k)) D g).2.1) < ly R rho 0 0) ∧ Inv R _ _)
      by_cases q : 0 ≤ tg (ly R rho) 0 (ly R rho 0 0 - 1) k (-(wkC R rho (clR R (tk R k)) D g).2.1)
      · refine Or.inr ⟨⟨q, ?_⟩, ic q⟩
        have lt := lr_tg hG (tl_call hG k0 k1 ne) e1
        rw [e2, Int.neg_neg] at q ⊢
        rcases lt with ⟨a, b⟩ | ⟨a, b, -⟩
        · omega
        · exact b
      · refine Or.inl ?_
        rw [e2, Int.neg_neg] at q ⊢
        have hE : Ed (ly R rho) 0 (ly R rho 0 0 - 1) k (tg (ly R rho) 0 (ly R rho 0 0 - 1) k e) (ly R rho 21 (16 * k + e)) := by
          obtain ⟨-, -, -, -, -, a20, -⟩ := hG.cnode k0 k1 h7
          obtain ⟨e', e1', e2', -, e5', -⟩ := call_path hG hc w0
          have : e' = e := by omega
          subst this
          exact Or.inr ⟨by omega, by omega, e', e1, by rw [a20]; exact e5', rfl, rfl⟩
        rcases ed_out hw (ly_rg hG (by omega)).rg (k := k) (by omega) (by rw [Int.zero_add]; exact hE) (by omega) with a | a | a | a
        · exact ⟨1, Or.inl rfl, a⟩
        · exact ⟨2, Or.inr (Or.inl rfl), a⟩
        · exact ⟨4, Or.inr (Or.inr (Or.inl rfl)), a⟩
        · exact ⟨8, Or.inr (Or.inr (Or.inr rfl)), a⟩
    · rw [if_neg w0, clA_no w0]
      refine ⟨gg.1, ff, fun _ => rfl, fun q => (w0 q).elim⟩
  · rw [to_st h7]
    obtain ⟨a1, a2, a3, a4, a5, a6, a7⟩ := ly_st hG k0 k1 h7
    obtain ⟨gi, gs⟩ := hg.stp (P := ly R rho) (f := 0) (t := ly R rho 0 0 - 1) (k := k) (D := D) (B := B)
    have sx := st_nx (x := k) (n := ly R rho 0 0) (D := D) (B := B) (g := g) (ly_rg hG (by omega)) k0 k1 (by rw [Int.zero_add]; exact a7)
    rw [Int.zero_add, Int.zero_add] at sx
    obtain ⟨sa, sb, sc⟩ := sx
    refine ⟨gi, st_fail, sa, fun ok => ⟨by rw [gs ok]; omega, ?_, ?_⟩⟩
    · rw [(sc ok).2.1]
      unfold bS
      split
      · rename_i q
        exact m8_or hB (m8_shl ((ly_ev hG k0 k1 h7).2.2.2 q))
      · exact hB
    · rcases sb with a | a
      · exact Or.inl a
      · refine Or.inr ⟨a, ?_⟩
        obtain ⟨c1, c2, -⟩ := sc ok
        rw [c1, c2]
        rw [c1] at a
        exact hI.step hG k0 k1 h7 a.1
end K
