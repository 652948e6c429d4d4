/-! A span without calls is a span of the program told -/
theorem RG.of {P : Pg} (hw : WF P) (h2 : WF2 P) {i j : Int} (hs : isp P i j) : RG P i (P 3 j - i) := by
  have rg := hw.rgS hs
  have hs' := hs
  obtain ⟨s1, s2, s3, s4, s5⟩ := hs
  have aj := hw.af (k := j) (by omega) s3
  refine ⟨hw, s1, by omega, by omega, fun x x0 x1 => ?_, fun x x0 x1 hp => ?_⟩
  · have := rg.2.2.2 (i + x) (by omega) (by omega); omega
  · have e := hw.out hs' (a := i + x) (by omega) (by omega) hp
    refine ⟨e, ?_⟩
    have le : i + x ≤ j := by
      refine Int.not_lt.mp fun q => ?_
      have := hw.in1 (j := j) (k := i + x) (by omega) q (by omega) (by omega)
      omega
    have m1 : P 4 i ≤ P 4 (i + x) := by
      by_cases z : x = 0
      · rw [z, Int.add_zero]; exact Int.le_refl _
      · exact h2 i (i + x) s1 (by omega) (by omega) e.symm
    have m2 : P 4 (i + x) ≤ P 4 j := by
      by_cases z : i + x = j
      · rw [z]; exact Int.le_refl _
      · exact h2 (i + x) j (by omega) (by omega) s3 (by omega)
    omega
section C
variable {R rho : Int → Int}
theorem Good.wf (h : Good R rho) : WF (ly R rho) := (ly_lay (rho := rho)).wf h.1.1 h.spn
theorem Good.wf2 (h : Good R rho) : WF2 (ly R rho) := by
  have hs := h.spn
  have hL : Lay (tp (cutR R)) (clR R) (eR R) (ly R rho) := ly_lay
  have hw := h.wf
  intro a b a0 ab b1 e
  have A := hL.at h.1.1 hs a0 (by omega)
  have B := hL.at h.1.1 hs (k := b) (by omega) (by omega)
  have lt := hL.lt h.1.1 hs a0 ab (by omega)
  have ea : ly R rho 2 a = ix (clR R) (eR R) (tp (cutR R) 2 (tk R a)) := rfl
  have eb : ly R rho 2 b = ix (clR R) (eR R) (tp (cutR R) 2 (tk R b)) := rfl
  have ta : tk R a < cutR R 0 := (A.2.2.2.2 (by omega)).1
  have tb : tk R b < cutR R 0 := (B.2.2.2.2 b1).1
  have pa := h.1.1.pr (k := tk R a) A.1 ta
  have pb := h.1.1.pr (k := tk R b) B.1 tb
  have key : ∀ t, 0 ≤ t → t < cutR R 0 → isN (clR R) (eR R) t → (0 ≤ tp (cutR R) 2 t → 0 ≤ ix (clR R) (eR R) (tp (cutR R) 2 t) ∧ ly R rho 30 (ix (clR R) (eR R) (tp (cutR R) 2 t)) = tp (cutR R) 2 t) ∧ (tp (cutR R) 2 t < 0 → ix (clR R) (eR R) (tp (cutR R) 2 t) = -1) := by
    intro t t0 t1 tN
    refine ⟨fun z => ?_, fun z => by unfold ix; rw [if_pos z]⟩
    have up := isN_up h.1.1 hs t0 t1 tN z
    have of := hL.of h.1.1 hs (t := tp (cutR R) 2 t) z (by have := h.1.1.pr t0 t1; show _ ≤ cutR R 0; omega) up.1
    unfold ix
    rw [if_neg (by omega)]
    exact ⟨of.1, of.2.2.1⟩
  have ka := key (tk R a) A.1 ta A.2.2.1
  have kb := key (tk R b) B.1 tb B.2.2.1
  have ee : tp (cutR R) 2 (tk R a) = tp (cutR R) 2 (tk R b) := by
    rw [ea, eb] at e
    by_cases za : 0 ≤ tp (cutR R) 2 (tk R a)
    · by_cases zb : 0 ≤ tp (cutR R) 2 (tk R b)
      · rw [← (ka.1 za).2, ← (kb.1 zb).2, e]
      · have := kb.2 (by omega); have := (ka.1 za).1; omega
    · by_cases zb : 0 ≤ tp (cutR R) 2 (tk R b)
      · have := ka.2 (by omega); have := (kb.1 zb).1; omega
      · omega
  exact h.1.2.1 (tk R a) (tk R b) A.1 lt tb ee
/-- a span without calls, as it is told -/
def Cfr (R rho : Int → Int) (i j : Int) : Prop := (∀ x, 0 ≤ x → x ≤ ly R rho 3 j - i → tk R (i + x) = tk R i + x) ∧ isp (tp (cutR R)) (tk R i) (tk R j) ∧ tp (cutR R) 3 (tk R j) = tk R i + (ly R rho 3 j - i) ∧ (∀ x, 0 ≤ x → x < ly R rho 3 j - i → clR R (tk R (i + x)) = -1) ∧
  RG (ly R rho) i (ly R rho 3 j - i) ∧ RG (tp (cutR R)) (tk R i) (ly R rho 3 j - i) ∧ Iso (ly R rho) i (tp (cutR R)) (tk R i) (ly R rho 3 j - i) ∧
  (∀ x, 0 ≤ x → x < ly R rho 3 j - i → ly R rho 4 (i + x) = tp (cutR R) 4 (tk R i + x) ∧ ly R rho 5 (i + x) = tp (cutR R) 5 (tk R i + x) ∧ ly R rho 6 (i + x) = tp (cutR R) 6 (tk R i + x) ∧ ly R rho 7 (i + x) = 16434824 ∧ ly R rho 10 (i + x) = tp (cutR R) 10 (tk R i + x) ∧ ly R rho 11 (i + x) = tp (cutR R) 11 (tk R i + x) ∧ ly R rho 20 (i + x) = tp (cutR R) 20 (tk R i + x) ∧ ly R rho 22 (i + x) = tp (cutR R) 22 (tk R i + x) ∧ (∀ e, 0 ≤ e → e < 16 → ly R rho 21 (16 * (i + x) + e) = tp (cutR R) 21 (16 * (tk R i + x) + e)) ∧ ∀ y, 0 ≤ y → y < 16 → ly R rho 12 (16 * (i + x) + y) = tp (cutR R) 12 (16 * (tk R i + x) + y))
theorem Good.cf (h : Good R rho) {i j : Int} (hs : isp (ly R rho) i j) (hn : ∀ k, i ≤ k → k < ly R rho 3 j → ly R rho 1 k ≠ 7) : Cfr R rho i j := by
  have hsp := h.spn
  have hL : Lay (tp (cutR R)) (clR R) (eR R) (ly R rho) := ly_lay
  have hw := h.wf
  have hRG := RG.of hw h.wf2 hs
  obtain ⟨s1, s2, s3, s4, s5⟩ := hs
  have aj := hw.af (k := j) (by omega) s3
  have ncl : ∀ k, i ≤ k → k < ly R rho 3 j → clR R (tk R k) = -1 := fun k k0 k1 => Classical.byContradiction fun q => hn k k0 k1 ((h.cl7 (k := k) (by omega) (by omega)).1.mpr q)
  have w1 : ∀ x : Nat, (x : Int) ≤ ly R rho 3 j - i → tk R (i + x) = tk R i + x := by
    intro x
    induction x with
    | zero => intro _; rw [show i + ((0 : Nat) : Int) = i by omega]; omega
    | succ x ih =>
      intro hx
      have e := ih (by omega)
      have at_ := hL.at h.1.1 hsp (k := i + x) (by omega) (by omega)
      have nx : tk R (i + x + 1) = nxt (clR R) (eR R) (tk R (i + x)) := (at_.2.2.2.2 (by omega)).2
      rw [show i + ((x + 1 : Nat) : Int) = i + x + 1 by omega, nx]
      unfold nxt
      rw [if_neg (by rw [ncl (i + x) (by omega) (by omega)]; omega), e]; omega
  have W : ∀ x, 0 ≤ x → x ≤ ly R rho 3 j - i → tk R (i + x) = tk R i + x := by
    intro x x0 x1
    have := w1 x.toNat (by omega)
    rwa [show ((x.toNat : Nat) : Int) = x by omega] at this
  have tj : tk R j = tk R i + (j - i) := by
    have := W (j - i) (by omega) (by omega)
    rwa [show i + (j - i) = j by omega] at this
  have ti0 : 0 ≤ tk R i := (hL.at h.1.1 hsp s1 (by omega)).1
  have AT : ∀ x, 0 ≤ x → x < ly R rho 3 j - i → isN (clR R) (eR R) (tk R i + x) ∧ tk R i + x < cutR R 0 := by
    intro x x0 x1
    have a := hL.at h.1.1 hsp (k := i + x) (by omega) (by omega)
    have b : tk R (i + x) < cutR R 0 := (a.2.2.2.2 (by omega)).1
    have c : isN (clR R) (eR R) (tk R (i + x)) := a.2.2.1
    rw [W x x0 (by omega)] at b c
    exact ⟨c, b⟩
  have C1 : ∀ x, 0 ≤ x → x < ly R rho 3 j - i → clR R (tk R i + x) = -1 := by
    intro x x0 x1
    rw [← W x x0 (by omega)]; exact ncl _ (by omega) (by omega)
  -- ends
  have E3 : ∀ x, 0 ≤ x → x < ly R rho 3 j - i → tp (cutR R) 3 (tk R i + x) = tk R i + (ly R rho 3 (i + x) - i) := by
    intro x x0 x1
    obtain ⟨a1, a2⟩ := AT x x0 x1
    have af := isN_af h.1.1 hsp (by omega) a2 a1 (C1 x x0 x1)
    have w := h.1.1.af (k := tk R i + x) (by omega) a2
    have of := hL.of h.1.1 hsp (t := tp (cutR R) 3 (tk R i + x)) (by omega) w.2 af
    have e3 : ly R rho 3 (i + x) = ixn (clR R) (eR R) (tp (cutR R) 3 (tk R i + x)).toNat := by
      have := (hL.2.2 (i + x) (by omega) (by omega)).2.2.2.1
      have e30 : ly R rho 30 (i + x) = tk R i + x := W x x0 (by omega)
      rw [e30, if_neg (by rw [C1 x x0 x1]; omega)] at this
      exact this
    have r := hRG.2.2.2.2.1 x x0 x1
    have a3 := hw.af (k := i + x) (by omega) (by omega)
    have x3 := of.2.2.1
    rw [← e3] at x3
    have x4 : tk R (ly R rho 3 (i + x)) = tp (cutR R) 3 (tk R i + x) := x3
    have x5 := W (ly R rho 3 (i + x) - i) (by omega) (by omega)
    rw [show i + (ly R rho 3 (i + x) - i) = ly R rho 3 (i + x) by omega] at x5
    omega
  -- parents
  have E2 : ∀ x, 0 ≤ x → x < ly R rho 3 j - i → (tp (cutR R) 2 (tk R i + x) < 0 ∧ ly R rho 2 (i + x) = -1) ∨ (0 ≤ ly R rho 2 (i + x) ∧ tk R (ly R rho 2 (i + x)) = tp (cutR R) 2 (tk R i + x)) := by
    intro x x0 x1
    obtain ⟨a1, a2⟩ := AT x x0 x1
    have e2 : ly R rho 2 (i + x) = ix (clR R) (eR R) (tp (cutR R) 2 (tk R i + x)) := by
      have := (hL.2.2 (i + x) (by omega) (by omega)).2.2.1
      have e30 : ly R rho 30 (i + x) = tk R i + x := W x x0 (by omega)
      rw [e30] at this; exact this
    rw [e2]
    by_cases z : tp (cutR R) 2 (tk R i + x) < 0
    · exact Or.inl ⟨z, by unfold ix; rw [if_pos z]⟩
    · have up := isN_up h.1.1 hsp (by omega) a2 a1 (by omega)
      have of := hL.of h.1.1 hsp (t := tp (cutR R) 2 (tk R i + x)) (by omega) (by have := h.1.1.pr (k := tk R i + x) (by omega) a2; show _ ≤ cutR R 0; omega) up.1
      unfold ix
      rw [if_neg z]
      exact Or.inr ⟨of.1, of.2.2.1⟩
  have T4 : ∀ k, ly R rho 4 k = tp (cutR R) 4 (tk R k) := fun _ => rfl
  have hIs : Iso (ly R rho) i (tp (cutR R)) (tk R i) (ly R rho 3 j - i) := by
    intro x x0 x1
    obtain ⟨a1, a2⟩ := AT x x0 x1
    refine ⟨?_, by rw [E3 x x0 x1]; omega, ?_⟩
    · have := (hL.2.2 (i + x) (by omega) (by omega)).2.1
      have e30 : ly R rho 30 (i + x) = tk R i + x := W x x0 (by omega)
      rw [e30, if_neg (by rw [C1 x x0 x1]; omega)] at this
      exact this
    · have p := hw.pr (k := i + x) (by omega) (by omega)
      rcases E2 x x0 x1 with ⟨z1, z2⟩ | ⟨z1, z2⟩
      · exact Or.inl ⟨by omega, by omega⟩
      · by_cases q : ly R rho 2 (i + x) < i
        · have lt := hL.lt h.1.1 hsp z1 q (by omega)
          have lt' : tk R (ly R rho 2 (i + x)) < tk R i := lt
          exact Or.inl ⟨q, by omega⟩
        · have x5 := W (ly R rho 2 (i + x) - i) (by omega) (by omega)
          rw [show i + (ly R rho 2 (i + x) - i) = ly R rho 2 (i + x) by omega] at x5
          exact Or.inr ⟨by omega, by omega, by omega, by rw [T4, W x x0 (by omega)]⟩
  have j1 : tk R j < cutR R 0 := by rw [tj]; exact (AT (j - i) (by omega) (by omega)).2
  have hT : isp (tp (cutR R)) (tk R i) (tk R j) := by
    refine ⟨ti0, by omega, j1, ?_, ?_⟩
    · have a := E2 0 (by omega) (by omega)
      have b := E2 (j - i) (by omega) (by omega)
      rw [show i + (0 : Int) = i by omega, show tk R i + (0 : Int) = tk R i by omega] at a
      rw [show i + (j - i) = j by omega, ← tj] at b
      have pi := h.1.1.pr (k := tk R i) ti0 (by show tk R i < cutR R 0; omega)
      have pj := h.1.1.pr (k := tk R j) (by omega) j1
      rcases a with a | a <;> rcases b with b | b
      · omega
      · omega
      · omega
      · rw [← a.2, ← b.2, s4]
    · have a := T4 i; have b := T4 j; omega
  have e3j : tp (cutR R) 3 (tk R j) = tk R i + (ly R rho 3 j - i) := by
    have := E3 (j - i) (by omega) (by omega)
    rw [show i + (j - i) = j by omega, ← tj] at this; exact this
  have hRT : RG (tp (cutR R)) (tk R i) (ly R rho 3 j - i) := by
    have := RG.of h.1.1 h.1.2.1 hT
    rw [e3j, show tk R i + (ly R rho 3 j - i) - tk R i = ly R rho 3 j - i by omega] at this
    exact this
  refine ⟨W, hT, e3j, fun x x0 x1 => by rw [W x x0 (by omega)]; exact C1 x x0 x1, hRG, hRT, hIs, fun x x0 x1 => ?_⟩
  have et : tk R (i + x) = tk R i + x := W x x0 (by omega)
  have nc : ¬ clR R (tk R (i + x)) ≠ -1 := by rw [et, C1 x x0 x1]; omega
  refine ⟨by rw [T4, et], ?_, ?_, ?_, ?_, ?_, ?_, ?_, fun e e0 e1 => ?_, fun y y0 y1 => ?_⟩
  · show (if clR R (tk R (i + x)) ≠ -1 then 0 else cutR R (161 + tk R (i + x))) = _
    rw [if_neg nc, et]; rfl
  · show (if clR R (tk R (i + x)) ≠ -1 then R (870 + clR R (tk R (i + x))) else cutR R (201 + tk R (i + x))) = _
    rw [if_neg nc, et]; rfl
  · show (if clR R (tk R (i + x)) ≠ -1 then rho (clR R (tk R (i + x))) else 16434824) = _
    rw [if_neg nc]
  · show (if clR R (tk R (i + x)) ≠ -1 then lset (R (910 + clR R (tk R (i + x)))) else uses (cutR R) (tk R (i + x))) = _
    rw [if_neg nc, et]; rfl
  · show (if clR R (tk R (i + x)) ≠ -1 then irem (R (910 + clR R (tk R (i + x)))) 16 + 1 + irem (R (950 + clR R (tk R (i + x)))) 16 else cutR R (241 + tk R (i + x))) = _
    rw [if_neg nc, et]; rfl
  · show (if clR R (tk R (i + x)) ≠ -1 then R (768 + R (870 + clR R (tk R (i + x)))) else tp (cutR R) 20 (tk R (i + x))) = _
    rw [if_neg nc, et]
  · show (if clR R (tk R (i + x)) ≠ -1 then lset (R (950 + clR R (tk R (i + x)))) else tp (cutR R) 22 (tk R (i + x))) = _
    rw [if_neg nc, et]
  · show (if clR R (tk R ((16 * (i + x) + e) / 16)) ≠ -1 then csets R (clR R (tk R ((16 * (i + x) + e) / 16))) ((16 * (i + x) + e) % 16) else tp (cutR R) 22 (tk R ((16 * (i + x) + e) / 16))) = (if cutR R (1 + (16 * (tk R i + x) + e) / 16) = 0 then ishl 1 (cutR R (201 + (16 * (tk R i + x) + e) / 16)) else 0)
    rw [show (16 * (i + x) + e) / 16 = i + x by omega, if_neg nc, et, show (16 * (tk R i + x) + e) / 16 = tk R i + x by omega]; rfl
  · show (if clR R (tk R ((16 * (i + x) + y) / 16)) ≠ -1 then _ else cutR R ((281 + (12 * tk R ((16 * (i + x) + y) / 16))) + (16 * (i + x) + y) % 16)) = _
    rw [show (16 * (i + x) + y) / 16 = i + x by omega, show (16 * (i + x) + y) % 16 = y by omega, if_neg nc, et, tp_12 ⟨y0, y1⟩]
end C
