/-! reads of the class -/
section S
variable {t B k rho : Int → Int} {L p q d : Int}
theorem rdL_inv (hL : L ≤ 160) : ∀ (n : Nat) (p d : Int) (B k : Int → Int), RIv L p d B k → (0 ≤ (rdL t L n (p, d, B, k)).2.1 ∧ (rdL t L n (p, d, B, k)).2.1 ≤ 160) ∧ ((rdL t L n (p, d, B, k)).1 ≠ 0 → RIv L (rdL t L n (p, d, B, k)).2.1 0 (rdL t L n (p, d, B, k)).2.2.2.1 (rdL t L n (p, d, B, k)).2.2.2.2) := by
  intro n
  induction n with
  | zero =>
    intro p d B k hI
    have hp := hI.1
    exact ⟨by show 0 ≤ p ∧ p ≤ 160; omega, fun z => (z rfl).elim⟩
  | succ n ih =>
    intro p d B k hI
    have hp := hI.1
    have rr := sp_rng (t := t) hp.2
    rw [rdL]
    by_cases c : L ≤ sp t L p
    · rw [if_pos c]
      refine ⟨by show 0 ≤ sp t L p ∧ sp t L p ≤ 160; omega, fun z => ?_⟩
      have d0 : d = 0 := Classical.byContradiction fun w => z (if_neg w)
      have := hI.le (p' := sp t L p) (by omega) (by omega)
      rw [d0] at this
      exact this
    · rw [if_neg c]
      by_cases c2 : (rdT t L (sp t L p) d B k).1 = 0
      · rw [if_pos c2]
        refine ⟨?_, fun z => (z c2).elim⟩
        have e : rdT t L (sp t L p) d B k = rdS t L (sp t L p) d B k := by
          unfold rdT at c2 ⊢
          by_cases y : t (sp t L p) = 125 ∧ 0 < d
          · rw [if_pos y, (rdC_inv (t := t) (q := sp t L p) hI y.2 (by omega)).2.2] at c2; omega
          · rw [if_neg y]
        show 0 ≤ (rdT t L (sp t L p) d B k).2.1 ∧ (rdT t L (sp t L p) d B k).2.1 ≤ 160
        rw [e]; exact rdS_rng hI (by omega) hL
      · rw [if_neg c2]
        exact ih _ _ _ _ (rdT_inv hI (by omega) c2).1
theorem rdA_inv (hL : 0 ≤ L ∧ L ≤ 160) : (0 ≤ (rdA t L).2.1 ∧ (rdA t L).2.1 ≤ 160) ∧ ((rdA t L).1 ≠ 0 → RIv L (rdA t L).2.1 0 (rdA t L).2.2.2.1 (rdA t L).2.2.2.2) := rdL_inv hL.2 161 0 0 _ _ (RIv.nil hL.1)
/-! a program that was read has no calls -/
theorem RIv.cut (h : RIv L p d B k) : cutR B = B := by
  funext j
  unfold cutR
  by_cases c : 0 ≤ j ∧ j ≤ 760
  · rw [if_pos c]
  · rw [if_neg c]; exact (h.2.2.2.2 j c).symm
theorem clR_0 {R : Int → Int} (h : R 789 = 0) (t : Int) : clR R t = -1 := by
  show cat R t (40 + 1) 0 = -1
  rw [cat, if_pos (by omega)]
theorem lay_0 {cl E : Int → Int} (h : ∀ t, cl t = -1) : ∀ n : Nat, nf cl E n = n ∧ ixn cl E n = n ∧ nd cl E n = n := by
  have nx : ∀ t, nxt cl E t = t + 1 := fun t => if_neg (fun z => z (h t))
  intro n
  induction n with
  | zero => exact ⟨rfl, rfl, rfl⟩
  | succ n ih =>
    obtain ⟨a, b, c⟩ := ih
    refine ⟨?_, ?_, ?_⟩
    · rw [nf, a, if_pos (Int.le_refl _), nx]; omega
    · rw [ixn, a, b, if_pos (Int.le_refl _)]; omega
    · rw [nd, c, nx]; omega
theorem RIv.good (h : RIv L p 0 B k) (hL : L ≤ 160) : Good B rho := by
  have c := h.cut
  have h1 : B 761 = 0 := h.2.2.2.2 761 (by omega)
  have h2 : B 789 = 0 := h.2.2.2.2 789 (by omega)
  have hp := h.1
  refine ⟨by rw [c]; exact h.2.2.1.tg (by omega), by omega, fun m m0 m1 => by omega, by omega, fun m m0 m1 => by omega, fun c d c0 c1 => by omega⟩
theorem RIv.cda (h : RIv L p 0 B k) (hL : L ≤ 160) {M : sl_M} {c : Nat} (hC : CdA M c (tp B)) : CdA M c (ly B rho) := by
  have hG : Good B rho := h.good hL
  have ec := h.cut
  have h2 : B 789 = 0 := h.2.2.2.2 789 (by omega)
  have cl := clR_0 h2
  have l0 := lay_0 (E := eR B) cl
  have n0 : 0 ≤ B 0 ∧ B 0 ≤ 40 := h.2.2.1.1.n0
  have tk0 : ∀ j, 0 ≤ j → tk B j = j := fun j j0 => by
    show nd (clR B) (eR B) j.toNat = j
    rw [(l0 j.toNat).2.2]; omega
  have c0 : ∀ j, ¬ (clR B j ≠ -1) := fun j z => z (cl j)
  refine hC.cong hG.wf ?_ (fun j j0 j1 => ?_)
  · show ixn (clR B) (eR B) (cutR B 0).toNat = B 0
    rw [ec, (l0 _).2.1]; omega
  · have j1' : j < B 0 := j1
    have pr : -1 ≤ B (81 + j) ∧ B (81 + j) < j := h.2.2.1.1.pr (k := j) j0 j1
    have af : j < B (41 + j) ∧ B (41 + j) ≤ B 0 := h.2.2.1.1.af (k := j) j0 j1
    refine ⟨?_, ?_, ?_, ?_, ?_, ?_, ?_, ?_, ?_, fun i i0 i1 => ?_⟩
    · show (if clR B (tk B j) ≠ -1 then (7 : Int) else cutR B (1 + tk B j)) = B (1 + j)
      rw [if_neg (c0 _), ec, tk0 j j0]
    · show ix (clR B) (eR B) (cutR B (81 + tk B j)) = B (81 + j)
      rw [ec, tk0 j j0]
      unfold ix
      by_cases z : B (81 + j) < 0
      · rw [if_pos z]; omega
      · rw [if_neg z, (l0 _).2.1]; omega
    · show (if clR B (tk B j) ≠ -1 then j + 1 else ixn (clR B) (eR B) (cutR B (41 + tk B j)).toNat) = B (41 + j)
      rw [if_neg (c0 _), ec, tk0 j j0, (l0 _).2.1]; omega
    · show cutR B (121 + tk B j) = B (121 + j)
      rw [ec, tk0 j j0]
    · show (if clR B (tk B j) ≠ -1 then (0 : Int) else cutR B (161 + tk B j)) = B (161 + j)
      rw [if_neg (c0 _), ec, tk0 j j0]
    · show (if clR B (tk B j) ≠ -1 then B (870 + clR B (tk B j)) else cutR B (201 + tk B j)) = B (201 + j)
      rw [if_neg (c0 _), ec, tk0 j j0]
    · show (if clR B (tk B j) ≠ -1 then rho (clR B (tk B j)) else 16434824) = tp B 7 j
      rw [if_neg (c0 _), tp_7]
    · show (if clR B (tk B j) ≠ -1 then lset (B (910 + clR B (tk B j))) else uses (cutR B) (tk B j)) = uses B j
      rw [if_neg (c0 _), ec, tk0 j j0]
    · show (if clR B (tk B j) ≠ -1 then irem (B (910 + clR B (tk B j))) 16 + 1 + irem (B (950 + clR B (tk B j))) 16 else cutR B (241 + tk B j)) = B (241 + j)
      rw [if_neg (c0 _), ec, tk0 j j0]
    · have i1' : i < B (241 + j) := i1
      have l12 := (h.2.2.1.2.2.2 j j0 j1').2.2.1
      rw [tp12 i0 (by omega)]
      have e : ly B rho 12 (16 * j + i) = (if clR B (tk B ((16 * j + i) / 16)) ≠ -1 then (if (16 * j + i) % 16 < irem (B (910 + clR B (tk B ((16 * j + i) / 16)))) 16 then 97 + nib (B (910 + clR B (tk B ((16 * j + i) / 16)))) ((16 * j + i) % 16) else if (16 * j + i) % 16 = irem (B (910 + clR B (tk B ((16 * j + i) / 16)))) 16 then 62 else 97 + nib (B (950 + clR B (tk B ((16 * j + i) / 16)))) ((16 * j + i) % 16 - irem (B (910 + clR B (tk B ((16 * j + i) / 16)))) 16 - 1)) else cutR B ((281 + (12 * tk B ((16 * j + i) / 16))) + (16 * j + i) % 16)) := rfl
      rw [e, if_neg (c0 _), ec, tk0 _ (by omega), show (16 * j + i) / 16 = j by omega, show (16 * j + i) % 16 = i by omega]
end S
/-- the class went on to a new state, the reader may have changed -/
def CAr (M N : sl_M) (R2 rho2 : Int → Int) : Prop := (∀ o i j, ¬ (o = 2 ∨ (6 ≤ o ∧ o ≤ 9) ∨ (o = 0 ∧ i = 0 ∧ (j = 4 ∨ j = 5)) ∨ StA (10 + ((M 0 0 4 + 1) % 8).toNat) o) → N o i j = M o i j) ∧ N 0 0 4 = (M 0 0 4 + 1) % 8 ∧ N 0 0 5 = min (M 0 0 5 + 1) 6 ∧ Ci N R2 rho2
/-- only the reader and the spare state have changed -/
def CSp (M N : sl_M) : Prop := ∀ o i j, ¬ (o = 2 ∨ StA (10 + ((M 0 0 4 + 1) % 8).toNat) o) → N o i j = M o i j
section K
variable {l : Launch} {M : sl_M} {Q : sl_R} {t R rho rho2 : Int → Int} {L : Int}
theorem kX9_reads (h1 : 0 ≤ M 0 0 4 ∧ M 0 0 4 < 8) (h5 : 0 ≤ M 0 0 5 ∧ M 0 0 5 ≤ 6) (eL : M 0 0 1 = L) (hL : 0 ≤ L ∧ L ≤ 160) (ht : M 0 1 = t) (hn : ∀ q, 0 ≤ q → q < L → 0 ≤ t q) (hF : (rdA t L).1 = 0 → ∀ N, CSp M N → Q (some (vI (-10 - (rdA t L).2.1))) N) (hQ : (rdA t L).1 ≠ 0 → ∀ N, CAr M N (rdA t L).2.2.2.1 rho2 → Q (some (vI ((rdA t L).2.2.2.1 0))) N) : sl_Runs l mX9_reads [vR 0 0] M Q := by
  have c2 := cls_spr h1
  have cp := cl_prog c2
  have iv := rdA_inv (t := t) hL
  refine eX9_reads (vX9_reads_0 fun _ => kX9_spare h1 ⟨_, rfl, c2, fun M3 e3 => ?_⟩)
  have f3 : ∀ (o i : Nat) (j : Int), ¬ (o = 10 + ((M 0 0 4 + 1) % 8).toNat ∧ i = 0 ∧ j = 2) → M3 o i j = M o i j := fun o i j z => by rw [e3]; simp only [sl_wr]; rw [if_neg z]
  rw [f3 0 0 1 (by omega), eL]
  refine kX4_parse cp (by omega) hL (by funext x; rw [f3 0 1 x (by omega), ht]) hn (fun z N fN n4 => ⟨_, rfl, fun w => (w rfl).elim, fun _ => ?_⟩) (fun z N fN nC => ⟨_, rfl, fun _ => ?_, fun w => absurd (by show (1 : Int) ≠ 0; omega) w⟩)
  · rw [n4]
    refine ⟨by omega, hF z N (fun o i j w => ?_)⟩
    unfold StA at w
    rw [fN o i j (by omega), f3 o i j (by omega)]
  · have n4 : N 0 0 4 = M 0 0 4 := by rw [fN 0 0 4 (by omega), f3 0 0 4 (by omega)]
    have n5 : N 0 0 5 = M 0 0 5 := by rw [fN 0 0 5 (by omega), f3 0 0 5 (by omega)]
    refine kX9_advance (by rw [n4]; exact h1) (by rw [n5]; exact h5) (fun O g a b c => ⟨rfl, ?_⟩)
    rw [n4] at a; rw [n5] at b
    have hI := iv.2 z
    have oC : CdA O (10 + ((M 0 0 4 + 1) % 8).toNat + 10) (ly (rdA t L).2.2.2.1 rho2) := hI.cda hL.2 (nC.frame (fun i j => g _ i j (by omega)))
    have o2 : O (10 + ((M 0 0 4 + 1) % 8).toNat) 0 2 = 0 := by
      rw [g _ 0 2 (by omega), fN _ 0 2 (by omega), e3]; exact sl_wr_s
    have b761 : (rdA t L).2.2.2.1 761 = 0 := hI.2.2.2.2 761 (by omega)
    have ep : ps O = 10 + ((M 0 0 4 + 1) % 8).toNat := by unfold ps; rw [a]
    have e11 : O (10 + ((M 0 0 4 + 1) % 8).toNat + 10) 0 11 = (rdA t L).2.2.2.1 0 := by
      rw [g _ 0 11 (by omega)]; exact nC.2.1.1
    show Q (some (vI (O (10 + ((M 0 0 4 + 1) % 8).toNat + 10) 0 11))) O
    rw [e11]
    refine hQ z O ⟨fun o i j w => ?_, a, b, by rw [a]; omega, ?_, Or.inl c⟩
    · unfold StA at w
      rw [g o i j (by omega), fN o i j (by omega), f3 o i j (by omega)]
    · rw [ep]
      exact ⟨c2, hI.good hL.2, oC, by rw [o2, b761], fun m m0 m1 => by omega⟩
end K
