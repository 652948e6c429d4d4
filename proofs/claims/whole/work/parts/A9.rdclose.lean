/-! A block is closed; all turns -/
theorem WF.same {P P' : Pg} (h : WF P) (h0 : P' 0 0 = P 0 0) (hr : ∀ k, 0 ≤ k → k < P 0 0 → P' 1 k = P 1 k ∧ P' 2 k = P 2 k ∧ P' 3 k = P 3 k ∧ P' 4 k = P 4 k) : WF P' := by
  refine ⟨by rw [h0]; exact h.1, by rw [h0]; exact h.2.1, fun k k0 k1 => ?_⟩
  rw [h0] at k1
  obtain ⟨e1, e2, e3, e4⟩ := hr k k0 k1
  obtain ⟨b1, b2, b3, b4, b5, b6, b7, b8⟩ := h.2.2 k k0 k1
  rw [h0, e1, e2, e3, e4]
  refine ⟨b1, b2, fun z => ?_, fun j j0 j1 j2 => ?_, b5, b6, b7, fun z z6 => ?_⟩
  · obtain ⟨f1, f2, f3, f4⟩ := hr (P 2 k) z (by omega)
    rw [f1, f3]; exact b3 z
  · rw [(hr j j0 (by omega)).2.2.1]; exact b4 j j0 j1 j2
  · rw [(hr (P 2 k) z (by omega)).1] at z6; exact b8 z z6
section S
variable {t B k : Int → Int} {L p q d : Int}
theorem RIv.le {p' : Int} (h : RIv L p d B k) (h1 : p ≤ p') (h2 : p' ≤ L) : RIv L p' d B k := by
  obtain ⟨hp, hd, hT, hS, hz⟩ := h
  exact ⟨by omega, hd, ⟨hT.1, hT.2.1, Int.le_trans hT.2.2.1 h1, hT.2.2.2⟩, hS, hz⟩
theorem RIv.pop (h : RIv L p d B k) (hd : 0 < d) : RIv L p (d - 1) B k := by
  obtain ⟨hp, hd, hT, hS, hz⟩ := h
  exact ⟨hp, by omega, hT, fun a a0 a1 => hS a a0 (by omega), hz⟩
theorem rdC_inv (h : RIv L p d B k) (hd0 : 0 < d) (hq : p ≤ q ∧ q < L) : RIv L (rdC t L q d B k).2.1 (rdC t L q d B k).2.2.1 (rdC t L q d B k).2.2.2.1 (rdC t L q d B k).2.2.2.2 ∧ q < (rdC t L q d B k).2.1 ∧ (rdC t L q d B k).1 = 1 := by
  have r := sp_rng (t := t) (L := L) (p := q + 1) (by omega)
  unfold rdC
  by_cases c : B (1 + k (d - 1)) = 5 ∧ B (161 + k (d - 1)) = 0
  · rw [if_pos c]
    by_cases c2 : ch t L (sp t L (q + 1)) = 123
    · rw [if_pos c2]
      have lt : sp t L (q + 1) < L := by
        refine Classical.byContradiction fun z => ?_
        unfold ch at c2
        rw [if_pos (by omega)] at c2; omega
      refine ⟨?_, by show q < sp t L (q + 1) + 1; omega, rfl⟩
      show RIv L (sp t L (q + 1) + 1) d (elB B (k (d - 1))) k
      obtain ⟨hp, hd, hT, hS, hz⟩ := h
      obtain ⟨u1, u2, u3, u4, u5, u6⟩ := hS (d - 1) (by omega) (by omega)
      generalize k (d - 1) = u at *
      have n0 : 0 ≤ B 0 ∧ B 0 ≤ 40 := hT.1.n0
      have f : ∀ j, j ≠ 161 + u → elB B u j = B j := fun j z => if_neg z
      have fu : elB B u (161 + u) = 1 := if_pos rfl
      generalize elB B u = B2 at *
      have f0 : B2 0 = B 0 := f 0 (by omega)
      have w : WF (tp B2) := hT.1.same f0 (fun j j0 j1 => by
        have j1' : j < B 0 := j1
        exact ⟨f _ (by omega), f _ (by omega), f _ (by omega), f _ (by omega)⟩)
      refine ⟨by omega, by rw [f0]; exact hd, ⟨w, fun a b a0 ab b1 e => ?_, ?_, fun j j0 j1 => ?_⟩, fun a a0 a1 => ?_, fun j z => ?_⟩
      · have b1' : b < B 0 := by rw [← f0]; exact b1
        have e' : B2 (81 + a) = B2 (81 + b) := e
        show B2 (121 + a) ≤ B2 (121 + b)
        rw [f _ (by omega), f _ (by omega)] at e'
        rw [f _ (by omega), f _ (by omega)]
        exact hT.2.1 a b a0 ab b1' e'
      · rw [f0, wt_eq (P := tp B) (B 0).toNat (fun j j0 j1 => ⟨f _ (by omega), f _ (by omega)⟩)]
        have := hT.2.2.1
        omega
      · rw [f0] at j1
        have tj := hT.2.2.2 j j0 j1
        have pj : B (81 + j) < j := (hT.1.pr (k := j) j0 (by show j < B 0; omega)).2
        refine tj.old (f _ (by omega)) (f _ (by omega)) (f _ (by omega)) (fun i i0 i1 => f _ (by omega)) ?_ ?_
        · rw [f _ (by omega)]
          refine la_eq (n := B 0) (fun a a0 a1 => ⟨f _ (by omega), f _ (by omega), ?_⟩) 40 _ (by omega)
          have : B (81 + a) < a := (hT.1.pr (k := a) a0 (by show a < B 0; omega)).2
          show B (81 + a) < B 0
          omega
        · by_cases e : j = u
          · rw [e, fu]; exact Or.inr rfl
          · rw [f _ (by omega)]; exact tj.2.2.2.2.2.2
      · obtain ⟨s1, s2, s3, s4, s5, s6⟩ := hS a a0 a1
        rw [f0, f (1 + k a) (by omega), f (41 + k a) (by omega), f (81 + k a) (by omega)]
        refine ⟨s1, s2, s3, s4, fun z => ?_, fun y y0 y1 e => ?_⟩
        · rw [f _ (fun w => by
            have : k a = u := by omega
            rw [this, c.1] at z; omega)]
          exact s5 z
        · rw [f _ (by omega)] at e
          rw [f (121 + y) (by omega)]
          by_cases eu : k a = u
          · rw [eu, fu]
            have : B (121 + y) = 0 ∨ B (121 + y) = 1 := hT.1.sd (k := y) y0 y1
            omega
          · rw [f _ (by omega)]; exact s6 y y0 y1 e
      · rw [f j (by omega)]; exact hz j z
    · rw [if_neg c2]
      exact ⟨(h.pop hd0).le (p' := sp t L (q + 1)) (by omega) (by omega), by show q < sp t L (q + 1); omega, rfl⟩
  · rw [if_neg c]
    exact ⟨(h.pop hd0).le (p' := q + 1) (by omega) (by omega), by show q < q + 1; omega, rfl⟩
theorem rdT_inv (h : RIv L p d B k) (hq : p ≤ q ∧ q < L) (hr : (rdT t L q d B k).1 ≠ 0) : RIv L (rdT t L q d B k).2.1 (rdT t L q d B k).2.2.1 (rdT t L q d B k).2.2.2.1 (rdT t L q d B k).2.2.2.2 ∧ q < (rdT t L q d B k).2.1 ∧ (rdT t L q d B k).1 = 1 := by
  unfold rdT at hr ⊢
  by_cases c : t q = 125 ∧ 0 < d
  · rw [if_pos c]; exact rdC_inv h c.2 hq
  · rw [if_neg c] at hr ⊢; exact rdS_inv h hq hr
theorem RIv.nil (hL : 0 ≤ L) : RIv L 0 0 (fun _ => 0) k := by
  refine ⟨by omega, ⟨Int.le_refl _, Int.le_refl _⟩, ⟨WF.nil rfl, fun a b a0 ab b1 e => ?_, Int.le_refl _, fun j j0 j1 => ?_⟩, fun a a0 a1 => by omega, fun _ _ => rfl⟩
  · have : b < 0 := b1
    omega
  · have : j < 0 := j1
    omega
theorem rdS_rng (h : RIv L p d B k) (hq : p ≤ q ∧ q < L) (hL : L ≤ 160) : 0 ≤ (rdS t L q d B k).2.1 ∧ (rdS t L q d B k).2.1 ≤ 160 := by
  have hp := h.1
  have r1 := sp_rng (t := t) (L := L) (p := q + 1) (by omega)
  unfold rdS
  generalize kdA (t q) = x at *
  by_cases b : rdB x d B k
  · rw [if_pos b]; show 0 ≤ q ∧ q ≤ 160; omega
  · rw [if_neg b]
    by_cases c1 : x = 0 ∧ ch t L (sp t L (q + 1)) ≠ 61
    · rw [if_pos c1]; show 0 ≤ sp t L (q + 1) ∧ sp t L (q + 1) ≤ 160; omega
    · rw [if_neg c1]
      have pr := stP_rng (t := t) (x := x) hq.2 (fun z => Classical.byContradiction fun w => c1 ⟨z, w⟩)
      obtain ⟨e1, e2, e3, e4', e5, e6, e7⟩ := stE_ok (t := t) (q := q) (x := x) (B := B) pr.2.2
      generalize stE t L q x B = E at *
      have sr := sp_rng (t := t) e3
      by_cases c2 : E.1 = 0
      · rw [if_pos c2]; show 0 ≤ E.2.1 ∧ E.2.1 ≤ 160; omega
      · rw [if_neg c2]
        by_cases c3 : ch t L (sp t L E.2.1) ≠ (if isO x then 123 else 59)
        · rw [if_pos c3]; show 0 ≤ sp t L E.2.1 ∧ sp t L E.2.1 ≤ 160; omega
        · rw [if_neg c3]
          have lt : sp t L E.2.1 < L := by
            refine Classical.byContradiction fun z => c3 ?_
            unfold ch
            rw [if_pos (by omega)]
            split <;> omega
          show 0 ≤ sp t L E.2.1 + 1 ∧ sp t L E.2.1 + 1 ≤ 160
          omega
end S
