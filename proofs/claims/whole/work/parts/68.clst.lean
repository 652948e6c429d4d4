/-! The class: questions of its present program -/
/-- the present state -/
def ps (M : sl_M) : Nat := 10 + (M 0 0 4).toNat
def Cs (M : sl_M) (P : Pg) : Prop := (0 ≤ M 0 0 4 ∧ M 0 0 4 < 8) ∧ WF P ∧ StF M (ps M) P ∧ CdS M (ps M + 10) P ∧ (M 6 0 1 = 0 ∨ Sd M (ps M) P)
/-- what a question leaves -/
def CF (M N : sl_M) : Prop := ∀ o i j, ¬ (6 ≤ o ∧ o ≤ 9) → N o i j = M o i j
/-- a question answered with refusal r -/
def CR (M N : sl_M) (P : Pg) (r : Int) : Prop := (∀ o i j, ¬ ((6 ≤ o ∧ o ≤ 9) ∨ (o = 0 ∧ i = 3)) → N o i j = M o i j) ∧ (∀ j, 0 ≤ j → j < 3 → N 0 3 j = M 0 3 j + (if j = r - 1 then 1 else 0)) ∧ Cs N P
def Tc (M : sl_M) : Prop := ∀ j, 0 ≤ j → j < 3 → 0 ≤ M 0 3 j ∧ M 0 3 j < 2147483647
section K
variable {l : Launch} {M : sl_M} {Q : sl_R} {P : Pg}
theorem cls_ps (h : 0 ≤ M 0 0 4 ∧ M 0 0 4 < 8) : sl_cls (ps M) = 7 ∧ sl_cls (ps M + 10) = 0 := by
  have d : ∀ n : Nat, n < 8 → sl_cls (10 + n) = 7 ∧ sl_cls (10 + n + 10) = 0 := by decide +kernel
  exact d _ (by omega)
theorem CdS.frame {N : sl_M} {c : Nat} (h : CdS M c P) (hN : ∀ i j, N c i j = M c i j) : CdS N c P := by
  intro k k0 k1
  obtain ⟨h1, h2, h3, h4, h5, h6, h7, h8, h9⟩ := h k k0 k1
  rw [hN, hN, hN, hN, hN, hN]
  exact ⟨h1, h2, h3, fun i i0 i1 => by rw [hN]; exact h4 i i0 i1, h5, h6, h7, h8, h9⟩
theorem Cs.mv {N : sl_M} (h : Cs M P) (hN : ∀ o i j, ¬ ((6 ≤ o ∧ o ≤ 9) ∨ (o = 0 ∧ i = 3)) → N o i j = M o i j) (hd : N 6 0 1 = 0 ∨ Sd N (ps M) P) : Cs N P := by
  obtain ⟨h1, h2, h3, h4, h5⟩ := h
  have e : N 0 0 4 = M 0 0 4 := hN 0 0 4 (by omega)
  have ep : ps N = ps M := by unfold ps; rw [e]
  have p10 : 10 ≤ ps M := by unfold ps; omega
  unfold Cs
  rw [ep, e]
  refine ⟨h1, h2, h3.frame h2 (fun o i j z => hN o i j ?_), h4.frame (fun i j => hN _ i j (by omega)), hd⟩
  unfold StO at z
  omega
theorem kX9_present (h : 0 ≤ M 0 0 4 ∧ M 0 0 4 < 8) (hQ : Q (some (vR (ps M) 0)) M) : sl_Runs l mX9_present [vR 0 0] M Q := eX9_present (vX9_present_0 fun _ => ⟨h, hQ⟩)
theorem kX9_refuse (hC : Cs M P) (ht : Tc M) {x : Int} (hx : -4 ≤ x ∧ x ≤ -2) (hQ : ∀ N, CR M N P (-1 - x) → Q (some (vI x)) N) : sl_Runs l mX9_refuse [vR 0 0, vI x] M Q := by
  have := ht (-2 - x) (by omega) (by omega)
  refine eX9_refuse (vX9_refuse_0 fun _ _ => ⟨by omega, fun y ey => ⟨fun q => by omega, fun q => ⟨fun q2 => by omega, fun q2 => ⟨by omega, by rw [ey]; omega, fun N e => hQ N ?_⟩⟩⟩⟩)
  have f : ∀ o i j, ¬ ((6 ≤ o ∧ o ≤ 9) ∨ (o = 0 ∧ i = 3)) → N o i j = M o i j := fun o i j z => by rw [e]; simp only [sl_wr]; rw [if_neg (by omega)]
  refine ⟨f, fun j j0 j1 => ?_, hC.mv f ?_⟩
  · rw [e]; simp only [sl_wr]
    by_cases z : j = y
    · subst z; simp; omega
    · rw [if_neg (by omega), if_neg (by omega)]; omega
  · have e6 : ∀ i, N 6 i = M 6 i := by intro i; funext j; rw [e]; simp only [sl_wr]; rw [if_neg (by omega)]
    unfold Sd
    rw [e6, e6, e6]
    exact hC.2.2.2.2
theorem CR.tr {N O : sl_M} {r : Int} (h1 : CF M N) (h2 : CR N O P r) : CR M O P r := by
  refine ⟨fun o i j z => ?_, fun j j0 j1 => ?_, h2.2.2⟩
  · rw [h2.1 o i j z]; exact h1 o i j (by omega)
  · rw [h2.2.1 j j0 j1, h1 0 3 j (by omega)]
theorem CF.cr {N : sl_M} (h : CF M N) (hC : Cs N P) : CR M N P 0 := ⟨fun o i j z => h o i j (by omega), fun j j0 j1 => by rw [h 0 3 j (by omega), if_neg (by omega)]; omega, hC⟩
theorem CF.tc {N : sl_M} (h : CF M N) (ht : Tc M) : Tc N := fun j j0 j1 => by rw [h 0 3 j (by omega)]; exact ht j j0 j1
/-- a span is examined, if it is one -/
theorem kX9_choose (hC : Cs M P) {i j : Int} (hQ : ∀ N, CF M N → Cs N P → (isp P i j → SpM N 7 P i j ∧ Sd N (ps M) P) → Q (some (vI (if isp P i j then 1 else 0))) N) : sl_Runs l mX9_choose [vR 0 0, vI i, vI j] M Q := by
  have hC' := hC
  obtain ⟨h1, hw, h3, h4, h5⟩ := hC
  obtain ⟨c1, c2⟩ := cls_ps h1
  have hn := hw.n0
  have p10 : 10 ≤ ps M := by unfold ps; omega
  refine eX9_choose (vX9_choose_0 fun _ _ _ => kX9_present h1 ⟨_, rfl, c1, kX0_isSpan c2 h3.2.1 hn.2 ⟨_, rfl, fun q => ?_, fun q => ?_⟩⟩)
  · have hs : isp P i j := by
      refine Classical.byContradiction fun z => ?_
      rw [if_neg z] at q; omega
    rw [if_pos hs] at hQ
    refine kX9_present h1 ⟨_, rfl, c1, kX1_study hw h3 h5 (fun N n1 n2 n3 => ⟨rfl, ?_⟩)⟩
    have f3 : StF N (ps M) P := h3.frame hw (fun o a b z => n3 o a b (by unfold StO at z; omega))
    refine kX1_examine hw f3 n2 (Or.inl rfl) hs (fun O s1 s2 s3 => ⟨rfl, ?_⟩)
    have f : CF M O := fun o a b z => by rw [s3 o a b (by omega) (by omega), n3 o a b (by omega)]
    exact hQ O f (hC'.mv (fun o a b z => f o a b (by omega)) (Or.inr s2)) (fun _ => ⟨s1, s2⟩)
  · have hs : ¬ isp P i j := fun z => by rw [if_pos z] at q; omega
    rw [if_neg hs] at hQ
    exact hQ M (fun _ _ _ _ => rfl) hC' (fun z => (hs z).elim)
theorem askc {N : sl_M} {q : Int × Int} {a r : Int} (hQ : ∀ N, CR M N P q.2 → Q (some (vI q.1)) N) (e : q = (a, r)) (h : CR M N P r) : Q (some (vI a)) N := by
  subst e
  exact hQ N h
theorem CF.rf : CF M M := fun _ _ _ _ => rfl
theorem kX9_statement (hC : Cs M P) (ht : Tc M) {k w : Int} (hQ : ∀ N, CR M N P (qStatement P k w).2 → Q (some (vI (qStatement P k w).1)) N) : sl_Runs l mX9_statement [vR 0 0, vI k, vI w] M Q := by
  have hC' := hC
  obtain ⟨h1, hw, h3, h4, h5⟩ := hC
  obtain ⟨c1, c2⟩ := cls_ps h1
  have bad : ¬ ((0 ≤ k ∧ k < P 0 0) ∧ 0 ≤ w ∧ w ≤ 6) → sl_RI l mX9_refuse [vR 0 0, vI (-2)] M (fun y M => Q (some (vI y)) M) := fun z => kX9_refuse hC' ht (by omega) (fun N f => ⟨_, rfl, askc hQ (if_neg z) f⟩)
  refine eX9_statement (vX9_statement_0 fun _ _ _ => kX9_present h1 ⟨_, rfl, c1, kX0_holds c2 ⟨_, rfl, fun q => ?_, fun q => ?_⟩⟩)
  · refine bad fun z => ?_
    rw [h3.2.1.1, if_pos z.1] at q; omega
  · have hk : 0 ≤ k ∧ k < P 0 0 := by
      refine Classical.byContradiction fun z => ?_
      rw [h3.2.1.1, if_neg z] at q; omega
    refine ⟨fun q2 => bad (by omega), fun q2 => ⟨fun q3 => ?_, fun q3 => bad (by omega)⟩⟩
    exact kX0_property c2 hw h3.2.1 h4 hk (by omega) ⟨_, rfl, askc hQ (if_pos ⟨hk, by omega⟩) (CF.rf.cr hC')⟩
theorem kX9_sign (hC : Cs M P) (ht : Tc M) {k i : Int} (hQ : ∀ N, CR M N P (qSign P k i).2 → Q (some (vI (qSign P k i).1)) N) : sl_Runs l mX9_sign [vR 0 0, vI k, vI i] M Q := by
  have hC' := hC
  obtain ⟨h1, hw, h3, h4, h5⟩ := hC
  obtain ⟨c1, c2⟩ := cls_ps h1
  have bad : ¬ ((0 ≤ k ∧ k < P 0 0) ∧ 0 ≤ i) → sl_RI l mX9_refuse [vR 0 0, vI (-2)] M (fun y M => Q (some (vI y)) M) := fun z => kX9_refuse hC' ht (by omega) (fun N f => ⟨_, rfl, askc hQ (if_neg z) f⟩)
  refine eX9_sign (vX9_sign_0 fun _ _ _ => kX9_present h1 ⟨_, rfl, c1, kX0_holds c2 ⟨_, rfl, fun q => ?_, fun q => ?_⟩⟩)
  · refine bad fun z => ?_
    rw [h3.2.1.1, if_pos z.1] at q; omega
  · have hk : 0 ≤ k ∧ k < P 0 0 := by
      refine Classical.byContradiction fun z => ?_
      rw [h3.2.1.1, if_neg z] at q; omega
    refine ⟨fun q3 => ?_, fun q3 => bad (by omega)⟩
    exact kX0_symbol c2 hw h4 hk q3 ⟨_, rfl, askc hQ (if_pos ⟨hk, q3⟩) (CF.rf.cr hC')⟩
end K
