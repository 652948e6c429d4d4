/-! method and formal, on both sides -/
/-- the class holds the row R as its present state -/
def Ci (M : sl_M) (R rho : Int → Int) : Prop := (0 ≤ M 0 0 4 ∧ M 0 0 4 < 8) ∧ St M (ps M) R rho ∧ (M 6 0 1 = 0 ∨ Sd M (ps M) (ly R rho))
section G
variable {R rho : Int → Int} {M : sl_M} {l : Launch} {Q : sl_R}
theorem Ci.cs (h : Ci M R rho) : Cs M (ly R rho) := ⟨h.1, h.2.1.2.2.1.1, h.2.1.stf, h.2.1.2.2.1.2.2.1, h.2.2⟩
theorem Ci.mv {N : sl_M} (h : Ci M R rho) (hC : Cs N (ly R rho)) (h4 : N 0 0 4 = M 0 0 4) (hN : ∀ o i j, 10 ≤ o → N o i j = M o i j) : Ci N R rho := by
  have e : ps N = ps M := by unfold ps; rw [h4]
  refine ⟨by rw [h4]; exact h.1, ?_, hC.2.2.2.2⟩
  rw [e]
  refine h.2.1.frame (fun o i j ho => hN o i j ?_)
  have := h.1
  unfold StA ps at ho
  omega
theorem Ci.cr {N : sl_M} {r : Int} (h : Ci M R rho) (hc : CR M N (ly R rho) r) : Ci N R rho := h.mv hc.2.2 (hc.1 0 0 4 (by omega)) (fun o i j z => hc.1 o i j (by omega))
theorem cls_psm (h : 0 ≤ M 0 0 4 ∧ M 0 0 4 < 8) : sl_cls (ps M) = 7 := (cls_ps h).1
theorem kX9_method (hC : Ci M R rho) (ht : Tc M) {m w : Int} (hQ : ∀ N, CR M N (ly R rho) (qMethod R m w).2 → Q (some (vI (qMethod R m w).1)) N) : sl_Runs l mX9_method [vR 0 0, vI m, vI w] M Q := by
  have hcs := hC.cs
  have h1 := hC.1
  have c1 := cls_psm h1
  have hS := hC.2.1
  have bad : ¬ ((0 ≤ m ∧ m < R 761) ∧ 0 ≤ w ∧ w ≤ 5) → sl_RI l mX9_refuse [vR 0 0, vI (-2)] M (fun y M => Q (some (vI y)) M) := fun z => kX9_refuse hcs ht (by omega) (fun N f => ⟨_, rfl, askc hQ (if_neg z) f⟩)
  refine eX9_method (vX9_method_0 fun _ _ _ => kX9_present h1 ⟨_, rfl, c1, kX7_hasRoutine c1 ⟨_, rfl, fun q => ?_, fun q => ?_⟩⟩)
  · refine bad fun z => ?_
    rw [hS.2.2.2.1, if_pos z.1] at q; omega
  · have hm : 0 ≤ m ∧ m < R 761 := by
      refine Classical.byContradiction fun z => ?_
      rw [hS.2.2.2.1, if_neg z] at q; omega
    refine ⟨fun q2 => bad (by omega), fun q2 => ⟨fun q3 => kX9_present h1 ⟨_, rfl, c1, ?_⟩, fun q3 => bad (by omega)⟩⟩
    exact kX7_routineProperty hS hm (by omega) ⟨_, rfl, askc hQ (if_pos ⟨hm, by omega⟩) (CF.rf.cr hcs)⟩
theorem kX5_formalAt {s : Nat} (h : St M s R rho) {m set k : Int} (hm : 0 ≤ m ∧ m < R 761) (hk : 0 ≤ k) (hQ : Q (some (vI (fnd k (od set [] (ocf (tp (cutR R)) (mf0 R m) (ml0 R m)))))) M) : sl_Runs l mX5_formalAt [vR (rO s m) 0, vI set, vI k] M Q := by
  obtain ⟨hs, hG, hC, h2, hR⟩ := h
  obtain ⟨r1, r2, r3, r4, r5⟩ := hR m hm.1 hm.2
  have mg := hG.2.2.1 m hm.1 hm.2
  have en := mg.ends hG.1
  have m3 := hG.2.1
  obtain ⟨c1, c2, c3⟩ := cls_r hs (m := m) (by omega)
  have n0 := r1.1.n0
  have e0 : bod R m 0 0 = tp (cutR R) 3 (ml0 R m) - mf0 R m := rfl
  rw [e0] at n0
  refine eX5_formalAt (vX5_formalAt_0 c1 fun _ _ _ => ?_)
  have ec : M (rO s m + 30) 0 11 = tp (cutR R) 3 (ml0 R m) - mf0 R m := r1.2.1.1
  rw [ec]
  refine ⟨by omega, kX0_pick c2 r1.1 r1.2.1 r1.2.2.1 ⟨by omega, by omega, by rw [e0]; omega⟩ hk ⟨_, rfl, ?_⟩⟩
  rw [sft_ocs, show (tp (cutR R) 3 (ml0 R m) - mf0 R m - 1 + 1 - 0).toNat = (tp (cutR R) 3 (ml0 R m) - mf0 R m).toNat by omega, Int.add_zero]
  exact hQ
theorem kX9_formal (hC : Ci M R rho) (ht : Tc M) {m w k : Int} (hQ : ∀ N, CR M N (ly R rho) (qFormal R m w k).2 → Q (some (vI (qFormal R m w k).1)) N) : sl_Runs l mX9_formal [vR 0 0, vI m, vI w, vI k] M Q := by
  have hcs := hC.cs
  have h1 := hC.1
  have c1 := cls_psm h1
  have hS := hC.2.1
  have bad : ¬ ((0 ≤ m ∧ m < R 761) ∧ (0 ≤ w ∧ w ≤ 1) ∧ 0 ≤ k) → sl_RI l mX9_refuse [vR 0 0, vI (-2)] M (fun y M => Q (some (vI y)) M) := fun z => kX9_refuse hcs ht (by omega) (fun N f => ⟨_, rfl, askc hQ (if_neg z) f⟩)
  refine eX9_formal (vX9_formal_0 fun _ _ _ _ => kX9_present h1 ⟨_, rfl, c1, kX7_hasRoutine c1 ⟨_, rfl, fun q => ?_, fun q => ?_⟩⟩)
  · refine bad fun z => ?_
    rw [hS.2.2.2.1, if_pos z.1] at q; omega
  · have hm : 0 ≤ m ∧ m < R 761 := by
      refine Classical.byContradiction fun z => ?_
      rw [hS.2.2.2.1, if_neg z] at q; omega
    have m3 := hS.2.1.2.1
    obtain ⟨r1, r2, r3, r4, r5⟩ := hS.2.2.2.2 m hm.1 hm.2
    refine ⟨fun q2 => bad (by omega), fun q2 => ⟨fun q3 => bad (by omega), fun q3 => ⟨fun q4 => kX9_present h1 ⟨_, rfl, c1, by omega, ?_⟩, fun q4 => bad (by omega)⟩⟩⟩
    refine kX5_formalAt hS hm q4 ⟨_, rfl, ?_⟩
    have e : (if w ≠ 0 then M (3 * ps M + m.toNat) 0 3 else M (3 * ps M + m.toNat) 0 2) = if w = 0 then iM R m else oM R m := by
      by_cases z : w = 0
      · rw [if_neg (fun u => u z), if_pos z]; exact r3
      · rw [if_pos z, if_neg z]; exact r4
    rw [e]
    refine askc hQ (Eq.trans (if_pos ⟨hm, by omega, q4⟩) ?_) (CF.rf.cr hcs)
    by_cases z : w = 0
    · rw [if_pos z, if_pos z]
    · rw [if_neg z, if_neg z]
theorem kX10_isMethod (hr : sl_rg (M 1 1 761 - 1)) {m : Int} (hQ : Q (some (vI (if 0 ≤ m ∧ m < M 1 1 761 then 1 else 0))) M) : sl_Runs l mX10_isMethod [vR 1 0, vI m] M Q := by
  refine eX10_isMethod (vX10_isMethod_0 fun _ _ => ⟨hr, ?_⟩)
  rw [b_congr (R := 0 ≤ m ∧ m < M 1 1 761) (by omega)]; exact hQ
theorem ol_len {R : Int → Int} {m : Int} : ∀ (n : Nat) (k : Int), (ol R m n k).length ≤ n := by
  intro n
  induction n with
  | zero => intro k; exact Nat.le_refl _
  | succ n ih =>
    intro k
    rw [ol]
    split
    · have := ih (k + 1); rw [List.length_cons]; omega
    · have := ih (k + 1); omega
theorem kX10_methodIs (hG : Good (M 1 1) rho) {m w : Int} (hm : 0 ≤ m ∧ m < M 1 1 761) (hw : 0 ≤ w ∧ w ≤ 5) (hQ : Q (some (vI (mPr (M 1 1) m w))) M) : sl_Runs l mX10_methodIs [vR 1 0, vI m, vI w] M Q := by
  have mg := hG.2.2.1 m hm.1 hm.2
  have en := mg.ends hG.1
  have m3 := hG.2.1
  have cs := hG.2.2.2.1
  have n40 := hG.1.1.n0
  have e0 : tp (cutR (M 1 1)) 0 0 = cutR (M 1 1) 0 := rfl
  rw [e0] at n40
  have sI := lpk_spec mg.2.2.1.2 (mg.li8 hG.1)
  have sO := lpk_spec (L := LOt (M 1 1) m) (by have := mg.2.2.2.1.2; omega) (mg.lo8 hG.1)
  have ml : ml0 (M 1 1) m = M 1 1 (765 + m) := rfl
  have mfe : mf0 (M 1 1) m = M 1 1 (762 + m) := rfl
  have te : tp (cutR (M 1 1)) 3 (ml0 (M 1 1) m) = M 1 1 (41 + M 1 1 (765 + m)) := cutR_eq (by omega) (by omega)
  have loop : ∀ (n : Nat) (x c : Int), c = M 1 1 789 - n → 0 ≤ c → 0 ≤ x → x + n ≤ 40 → x + (ol (M 1 1) m n c).length = (ol (M 1 1) m (M 1 1 789).toNat 0).length → sl_At l mX10_methodIs 5 [(0, vR 1 0), (1, vI m), (2, vI w), (3, vI x), (4, vI c)] [] M Q := by
    intro n
    induction n with
    | zero =>
      intro x c hc c0 x0 xn hx
      have hx : x = (ol (M 1 1) m (M 1 1 789).toNat 0).length := by rw [← hx]; show x = x + ((0 : Nat) : Int); omega
      unfold mPr at hQ
      refine vX10_methodIs_5 fun _ _ _ _ _ => ⟨fun _ => ⟨fun z => ⟨by omega, ?_⟩, fun z => ⟨by omega, ?_⟩, fun z => ⟨by omega, ?_⟩, fun z => ?_, fun z => ?_, fun z => ?_⟩, fun z => by omega⟩
      · rw [if_pos z] at hQ; exact hQ
      · rw [if_neg (by omega), if_pos z] at hQ
        rw [mg.2.2.1.1, sI.1]; exact hQ
      · rw [if_neg (by omega), if_neg (by omega), if_pos z] at hQ
        rw [mg.2.2.2.1.1, sO.1]; exact hQ
      · rw [if_neg (by omega), if_neg (by omega), if_neg (by omega), if_pos z] at hQ
        refine kX10_endOf (by omega) (by omega) ⟨_, rfl, by omega, by omega, ?_⟩
        rw [te] at hQ; exact hQ
      · rw [if_neg (by omega), if_neg (by omega), if_neg (by omega), if_neg (by omega), if_pos z] at hQ
        rw [hx]; exact hQ
      · rw [if_neg (by omega), if_neg (by omega), if_neg (by omega), if_neg (by omega), if_neg (by omega)] at hQ
        refine kX10_mayFail (TG.rdc hG.1 cs).1.2.1 hG.1.1 (TG.rdc hG.1 cs).2 (f := mf0 (M 1 1) m) (e := tp (cutR (M 1 1)) 3 (ml0 (M 1 1) m)) (by omega) (by omega) rfl te.symm ⟨by omega, by omega, by rw [e0]; omega⟩ (fun k k0 k1 => ?_) ⟨_, rfl, ?_⟩
        · have t := hG.1.2.2.2 k (by omega) (by omega)
          exact ⟨t.1, (hG.1.ev (t := k) (by omega) (by omega)).1⟩
        · have e : (if ¬ (cif (mf (tp (cutR (M 1 1))) (mf0 (M 1 1) m) (tp (cutR (M 1 1)) 3 (ml0 (M 1 1) m))) 1 0 = 0) then (1 : Int) else 0) = cif (mf (tp (cutR (M 1 1))) (mf0 (M 1 1) m) (tp (cutR (M 1 1)) 3 (ml0 (M 1 1) m))) 1 0 := by
            rcases cif01 (mf (tp (cutR (M 1 1))) (mf0 (M 1 1) m) (tp (cutR (M 1 1)) 3 (ml0 (M 1 1) m))) with q | q <;> rw [q] <;> rfl
          show Q (some (vI (if ¬ (cif (mf (tp (cutR (M 1 1))) (mf0 (M 1 1) m) (tp (cutR (M 1 1)) 3 (ml0 (M 1 1) m))) 1 0 = 0) then (1 : Int) else 0))) M
          rw [e]; exact hQ
    | succ n ih =>
      intro x c hc c0 x0 xn hx
      rw [ol] at hx
      refine vX10_methodIs_5 fun _ _ _ _ _ => ⟨fun z => by omega, fun _ => ⟨by omega, ?_, fun y ey => ⟨by omega, ?_⟩⟩⟩
      · split <;> omega
      · by_cases q : M 1 1 (870 + c) = m
        · rw [if_pos (by omega)] at ey
          rw [if_pos q, List.length_cons] at hx
          exact ih y (c + 1) (by omega) (by omega) (by omega) (by omega) (by omega)
        · rw [if_neg (by omega)] at ey
          rw [if_neg q] at hx
          exact ih y (c + 1) (by omega) (by omega) (by omega) (by omega) (by omega)
  exact eX10_methodIs (vX10_methodIs_0 fun _ _ _ => loop (M 1 1 789).toNat 0 0 (by omega) (by omega) (by omega) (by omega) (by omega))
theorem kX10_method (hG : Good (M 1 1) rho) (ht : Tl M) {m w : Int} (hQ : ∀ N, FR M N (qMethod (M 1 1) m w).2 → Q (some (vI (qMethod (M 1 1) m w).1)) N) : sl_Runs l mX10_method [vR 1 0, vI m, vI w] M Q := by
  have m3 := hG.2.1
  have rf : FR M M 0 := ⟨fun _ _ _ _ => rfl, fun j j1 j2 => by rw [if_neg (by omega)]; omega⟩
  refine eX10_method (vX10_method_0 fun _ _ _ => kX10_isMethod (by omega) ⟨_, rfl, fun q => ?_, fun q => ⟨fun q2 => ?_, fun q2 => ?_⟩⟩)
  · refine kX10_bad ht (fun O f2 => ⟨_, rfl, ask hQ (if_neg fun z => ?_) f2⟩)
    rw [if_pos z.1] at q; omega
  · exact kX10_bad ht (fun O f2 => ⟨_, rfl, ask hQ (if_neg fun z => q2 z.2) f2⟩)
  · have hm : 0 ≤ m ∧ m < M 1 1 761 := by
      refine Classical.byContradiction fun z => ?_
      rw [if_neg z] at q; omega
    exact kX10_methodIs hG hm q2 ⟨_, rfl, ask hQ (if_pos ⟨hm, q2⟩) rf⟩
theorem fnd_lpk {L : List Int} (h4 : L.length ≤ 4) (h8 : ∀ v, v ∈ L → 0 ≤ v ∧ v < 8) {k : Int} (hk : 0 ≤ k) : (if irem (lpk L) 16 ≤ k then (-1) else nib (lpk L) k) = fnd k L := by
  have s := lpk_spec h4 h8
  rw [s.1]
  unfold fnd
  by_cases c : (L.length : Int) ≤ k
  · rw [if_pos c, getD_none (by omega)]
  · rw [if_neg c]
    have := s.2 k.toNat (by omega)
    rw [show ((k.toNat : Nat) : Int) = k by omega] at this
    rw [this, List.getD_eq_getElem?_getD, List.getD_eq_getElem?_getD, List.getElem?_eq_getElem (by omega)]; rfl
theorem kX10_formal (hG : Good (M 1 1) rho) (ht : Tl M) {m w k : Int} (hQ : ∀ N, FR M N (qFormal (M 1 1) m w k).2 → Q (some (vI (qFormal (M 1 1) m w k).1)) N) : sl_Runs l mX10_formal [vR 1 0, vI m, vI w, vI k] M Q := by
  have m3 := hG.2.1
  have rf : FR M M 0 := ⟨fun _ _ _ _ => rfl, fun j j1 j2 => by rw [if_neg (by omega)]; omega⟩
  refine eX10_formal (vX10_formal_0 fun _ _ _ _ => kX10_isMethod (by omega) ⟨_, rfl, fun q => ?_, fun q => ⟨fun q2 => ?_, fun q2 => ⟨fun q3 => ⟨?_, ?_⟩, fun q3 => ?_⟩⟩⟩)
  · refine kX10_bad ht (fun O f2 => ⟨_, rfl, ask hQ (if_neg fun z => ?_) f2⟩)
    rw [if_pos z.1] at q; omega
  · exact kX10_bad ht (fun O f2 => ⟨_, rfl, ask hQ (if_neg fun z => q2 z.2.1) f2⟩)
  · have hm : 0 ≤ m ∧ m < M 1 1 761 := by
      refine Classical.byContradiction fun z => ?_
      rw [if_neg z] at q; omega
    split <;> omega
  · have hm : 0 ≤ m ∧ m < M 1 1 761 := by
      refine Classical.byContradiction fun z => ?_
      rw [if_neg z] at q; omega
    have mg := hG.2.2.1 m hm.1 hm.2
    refine ask hQ (Eq.trans (if_pos ⟨hm, q2, q3⟩) ?_) rf
    by_cases z : w = 0
    · rw [if_pos z, if_neg (show ¬ w ≠ 0 from fun u => u z), ← fnd_lpk mg.2.2.1.2 (mg.li8 hG.1) q3, ← mg.2.2.1.1]; rfl
    · rw [if_pos z, if_neg z, ← fnd_lpk (by have := mg.2.2.2.1.2; omega) (mg.lo8 hG.1) q3, ← mg.2.2.2.1.1]; rfl
  · exact kX10_bad ht (fun O f2 => ⟨_, rfl, ask hQ (if_neg fun z => q3 z.2.2) f2⟩)
end G
