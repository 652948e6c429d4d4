/-! The class: questions of a span -/
section K
variable {l : Launch} {M : sl_M} {Q : sl_R} {P : Pg}
theorem isp_yes {i j : Int} (q : (if isp P i j then (1 : Int) else 0) ≠ 0) : isp P i j := by
  refine Classical.byContradiction fun z => ?_
  rw [if_neg z] at q; omega
theorem isp_no {i j : Int} (q : ¬ (if isp P i j then (1 : Int) else 0) ≠ 0) : ¬ isp P i j := fun z => by rw [if_pos z] at q; omega
theorem kX9_span (hC : Cs M P) (ht : Tc M) {i j w : Int} (hQ : ∀ N, CR M N P (qSpan P i j w).2 → Q (some (vI (qSpan P i j w).1)) N) : sl_Runs l mX9_span [vR 0 0, vI i, vI j, vI w] M Q := by
  have bad : ¬ (0 ≤ w ∧ w ≤ 3) → sl_RI l mX9_refuse [vR 0 0, vI (-2)] M (fun y M => Q (some (vI y)) M) := by
    intro z
    refine kX9_refuse hC ht (by omega) (fun N f => ⟨_, rfl, askc hQ ?_ f⟩)
    unfold qSpan
    rw [if_pos z]; rfl
  refine eX9_span (vX9_span_0 fun _ _ _ _ => ⟨fun q => bad (by omega), fun q => ⟨fun q2 => ?_, fun q2 => bad (by omega)⟩⟩)
  refine kX9_choose hC (fun N f cN hs => ⟨_, rfl, fun q3 => ?_, fun q3 => ?_⟩)
  · have hi := isp_yes q3
    obtain ⟨-, -, -, s3, s4, s5, s6, -⟩ := (hs hi).1
    rw [s3, s4, s5, s6]
    have key : ∀ a, (if w = 0 then sX P i (P 3 j - 1) else if w = 1 then sI P i j else if w = 2 then sO P i j else sB P i j) = a → Q (some (vI a)) N := by
      intro a ea
      refine askc hQ ?_ (f.cr cN)
      unfold qSpan
      rw [if_neg (fun z => z ⟨by omega, q2⟩), if_neg (fun z => z hi), ea]
    refine ⟨fun z => key _ (by rw [if_pos z]), fun z => key _ (by rw [if_neg (by omega), if_pos z]), fun z => key _ (by rw [if_neg (by omega), if_neg (by omega), if_pos z]), fun z => key _ (by rw [if_neg (by omega), if_neg (by omega), if_neg (by omega)])⟩
  · have hi := isp_no q3
    refine kX9_refuse cN (f.tc ht) (by omega) (fun O g => ⟨_, rfl, askc hQ ?_ (CR.tr f g)⟩)
    unfold qSpan
    rw [if_neg (fun z => z ⟨by omega, q2⟩), if_pos hi]; rfl
theorem kX9_hands (hC : Cs M P) (ht : Tc M) {i j w k : Int} (hQ : ∀ N, CR M N P (qHands P i j w k).2 → Q (some (vI (qHands P i j w k).1)) N) : sl_Runs l mX9_hands [vR 0 0, vI i, vI j, vI w, vI k] M Q := by
  have bad : ¬ (0 ≤ w ∧ w ≤ 1 ∧ 0 ≤ k) → sl_RI l mX9_refuse [vR 0 0, vI (-2)] M (fun y M => Q (some (vI y)) M) := by
    intro z
    refine kX9_refuse hC ht (by omega) (fun N f => ⟨_, rfl, askc hQ ?_ f⟩)
    unfold qHands
    rw [if_pos z]; rfl
  refine eX9_hands (vX9_hands_0 fun _ _ _ _ _ => ⟨fun q => bad (by omega), fun q => ⟨fun q2 => bad (by omega), fun q2 => ⟨fun q4 => ?_, fun q4 => bad (by omega)⟩⟩⟩)
  refine kX9_choose hC (fun N f cN hs => ⟨_, rfl, fun q3 => ?_, fun q3 => ?_⟩)
  · have hi := isp_yes q3
    obtain ⟨s0, -, s2, s3, s4, s5, s6, -⟩ := (hs hi).1
    obtain ⟨h1, hw, h3, h4, h5⟩ := id cN
    obtain ⟨c1, c2⟩ := cls_ps h1
    have hi' := hi
    obtain ⟨i0, i1, j1, -⟩ := hi'
    have haf := hw.af (k := j) (by omega) j1
    intro y ey
    rw [s4, s5] at ey
    refine kX9_present h1 ⟨_, rfl, c1, ?_⟩
    rw [s0, s2]
    refine kX0_pick c2 hw h3.2.1 h4 (by omega) q4 ⟨_, rfl, ?_⟩
    refine askc hQ ?_ (f.cr cN)
    unfold qHands
    rw [if_neg (fun z => z ⟨by omega, by omega, q4⟩), if_neg (fun z => z hi), ey, show P 3 j - 1 + 1 - i = P 3 j - i by omega]
    by_cases w0 : w = 0
    · rw [if_pos w0, if_neg (fun z => z w0)]
    · rw [if_neg w0, if_pos w0]
  · have hi := isp_no q3
    refine kX9_refuse cN (f.tc ht) (by omega) (fun O g => ⟨_, rfl, askc hQ ?_ (CR.tr f g)⟩)
    unfold qHands
    rw [if_neg (fun z => z ⟨by omega, by omega, q4⟩), if_pos hi]; rfl
theorem sX_bit (P : Pg) (f t : Int) {e : Int} (he : e4 e) : iand (sX P f t) e ≠ 0 ↔ xE P f t e := iand_sX he
theorem kX9_live (hC : Cs M P) (ht : Tc M) {i j e v : Int} (hQ : ∀ N, CR M N P (qLive P i j e v).2 → Q (some (vI (qLive P i j e v).1)) N) : sl_Runs l mX9_live [vR 0 0, vI i, vI j, vI e, vI v] M Q := by
  have bad : ¬ (e4 e ∧ 0 ≤ v ∧ v ≤ 7) → sl_RI l mX9_refuse [vR 0 0, vI (-2)] M (fun y M => Q (some (vI y)) M) := by
    intro z
    refine kX9_refuse hC ht (by omega) (fun N f => ⟨_, rfl, askc hQ ?_ f⟩)
    unfold qLive
    rw [if_pos z]; rfl
  refine eX9_live (vX9_live_0 fun _ _ _ _ _ _ _ => ⟨fun q => bad (by unfold e4; omega), fun q => ⟨fun q2 => bad (by omega), fun q2 => ⟨fun q4 => ?_, fun q4 => bad (by omega)⟩⟩⟩)
  have he : e4 e := by unfold e4; omega
  refine kX9_choose hC (fun N f cN hs => ⟨_, rfl, fun q3 => ?_, fun q3 => ⟨fun q5 => ⟨by omega, ?_⟩, fun q5 => ?_⟩⟩)
  · have hi := isp_no (fun z => z q3)
    refine kX9_refuse cN (f.tc ht) (by omega) (fun O g => ⟨_, rfl, askc hQ ?_ (CR.tr f g)⟩)
    unfold qLive
    rw [if_neg (fun z => z ⟨he, by omega, by omega⟩), if_pos hi]; rfl
  · have hi := isp_yes q3
    obtain ⟨s0, -, s2, s3, s4, s5, s6, s7⟩ := (hs hi).1
    rw [s3] at q5
    rw [(s7 e he).1]
    refine askc hQ ?_ (f.cr cN)
    unfold qLive
    rw [if_neg (fun z => z ⟨he, by omega, by omega⟩), if_neg (fun z => z hi), if_neg q5]
    unfold sLv
    rw [cif1 ((sX_bit P i (P 3 j - 1) he).mp q5), has_iff (by omega)]
    by_cases z : sL P j e v.toNat
    · rw [cif1 z, if_pos ((bt_msk (by omega)).mpr z)]
    · rw [cif0 z, if_neg (fun y => z ((bt_msk (by omega)).mp y))]
  · have hi := isp_yes q3
    obtain ⟨s0, -, s2, s3, s4, s5, s6, s7⟩ := (hs hi).1
    rw [s3] at q5
    refine kX9_refuse cN (f.tc ht) (by omega) (fun O g => ⟨_, rfl, askc hQ ?_ (CR.tr f g)⟩)
    unfold qLive
    rw [if_neg (fun z => z ⟨he, by omega, by omega⟩), if_neg (fun z => z hi), if_pos (by omega)]; rfl
theorem kX9_sure (hC : Cs M P) (ht : Tc M) {k v : Int} (hQ : ∀ N, CR M N P (qSure P k v).2 → Q (some (vI (qSure P k v).1)) N) : sl_Runs l mX9_sure [vR 0 0, vI k, vI v] M Q := by
  have hC' := hC
  obtain ⟨h1, hw, h3, h4, h5⟩ := hC
  obtain ⟨c1, c2⟩ := cls_ps h1
  have hn := hw.n0
  have p10 : 10 ≤ ps M := by unfold ps; omega
  have bad : ¬ ((0 ≤ k ∧ k < P 0 0) ∧ 0 ≤ v ∧ v ≤ 7) → sl_RI l mX9_refuse [vR 0 0, vI (-2)] M (fun y M => Q (some (vI y)) M) := by
    intro z
    refine kX9_refuse hC' ht (by omega) (fun N f => ⟨_, rfl, askc hQ ?_ f⟩)
    unfold qSure
    rw [if_neg z]; rfl
  refine eX9_sure (vX9_sure_0 fun _ _ _ => kX9_present h1 ⟨_, rfl, c1, kX0_holds c2 ⟨_, rfl, fun q => ?_, fun q => ?_⟩⟩)
  · refine bad fun z => ?_
    rw [h3.2.1.1, if_pos z.1] at q; omega
  · have hk : 0 ≤ k ∧ k < P 0 0 := by
      refine Classical.byContradiction fun z => ?_
      rw [h3.2.1.1, if_neg z] at q; omega
    refine ⟨fun q2 => bad (by omega), fun q2 => ⟨fun q3 => ?_, fun q3 => bad (by omega)⟩⟩
    refine kX9_present h1 ⟨_, rfl, c1, kX1_study hw h3 h5 (fun N n1 n2 n3 => ⟨rfl, by omega, ?_⟩)⟩
    have f : CF M N := fun o a b z => n3 o a b (by omega)
    refine askc hQ ?_ (f.cr (hC'.mv (fun o a b z => f o a b (by omega)) (Or.inr n2)))
    unfold qSure
    rw [if_pos ⟨hk, by omega⟩]
    obtain ⟨-, A, hA⟩ := n2.2 (by omega)
    rw [has_iff (by omega)]
    rcases hA.1 k hk.1 (by omega) with ⟨b1, b2⟩ | ⟨b1, b2, b3⟩
    · have hns : ¬ nS P k v.toNat := fun z => b2 (fun T t0 t1 => z.2 T t0 (fun a x S a1 a2 ta ed x0 _ => t1 a x S a1 a2 ta ed x0 trivial))
      rw [b1, cif0 hns, if_pos (bt_m1 (by omega))]
    · have h := b3 v.toNat (by omega)
      by_cases z : nS P k v.toNat
      · rw [cif1 z, h.mpr z]; rfl
      · rw [cif0 z, if_pos]
        refine Bool.not_eq_false _ |>.mp fun y => z (h.mp y)
end K
