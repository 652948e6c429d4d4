/-! lifts and settles of the class -/
/-- the class went on to a new state -/
def CAd (M N : sl_M) (R2 rho2 : Int → Int) : Prop := (∀ o i j, ¬ ((6 ≤ o ∧ o ≤ 9) ∨ (o = 0 ∧ i = 0 ∧ (j = 4 ∨ j = 5)) ∨ StA (10 + ((M 0 0 4 + 1) % 8).toNat) o) → N o i j = M o i j) ∧ N 0 0 4 = (M 0 0 4 + 1) % 8 ∧ N 0 0 5 = min (M 0 0 5 + 1) 6 ∧ Ci N R2 rho2
section G
variable {R rho R2 rho2 : Int → Int} {M : sl_M} {l : Launch} {Q : sl_R}
theorem cls_spr (h : 0 ≤ M 0 0 4 ∧ M 0 0 4 < 8) : sl_cls (10 + ((M 0 0 4 + 1) % 8).toNat) = 7 := by
  have d : ∀ n : Nat, n < 8 → sl_cls (10 + n) = 7 := by decide +kernel
  exact d _ (by omega)
theorem CAd.of {N O : sl_M} (h1 : 0 ≤ M 0 0 4 ∧ M 0 0 4 < 8) (hN : ∀ o i j, ¬ ((6 ≤ o ∧ o ≤ 9) ∨ StA (10 + ((M 0 0 4 + 1) % 8).toNat) o) → N o i j = M o i j) (hS : St N (10 + ((M 0 0 4 + 1) % 8).toNat) R2 rho2) (f : ∀ o i j, ¬ ((o = 0 ∧ i = 0 ∧ (j = 4 ∨ j = 5)) ∨ (o = 6 ∧ i = 0 ∧ j = 1)) → O o i j = N o i j) (e4' : O 0 0 4 = (M 0 0 4 + 1) % 8) (e5 : O 0 0 5 = min (M 0 0 5 + 1) 6) (e6 : O 6 0 1 = 0) : CAd M O R2 rho2 := by
  have ep : ps O = 10 + ((M 0 0 4 + 1) % 8).toNat := by unfold ps; rw [e4']
  refine ⟨fun o i j z => ?_, e4', e5, by rw [e4']; omega, ?_, Or.inl e6⟩
  · rw [f o i j (by omega)]; exact hN o i j (fun q => z (by rcases q with q | q; exact Or.inl q; exact Or.inr (Or.inr q)))
  · rw [ep]
    refine hS.frame (fun o i j z => f o i j ?_)
    unfold StA at z; omega
theorem kX9_settles (hC : Ci M R rho) (ht : Tc M) (h5 : 0 ≤ M 0 0 5 ∧ M 0 0 5 ≤ 6) {m : Int} {sg : Int → Int} (hX : (0 ≤ m ∧ m < R 761) → Stl R R2 m sg) (hB : ¬ (0 ≤ m ∧ m < R 761) → ∀ N, CR M N (ly R rho) 1 → Q (some (vI (-2))) N) (hQ : (0 ≤ m ∧ m < R 761) → ∀ N, CAd M N R2 (fun c => rho (sg c)) → Q (some (vI ((ol R m (R 789).toNat 0).length : Int))) N) : sl_Runs l mX9_settles [vR 0 0, vI m] M Q := by
  have h1 := hC.1
  have c1 := cls_psm h1
  have hS := hC.2.1
  have c2 := cls_spr h1
  refine eX9_settles (vX9_settles_0 fun _ _ => kX9_present h1 ⟨_, rfl, c1, kX7_hasRoutine c1 ⟨_, rfl, fun z => ?_, fun z => ?_⟩⟩)
  · have hm : 0 ≤ m ∧ m < R 761 := by
      refine Classical.byContradiction fun q => ?_
      rw [hS.2.2.2.1, if_neg q] at z; omega
    refine kX9_present h1 ⟨_, rfl, c1, kX7_callsOf hS ⟨_, rfl, kX9_spare h1 ⟨_, rfl, c2, kX9_present h1 ⟨_, rfl, c1, kX7_buildSettled hS c2 (by unfold ps; omega) hm (hX hm) (fun N hN f => ⟨rfl, ?_⟩)⟩⟩⟩⟩
    have e4' : N 0 0 4 = M 0 0 4 := f 0 0 4 (by unfold StA; omega)
    have e5 : N 0 0 5 = M 0 0 5 := f 0 0 5 (by unfold StA; omega)
    refine kX9_advance (by rw [e4']; exact h1) (by rw [e5]; exact h5) (fun O g a b c => ⟨rfl, ?_⟩)
    rw [e4'] at a; rw [e5] at b
    rw [calls_eq hS.2.1]
    exact hQ hm O (CAd.of h1 (fun o i j z => f o i j (fun q => z (Or.inr q))) hN g a b c)
  · have hm : ¬ (0 ≤ m ∧ m < R 761) := fun q => by rw [hS.2.2.2.1, if_pos q] at z; omega
    exact kX9_refuse hC.cs ht (by omega) (fun N f => ⟨_, rfl, hB hm N f⟩)
theorem kX9_lifts (hC : Ci M R rho) (ht : Tc M) (h5 : 0 ≤ M 0 0 5 ∧ M 0 0 5 ≤ 6) {i j all : Int} {fs es : Int → Int} (hX : (0 ≤ all ∧ all ≤ 1) → (isp (ly R rho) i j ∧ sB (ly R rho) i j = 0) → R 761 ≠ 3 → Lft R rho R2 rho2 i j fs es ∧ LfK R R2 rho2 fs i (lfK (ly R rho) i j all (tka (ly R rho) i j))) (hB : ¬ (0 ≤ all ∧ all ≤ 1) → ∀ N, CR M N (ly R rho) 1 → Q (some (vI (-2))) N) (hNo : (0 ≤ all ∧ all ≤ 1) → ¬ (isp (ly R rho) i j ∧ sB (ly R rho) i j = 0) → ∀ N, CR M N (ly R rho) 2 → Q (some (vI (-3))) N) (hFu : (0 ≤ all ∧ all ≤ 1) → (isp (ly R rho) i j ∧ sB (ly R rho) i j = 0) → R 761 = 3 → ∀ N, CR M N (ly R rho) 3 → Q (some (vI (-4))) N) (hQ : (0 ≤ all ∧ all ≤ 1) → (isp (ly R rho) i j ∧ sB (ly R rho) i j = 0) → R 761 ≠ 3 → ∀ N, CAd M N R2 rho2 → Q (some (vI (1 + (lfK (ly R rho) i j all (tka (ly R rho) i j)).length))) N) : sl_Runs l mX9_lifts [vR 0 0, vI i, vI j, vI all] M Q := by
  have h1 := hC.1
  have hS := hC.2.1
  have m3 := hS.2.1.2.1
  have bad : ¬ (0 ≤ all ∧ all ≤ 1) → sl_RI l mX9_refuse [vR 0 0, vI (-2)] M (fun y M => Q (some (vI y)) M) := fun z => kX9_refuse hC.cs ht (by omega) (fun N f => ⟨_, rfl, hB z N f⟩)
  -- what comes once the twins are known
  have go : (0 ≤ all ∧ all ≤ 1) → (isp (ly R rho) i j ∧ sB (ly R rho) i j = 0) → R 761 ≠ 3 → ∀ N, CF M N → SpM N 7 (ly R rho) i j → TwL N (lfK (ly R rho) i j all (tka (ly R rho) i j)) → sl_At l mX9_lifts 90 [(0, vR 0 0)] [] N Q := by
    intro ha hs hm N f sp tl
    have e4' : N 0 0 4 = M 0 0 4 := f 0 0 4 (by omega)
    have e5 : N 0 0 5 = M 0 0 5 := f 0 0 5 (by omega)
    have ep : ps N = ps M := by unfold ps; rw [e4']
    have hN4 : 0 ≤ N 0 0 4 ∧ N 0 0 4 < 8 := by rw [e4']; exact h1
    have hSN : St N (ps N) R rho := by
      rw [ep]
      refine hS.frame (fun o a b z => f o a b ?_)
      unfold StA ps at z; omega
    obtain ⟨X1, X2⟩ := hX ha hs hm
    refine vX9_lifts_90 fun _ => kX9_spare hN4 ⟨_, rfl, cls_spr hN4, kX9_present hN4 ⟨_, rfl, cls_psm hN4, kX7_buildLifted hSN (cls_spr hN4) (by unfold ps; omega) X1 X2 tl sp (fun O hO g => ⟨rfl, ?_⟩)⟩⟩
    rw [e4'] at hO g
    have o4 : O 0 0 4 = M 0 0 4 := by rw [g 0 0 4 (by unfold StA; omega), e4']
    have o5 : O 0 0 5 = M 0 0 5 := by rw [g 0 0 5 (by unfold StA; omega), e5]
    refine kX9_advance (by rw [o4]; exact h1) (by rw [o5]; exact h5) (fun U u a b c => ⟨rfl, ?_⟩)
    rw [o4] at a; rw [o5] at b
    have e8 : U 8 0 5 = (lfK (ly R rho) i j all (tka (ly R rho) i j)).length := by
      rw [u 8 0 5 (by omega), g 8 0 5 (by unfold StA; omega)]; exact tl.1
    have k40 : (lfK (ly R rho) i j all (tka (ly R rho) i j)).length ≤ 40 := by
      have := X2.1
      have := (X1.good hS.2.1).2.2.2.1
      have := hS.2.1.2.2.2.1
      omega
    rw [e8]
    refine ⟨by omega, hQ ha hs hm U (CAd.of h1 (fun o a b z => ?_) hO u a b c)⟩
    rw [g o a b (fun q => z (Or.inr q))]
    exact f o a b (fun q => z (Or.inl q))
  refine eX9_lifts (vX9_lifts_0 fun _ _ _ _ => ⟨fun z => bad (by omega), fun z => ⟨fun z2 => ?_, fun z2 => bad (by omega)⟩⟩)
  have ha : 0 ≤ all ∧ all ≤ 1 := ⟨by omega, z2⟩
  refine kX9_choose hC.cs (fun N f hN hsp => ⟨_, rfl, fun z => ?_, fun z => ?_⟩)
  · exact kX9_refuse hN (f.tc ht) (by omega) (fun O g => ⟨_, rfl, hNo ha (fun q => by rw [if_pos q.1] at z; omega) O (CR.tr f g)⟩)
  · have hs : isp (ly R rho) i j := Classical.byContradiction fun q => by rw [if_neg q] at z; omega
    obtain ⟨sp, sd⟩ := hsp hs
    have e4' : N 0 0 4 = M 0 0 4 := f 0 0 4 (by omega)
    have ep : ps N = ps M := by unfold ps; rw [e4']
    have hN4 : 0 ≤ N 0 0 4 ∧ N 0 0 4 < 8 := by rw [e4']; exact h1
    show (N 7 0 6 = 0 → _) ∧ (¬ (N 7 0 6 = 0) → _)
    rw [sp.2.2.2.2.2.2.1]
    refine ⟨fun zb => ?_, fun zb => kX9_refuse hN (f.tc ht) (by omega) (fun O g => ⟨_, rfl, hNo ha (fun q => zb q.2) O (CR.tr f g)⟩)⟩
    have e761 : N (ps N) 0 2 = R 761 := by
      rw [ep, f (ps M) 0 2 (by unfold ps; omega)]; exact hS.2.2.2.1
    refine kX9_present hN4 ⟨_, rfl, cls_psm hN4, ?_⟩
    rw [e761]
    refine ⟨fun zm => ⟨fun za => ?_, fun za => ?_⟩, fun zm => kX9_refuse hN (f.tc ht) (by omega) (fun O g => ⟨_, rfl, hFu ha ⟨hs, zb⟩ (by omega) O (CR.tr f g)⟩)⟩
    · refine eX8_forget (vX8_forget_0 fun _ N2 e2 => ⟨rfl, go ha ⟨hs, zb⟩ (by omega) N2 (fun o a b zz => ?_) ?_ ?_⟩)
      · rw [e2]; simp only [sl_wr]; rw [if_neg (by omega)]; exact f o a b zz
      · unfold SpM at sp ⊢
        have : ∀ a b, N2 7 a b = N 7 a b := fun a b => by rw [e2]; simp only [sl_wr]; rw [if_neg (by omega)]
        simp only [this]; exact sp
      · unfold lfK; rw [if_neg za]
        refine ⟨by rw [e2]; exact sl_wr_s, fun a q hq => ?_⟩
        simp at hq
    · obtain ⟨c4, hw, hF, hSS, hk⟩ := hN
      rw [← ep] at sd
      refine kX8_find hw hC.cs2 hF sd hSS hs sp (fun O g sd2 tl cb => ⟨rfl, go ha ⟨hs, zb⟩ (by omega) O (fun o a b zz => ?_) ?_ ?_⟩)
      · rw [g o a b (by omega)]; exact f o a b zz
      · unfold SpM at sp ⊢
        have : ∀ a b, O 7 a b = N 7 a b := fun a b => g 7 a b (by omega)
        simp only [this]; exact sp
      · unfold lfK; rw [if_pos (by omega)]; exact tl
end G
