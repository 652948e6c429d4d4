/-! What a call gives back, in the reference -/
theorem outL_c {r Bi B u : Int} {Di D : Int → Int} {L : List Int} : outL r Di Bi (u :: L) D B = if bt Bi u.toNat = true then outL r Di Bi L (fun q => if q = rn r u then Di u else D q) (ior B (ishl 1 (rn r u))) else outL r Di Bi L D B := rfl
section K
variable {l : Launch} {M : sl_M} {Q : sl_R} {rho R : Int → Int}
theorem kX10_takesBack (hGd : Good R rho) (hR : M 1 1 = R) {c : Int} (hc : 0 ≤ c ∧ c < R 789) {D Di : Int → Int} {B Bi : Int} (hF : RFr M 51 D B) (hI : RFr M 53 Di Bi)
    (hQ : ∀ N, (∀ (o i : Nat) (j : Int), ¬ (o = 1 ∧ (i = 51 ∨ (i = 0 ∧ j = 51))) → N o i j = M o i j) → RFr N 51 (outL (rho c) Di Bi (LOt R (cm R c)) D B).1 (outL (rho c) Di Bi (LOt R (cm R c)) D B).2 → Q none N) : sl_Runs l mX10_takesBack [vR 1 0, vI c] M Q := by
  have hcg := hGd.2.2.2.2.1 c hc.1 hc.2
  have c40 := hGd.2.2.2.1
  have m3 := hGd.2.1
  have hm := hcg.2.1
  have ecm : cm R c = R (870 + c) := rfl
  have hM' := hGd.2.2.1 (cm R c) hm.1 hm.2
  obtain ⟨M1, M2, M3, ⟨M5, M6⟩, M7⟩ := hGd.2.2.1 (cm R c) hm.1 hm.2
  have l8 := hM'.lo8 hGd.1
  have sp := lpk_spec (by omega) l8
  have sp2 := lpk_spec (L := rnl (rho c) (LOt R (cm R c))) (by rw [List.length_map]; omega) rnl_8
  rw [List.length_map] at sp2
  have e950 : R (950 + c) = lpk (rnl (rho c) (LOt R (cm R c))) := hcg.2.2.2.2.2.2.1
  have loop : ∀ (n : Nat) (h : Nat) (N : sl_M) (D' : Int → Int) (B' : Int), h + n = (LOt R (cm R c)).length → (∀ (o i : Nat) (j : Int), ¬ (o = 1 ∧ (i = 51 ∨ (i = 0 ∧ j = 51))) → N o i j = M o i j) → RFr N 51 D' B' → outL (rho c) Di Bi ((LOt R (cm R c)).drop h) D' B' = outL (rho c) Di Bi (LOt R (cm R c)) D B → sl_At l mX10_takesBack 13 [(0, vR 1 0), (1, vI c), (2, vI (cm R c)), (3, vI (h : Int))] [] N Q := by
    intro n
    induction n with
    | zero =>
      intro h N D' B' hn fN rF eO
      have t774 : N 1 1 (774 + cm R c) = lpk (LOt R (cm R c)) := by rw [fN 1 1 _ (by omega), hR]; exact M5
      refine vX10_takesBack_13 fun _ _ _ _ => ⟨by omega, fun _ => hQ N fN ?_, fun z => ?_⟩
      · rw [List.drop_of_length_le (by omega)] at eO
        rw [← eO]; exact rF
      · exfalso; rw [t774, sp.1] at z; omega
    | succ n ih =>
      intro h N D' B' hn fN rF eO
      have t774 : N 1 1 (774 + cm R c) = lpk (LOt R (cm R c)) := by rw [fN 1 1 _ (by omega), hR]; exact M5
      have t950 : N 1 1 (950 + c) = lpk (rnl (rho c) (LOt R (cm R c))) := by rw [fN 1 1 _ (by omega), hR]; exact e950
      have hlt : h < (LOt R (cm R c)).length := by omega
      have u1 : iand (ishr (lpk (LOt R (cm R c))) (4 + 4 * (h : Int))) 15 = (LOt R (cm R c))[h] := by
        have := sp.2 h hlt
        unfold nib at this
        rw [this, List.getD_eq_getElem?_getD, List.getElem?_eq_getElem hlt]; rfl
      have u2 : iand (ishr (lpk (rnl (rho c) (LOt R (cm R c)))) (4 + 4 * (h : Int))) 15 = rn (rho c) (LOt R (cm R c))[h] := by
        have := sp2.2 h hlt
        unfold nib at this
        rw [this, List.getD_eq_getElem?_getD, List.getElem?_map, List.getElem?_eq_getElem hlt]; rfl
      have v8 := l8 _ (List.getElem_mem hlt)
      have r8 := rn_rng (rho c) (LOt R (cm R c))[h]
      have ed : (LOt R (cm R c)).drop h = (LOt R (cm R c))[h] :: (LOt R (cm R c)).drop (h + 1) := List.drop_eq_getElem_cons hlt
      rw [ed] at eO
      rw [outL_c] at eO
      refine vX10_takesBack_13 fun _ _ _ _ => ⟨by omega, fun z => ?_, fun z => ?_⟩
      · exfalso; rw [t774, sp.1] at z; omega
      · rw [t774, t950, u1, u2]
        intro y ey
        have i53 : N 1 0 53 = Bi := by rw [fN 1 0 53 (by omega)]; exact hI.1
        rw [i53, ey]
        refine ⟨fun zb => ⟨by omega, ?_⟩, fun zb => ⟨by omega, v8, kX10_sets r8 ⟨rfl, ?_⟩⟩⟩
        · have nb : ¬ (bt Bi ((LOt R (cm R c))[h]).toNat = true) := fun q => zb ((has1 (by omega)).mpr q)
          rw [show (h : Int) + 1 = ((h + 1 : Nat) : Int) by omega]
          refine ih (h + 1) N D' B' (by omega) fN rF ?_
          rw [← eO, if_neg nb]
        · have nb : bt Bi ((LOt R (cm R c))[h]).toNat = true := (has1 (by omega)).mp zb
          rw [if_pos rfl, fN 1 53 _ (by omega), hI.2 _ v8.1 v8.2 nb]
          refine ⟨by omega, ?_⟩
          have gv := rF.give (x := Di (LOt R (cm R c))[h]) (Or.inl rfl) r8
          rw [show (h : Int) + 1 = ((h + 1 : Nat) : Int) by omega]
          refine ih (h + 1) _ _ _ (by omega) (fun o i j q => ?_) gv ?_
          · rw [← fN o i j q]; simp only [sl_wr]; rw [if_neg (by omega), if_neg (by omega)]
          · rw [← eO, if_pos nb]
  refine eX10_takesBack (vX10_takesBack_0 fun _ _ => ⟨by omega, ?_⟩)
  rw [hR]
  exact loop _ 0 M D B (Nat.zero_add _) (fun _ _ _ _ => rfl) hF rfl
end K
