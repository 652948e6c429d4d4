theorem dX10_in_0 : decode cX10_in 0 = .ok (.iload_n 0, 1) := by decide +kernel
theorem dX10_in_1 : decode cX10_in 1 = .ok (.iload_n 1, 1) := by decide +kernel
theorem dX10_in_2 : decode cX10_in 2 = .ok (.if_icmp .lt 12, 3) := by decide +kernel
theorem dX10_in_5 : decode cX10_in 5 = .ok (.iload_n 0, 1) := by decide +kernel
theorem dX10_in_6 : decode cX10_in 6 = .ok (.iload_n 2, 1) := by decide +kernel
theorem dX10_in_7 : decode cX10_in 7 = .ok (.if_icmp .gt 7, 3) := by decide +kernel
theorem dX10_in_10 : decode cX10_in 10 = .ok (.iconst 1, 1) := by decide +kernel
theorem dX10_in_11 : decode cX10_in 11 = .ok (.goto 4, 3) := by decide +kernel
theorem dX10_in_14 : decode cX10_in 14 = .ok (.iconst 0, 1) := by decide +kernel
theorem dX10_in_15 : decode cX10_in 15 = .ok (.ireturn, 1) := by decide +kernel
set_option maxHeartbeats 4000000 in
set_option maxRecDepth 10000 in
theorem vX10_in_0 {l : Launch} {M : sl_M} {Q : sl_R} {x0 x1 x2 : Int} (H : sl_RM M → sl_rg x0 → sl_rg x1 → sl_rg x2 → Q (some (vI (if (¬ (x0 < x1)) ∧ (¬ (x2 < x0)) then 1 else 0))) M) : sl_At l mX10_in 0 [(0, vI x0), (1, vI x1), (2, vI x2)] [] M Q := by
  refine sl_At.in (fun hM hls => ?_)
  have g0 : sl_rg x0 := hls _ (List.mem_of_getElem? (i := 0) rfl)
  have g1 : sl_rg x1 := hls _ (List.mem_of_getElem? (i := 1) rfl)
  have g2 : sl_rg x2 := hls _ (List.mem_of_getElem? (i := 2) rfl)
  have H := H hM g0 g1 g2
  refine r_iload_n (k := 0) rfl rfl dX10_in_0 ?_
  refine r_iload_n (k := 1) rfl rfl dX10_in_1 ?_
  have J : sl_At l mX10_in 15 [(0, vI x0), (1, vI x1), (2, vI x2)] [vI (if (¬ (x0 < x1)) ∧ (¬ (x2 < x0)) then 1 else 0)] M Q := by
    refine r_zret rfl b_01 dX10_in_15 ?_
    exact H
  refine r_icmp_lt (tgt := 14) g0 g1 dX10_in_2 (by decide) (fun h1 => ?_) (fun h1 => ?_)
  · refine r_iconst dX10_in_14 ?_
    rw [if_neg (show ¬ ((¬ (x0 < x1)) ∧ (¬ (x2 < x0))) by omega)] at J
    exact J
  · refine r_iload_n (k := 0) rfl rfl dX10_in_5 ?_
    refine r_iload_n (k := 2) rfl rfl dX10_in_6 ?_
    refine r_icmp_gt (tgt := 14) g0 g2 dX10_in_7 (by decide) (fun h2 => ?_) (fun h2 => ?_)
    · refine r_iconst dX10_in_14 ?_
      rw [if_neg (show ¬ ((¬ (x0 < x1)) ∧ (¬ (x2 < x0))) by omega)] at J
      exact J
    · refine r_iconst dX10_in_10 ?_
      refine r_goto (tgt := 15) dX10_in_11 (by decide) ?_
      rw [if_pos (show (¬ (x0 < x1)) ∧ (¬ (x2 < x0)) by omega)] at J
      exact J
theorem eX10_in {l : Launch} {M : sl_M} {Q : sl_R} {x0 x1 x2 : Int} (k : sl_At l mX10_in 0 [(0, vI x0), (1, vI x1), (2, vI x2)] [] M Q) : sl_Runs l mX10_in [vI x0, vI x1, vI x2] M Q := sl_Runs.of (ls := [(0, vI x0), (1, vI x1), (2, vI x2)]) rfl rfl (fun _ => rfl) (fun _ => Nat.le_of_ble_eq_true rfl) rfl (k)
theorem dX10_has_0 : decode cX10_has 0 = .ok (.iload_n 0, 1) := by decide +kernel
theorem dX10_has_1 : decode cX10_has 1 = .ok (.iload_n 1, 1) := by decide +kernel
theorem dX10_has_2 : decode cX10_has 2 = .ok (.ishr, 1) := by decide +kernel
theorem dX10_has_3 : decode cX10_has 3 = .ok (.iconst 1, 1) := by decide +kernel
theorem dX10_has_4 : decode cX10_has 4 = .ok (.iand, 1) := by decide +kernel
theorem dX10_has_5 : decode cX10_has 5 = .ok (.iconst 1, 1) := by decide +kernel
theorem dX10_has_6 : decode cX10_has 6 = .ok (.if_icmp .ne 7, 3) := by decide +kernel
theorem dX10_has_9 : decode cX10_has 9 = .ok (.iconst 1, 1) := by decide +kernel
theorem dX10_has_10 : decode cX10_has 10 = .ok (.goto 4, 3) := by decide +kernel
theorem dX10_has_13 : decode cX10_has 13 = .ok (.iconst 0, 1) := by decide +kernel
theorem dX10_has_14 : decode cX10_has 14 = .ok (.ireturn, 1) := by decide +kernel
set_option maxHeartbeats 4000000 in
set_option maxRecDepth 10000 in
theorem vX10_has_0 {l : Launch} {M : sl_M} {Q : sl_R} {x0 x1 : Int} (H : sl_RM M → sl_rg x0 → sl_rg x1 → Q (some (vI (if ¬ (iand (ishr x0 x1) 1 ≠ 1) then 1 else 0))) M) : sl_At l mX10_has 0 [(0, vI x0), (1, vI x1)] [] M Q := by
  refine sl_At.in (fun hM hls => ?_)
  have g0 : sl_rg x0 := hls _ (List.mem_of_getElem? (i := 0) rfl)
  have g1 : sl_rg x1 := hls _ (List.mem_of_getElem? (i := 1) rfl)
  have H := H hM g0 g1
  refine r_iload_n (k := 0) rfl rfl dX10_has_0 ?_
  refine r_iload_n (k := 1) rfl rfl dX10_has_1 ?_
  refine r_ishr dX10_has_2 ?_
  refine r_iconst dX10_has_3 ?_
  refine r_iand dX10_has_4 ?_
  refine r_iconst dX10_has_5 ?_
  have J : sl_At l mX10_has 14 [(0, vI x0), (1, vI x1)] [vI (if ¬ (iand (ishr x0 x1) 1 ≠ 1) then 1 else 0)] M Q := by
    refine r_zret rfl b_01 dX10_has_14 ?_
    exact H
  refine r_icmp_ne (tgt := 13) (rg_iand _ _) ⟨by decide, by decide⟩ dX10_has_6 (by decide) (fun h1 => ?_) (fun h1 => ?_)
  · refine r_iconst dX10_has_13 ?_
    rw [if_neg (show ¬ (¬ (iand (ishr x0 x1) 1 ≠ 1)) by omega)] at J
    exact J
  · refine r_iconst dX10_has_9 ?_
    refine r_goto (tgt := 14) dX10_has_10 (by decide) ?_
    rw [if_pos (show ¬ (iand (ishr x0 x1) 1 ≠ 1) by omega)] at J
    exact J
theorem eX10_has {l : Launch} {M : sl_M} {Q : sl_R} {x0 x1 : Int} (k : sl_At l mX10_has 0 [(0, vI x0), (1, vI x1)] [] M Q) : sl_Runs l mX10_has [vI x0, vI x1] M Q := sl_Runs.of (ls := [(0, vI x0), (1, vI x1)]) rfl rfl (fun _ => rfl) (fun _ => Nat.le_of_ble_eq_true rfl) rfl (k)
theorem dX10_isAct_0 : decode cX10_isAct 0 = .ok (.iload_n 0, 1) := by decide +kernel
theorem dX10_isAct_1 : decode cX10_isAct 1 = .ok (.bipush 43, 2) := by decide +kernel
theorem dX10_isAct_3 : decode cX10_isAct 3 = .ok (.if_icmp .eq 39, 3) := by decide +kernel
theorem dX10_isAct_6 : decode cX10_isAct 6 = .ok (.iload_n 0, 1) := by decide +kernel
theorem dX10_isAct_7 : decode cX10_isAct 7 = .ok (.bipush 45, 2) := by decide +kernel
theorem dX10_isAct_9 : decode cX10_isAct 9 = .ok (.if_icmp .eq 33, 3) := by decide +kernel
theorem dX10_isAct_12 : decode cX10_isAct 12 = .ok (.iload_n 0, 1) := by decide +kernel
theorem dX10_isAct_13 : decode cX10_isAct 13 = .ok (.bipush 42, 2) := by decide +kernel
theorem dX10_isAct_15 : decode cX10_isAct 15 = .ok (.if_icmp .eq 27, 3) := by decide +kernel
theorem dX10_isAct_18 : decode cX10_isAct 18 = .ok (.iload_n 0, 1) := by decide +kernel
theorem dX10_isAct_19 : decode cX10_isAct 19 = .ok (.bipush 47, 2) := by decide +kernel
theorem dX10_isAct_21 : decode cX10_isAct 21 = .ok (.if_icmp .eq 21, 3) := by decide +kernel
theorem dX10_isAct_24 : decode cX10_isAct 24 = .ok (.iload_n 0, 1) := by decide +kernel
theorem dX10_isAct_25 : decode cX10_isAct 25 = .ok (.bipush 37, 2) := by decide +kernel
theorem dX10_isAct_27 : decode cX10_isAct 27 = .ok (.if_icmp .eq 15, 3) := by decide +kernel
theorem dX10_isAct_30 : decode cX10_isAct 30 = .ok (.iload_n 0, 1) := by decide +kernel
theorem dX10_isAct_31 : decode cX10_isAct 31 = .ok (.bipush 60, 2) := by decide +kernel
theorem dX10_isAct_33 : decode cX10_isAct 33 = .ok (.if_icmp .eq 9, 3) := by decide +kernel
theorem dX10_isAct_36 : decode cX10_isAct 36 = .ok (.iload_n 0, 1) := by decide +kernel
theorem dX10_isAct_37 : decode cX10_isAct 37 = .ok (.bipush 61, 2) := by decide +kernel
theorem dX10_isAct_39 : decode cX10_isAct 39 = .ok (.if_icmp .ne 7, 3) := by decide +kernel
theorem dX10_isAct_42 : decode cX10_isAct 42 = .ok (.iconst 1, 1) := by decide +kernel
theorem dX10_isAct_43 : decode cX10_isAct 43 = .ok (.goto 4, 3) := by decide +kernel
theorem dX10_isAct_46 : decode cX10_isAct 46 = .ok (.iconst 0, 1) := by decide +kernel
theorem dX10_isAct_47 : decode cX10_isAct 47 = .ok (.ireturn, 1) := by decide +kernel
set_option maxHeartbeats 4000000 in
set_option maxRecDepth 10000 in
theorem vX10_isAct_0 {l : Launch} {M : sl_M} {Q : sl_R} {x0 : Int} (H : sl_RM M → sl_rg x0 → Q (some (vI (if (x0 = 43) ∨ ((x0 = 45) ∨ ((x0 = 42) ∨ ((x0 = 47) ∨ ((x0 = 37) ∨ ((x0 = 60) ∨ (¬ (x0 ≠ 61))))))) then 1 else 0))) M) : sl_At l mX10_isAct 0 [(0, vI x0)] [] M Q := by
  refine sl_At.in (fun hM hls => ?_)
  have g0 : sl_rg x0 := hls _ (List.mem_of_getElem? (i := 0) rfl)
  have H := H hM g0
  refine r_iload_n (k := 0) rfl rfl dX10_isAct_0 ?_
  refine r_bipush dX10_isAct_1 (by decide) ?_
  have J : sl_At l mX10_isAct 47 [(0, vI x0)] [vI (if (x0 = 43) ∨ ((x0 = 45) ∨ ((x0 = 42) ∨ ((x0 = 47) ∨ ((x0 = 37) ∨ ((x0 = 60) ∨ (¬ (x0 ≠ 61))))))) then 1 else 0)] M Q := by
    refine r_zret rfl b_01 dX10_isAct_47 ?_
    exact H
  refine r_icmp_eq (tgt := 42) g0 ⟨by decide, by decide⟩ dX10_isAct_3 (by decide) (fun h1 => ?_) (fun h1 => ?_)
  · refine r_iconst dX10_isAct_42 ?_
    refine r_goto (tgt := 47) dX10_isAct_43 (by decide) ?_
    rw [if_pos (show (x0 = 43) ∨ ((x0 = 45) ∨ ((x0 = 42) ∨ ((x0 = 47) ∨ ((x0 = 37) ∨ ((x0 = 60) ∨ (¬ (x0 ≠ 61))))))) by omega)] at J
    exact J
  · refine r_iload_n (k := 0) rfl rfl dX10_isAct_6 ?_
    refine r_bipush dX10_isAct_7 (by decide) ?_
    refine r_icmp_eq (tgt := 42) g0 ⟨by decide, by decide⟩ dX10_isAct_9 (by decide) (fun h2 => ?_) (fun h2 => ?_)
    · refine r_iconst dX10_isAct_42 ?_
      refine r_goto (tgt := 47) dX10_isAct_43 (by decide) ?_
      rw [if_pos (show (x0 = 43) ∨ ((x0 = 45) ∨ ((x0 = 42) ∨ ((x0 = 47) ∨ ((x0 = 37) ∨ ((x0 = 60) ∨ (¬ (x0 ≠ 61))))))) by omega)] at J
      exact J
    · refine r_iload_n (k := 0) rfl rfl dX10_isAct_12 ?_
      refine r_bipush dX10_isAct_13 (by decide) ?_
      refine r_icmp_eq (tgt := 42) g0 ⟨by decide, by decide⟩ dX10_isAct_15 (by decide) (fun h3 => ?_) (fun h3 => ?_)
      · refine r_iconst dX10_isAct_42 ?_
        refine r_goto (tgt := 47) dX10_isAct_43 (by decide) ?_
        rw [if_pos (show (x0 = 43) ∨ ((x0 = 45) ∨ ((x0 = 42) ∨ ((x0 = 47) ∨ ((x0 = 37) ∨ ((x0 = 60) ∨ (¬ (x0 ≠ 61))))))) by omega)] at J
        exact J
      · refine r_iload_n (k := 0) rfl rfl dX10_isAct_18 ?_
        refine r_bipush dX10_isAct_19 (by decide) ?_
        refine r_icmp_eq (tgt := 42) g0 ⟨by decide, by decide⟩ dX10_isAct_21 (by decide) (fun h4 => ?_) (fun h4 => ?_)
        · refine r_iconst dX10_isAct_42 ?_
          refine r_goto (tgt := 47) dX10_isAct_43 (by decide) ?_
          rw [if_pos (show (x0 = 43) ∨ ((x0 = 45) ∨ ((x0 = 42) ∨ ((x0 = 47) ∨ ((x0 = 37) ∨ ((x0 = 60) ∨ (¬ (x0 ≠ 61))))))) by omega)] at J
          exact J
        · refine r_iload_n (k := 0) rfl rfl dX10_isAct_24 ?_
          refine r_bipush dX10_isAct_25 (by decide) ?_
          refine r_icmp_eq (tgt := 42) g0 ⟨by decide, by decide⟩ dX10_isAct_27 (by decide) (fun h5 => ?_) (fun h5 => ?_)
          · refine r_iconst dX10_isAct_42 ?_
            refine r_goto (tgt := 47) dX10_isAct_43 (by decide) ?_
            rw [if_pos (show (x0 = 43) ∨ ((x0 = 45) ∨ ((x0 = 42) ∨ ((x0 = 47) ∨ ((x0 = 37) ∨ ((x0 = 60) ∨ (¬ (x0 ≠ 61))))))) by omega)] at J
            exact J
          · refine r_iload_n (k := 0) rfl rfl dX10_isAct_30 ?_
            refine r_bipush dX10_isAct_31 (by decide) ?_
            refine r_icmp_eq (tgt := 42) g0 ⟨by decide, by decide⟩ dX10_isAct_33 (by decide) (fun h6 => ?_) (fun h6 => ?_)
            · refine r_iconst dX10_isAct_42 ?_
              refine r_goto (tgt := 47) dX10_isAct_43 (by decide) ?_
              rw [if_pos (show (x0 = 43) ∨ ((x0 = 45) ∨ ((x0 = 42) ∨ ((x0 = 47) ∨ ((x0 = 37) ∨ ((x0 = 60) ∨ (¬ (x0 ≠ 61))))))) by omega)] at J
              exact J
            · refine r_iload_n (k := 0) rfl rfl dX10_isAct_36 ?_
              refine r_bipush dX10_isAct_37 (by decide) ?_
              refine r_icmp_ne (tgt := 46) g0 ⟨by decide, by decide⟩ dX10_isAct_39 (by decide) (fun h7 => ?_) (fun h7 => ?_)
              · refine r_iconst dX10_isAct_46 ?_
                rw [if_neg (show ¬ ((x0 = 43) ∨ ((x0 = 45) ∨ ((x0 = 42) ∨ ((x0 = 47) ∨ ((x0 = 37) ∨ ((x0 = 60) ∨ (¬ (x0 ≠ 61)))))))) by omega)] at J
                exact J
              · refine r_iconst dX10_isAct_42 ?_
                refine r_goto (tgt := 47) dX10_isAct_43 (by decide) ?_
                rw [if_pos (show (x0 = 43) ∨ ((x0 = 45) ∨ ((x0 = 42) ∨ ((x0 = 47) ∨ ((x0 = 37) ∨ ((x0 = 60) ∨ (¬ (x0 ≠ 61))))))) by omega)] at J
                exact J
theorem eX10_isAct {l : Launch} {M : sl_M} {Q : sl_R} {x0 : Int} (k : sl_At l mX10_isAct 0 [(0, vI x0)] [] M Q) : sl_Runs l mX10_isAct [vI x0] M Q := sl_Runs.of (ls := [(0, vI x0)]) rfl rfl (fun _ => rfl) (fun _ => Nat.le_of_ble_eq_true rfl) rfl (k)
theorem dX10_placeOf_0 : decode cX10_placeOf 0 = .ok (.iload_n 0, 1) := by decide +kernel
theorem dX10_placeOf_1 : decode cX10_placeOf 1 = .ok (.iconst 1, 1) := by decide +kernel
theorem dX10_placeOf_2 : decode cX10_placeOf 2 = .ok (.if_icmp .ne 7, 3) := by decide +kernel
theorem dX10_placeOf_5 : decode cX10_placeOf 5 = .ok (.iconst 0, 1) := by decide +kernel
theorem dX10_placeOf_6 : decode cX10_placeOf 6 = .ok (.goto 22, 3) := by decide +kernel
theorem dX10_placeOf_9 : decode cX10_placeOf 9 = .ok (.iload_n 0, 1) := by decide +kernel
theorem dX10_placeOf_10 : decode cX10_placeOf 10 = .ok (.iconst 2, 1) := by decide +kernel
theorem dX10_placeOf_11 : decode cX10_placeOf 11 = .ok (.if_icmp .ne 7, 3) := by decide +kernel
theorem dX10_placeOf_14 : decode cX10_placeOf 14 = .ok (.iconst 1, 1) := by decide +kernel
theorem dX10_placeOf_15 : decode cX10_placeOf 15 = .ok (.goto 13, 3) := by decide +kernel
theorem dX10_placeOf_18 : decode cX10_placeOf 18 = .ok (.iload_n 0, 1) := by decide +kernel
theorem dX10_placeOf_19 : decode cX10_placeOf 19 = .ok (.iconst 4, 1) := by decide +kernel
theorem dX10_placeOf_20 : decode cX10_placeOf 20 = .ok (.if_icmp .ne 7, 3) := by decide +kernel
theorem dX10_placeOf_23 : decode cX10_placeOf 23 = .ok (.iconst 2, 1) := by decide +kernel
theorem dX10_placeOf_24 : decode cX10_placeOf 24 = .ok (.goto 4, 3) := by decide +kernel
theorem dX10_placeOf_27 : decode cX10_placeOf 27 = .ok (.iconst 3, 1) := by decide +kernel
theorem dX10_placeOf_28 : decode cX10_placeOf 28 = .ok (.ireturn, 1) := by decide +kernel
set_option maxHeartbeats 4000000 in
set_option maxRecDepth 10000 in
theorem vX10_placeOf_0 {l : Launch} {M : sl_M} {Q : sl_R} {x0 : Int} (H : sl_RM M → sl_rg x0 → Q (some (vI (if x0 ≠ 1 then (if x0 ≠ 2 then (if x0 ≠ 4 then 3 else 2) else 1) else 0))) M) : sl_At l mX10_placeOf 0 [(0, vI x0)] [] M Q := by
  refine sl_At.in (fun hM hls => ?_)
  have g0 : sl_rg x0 := hls _ (List.mem_of_getElem? (i := 0) rfl)
  have H := H hM g0
  refine r_iload_n (k := 0) rfl rfl dX10_placeOf_0 ?_
  refine r_iconst dX10_placeOf_1 ?_
  have J : sl_At l mX10_placeOf 28 [(0, vI x0)] [vI (if x0 ≠ 1 then (if x0 ≠ 2 then (if x0 ≠ 4 then 3 else 2) else 1) else 0)] M Q := by
    refine r_iret rfl (sl_rgite (sl_rgite (sl_rgite ⟨by decide, by decide⟩ ⟨by decide, by decide⟩) ⟨by decide, by decide⟩) ⟨by decide, by decide⟩) dX10_placeOf_28 ?_
    exact H
  refine r_icmp_ne (tgt := 9) g0 ⟨by decide, by decide⟩ dX10_placeOf_2 (by decide) (fun h1 => ?_) (fun h1 => ?_)
  · refine r_iload_n (k := 0) rfl rfl dX10_placeOf_9 ?_
    refine r_iconst dX10_placeOf_10 ?_
    refine r_icmp_ne (tgt := 18) g0 ⟨by decide, by decide⟩ dX10_placeOf_11 (by decide) (fun h2 => ?_) (fun h2 => ?_)
    · refine r_iload_n (k := 0) rfl rfl dX10_placeOf_18 ?_
      refine r_iconst dX10_placeOf_19 ?_
      refine r_icmp_ne (tgt := 27) g0 ⟨by decide, by decide⟩ dX10_placeOf_20 (by decide) (fun h3 => ?_) (fun h3 => ?_)
      · refine r_iconst dX10_placeOf_27 ?_
        rw [if_pos h1, if_pos h2, if_pos h3] at J
        exact J
      · refine r_iconst dX10_placeOf_23 ?_
        refine r_goto (tgt := 28) dX10_placeOf_24 (by decide) ?_
        rw [if_pos h1, if_pos h2, if_neg h3] at J
        exact J
    · refine r_iconst dX10_placeOf_14 ?_
      refine r_goto (tgt := 28) dX10_placeOf_15 (by decide) ?_
      rw [if_pos h1, if_neg h2] at J
      exact J
  · refine r_iconst dX10_placeOf_5 ?_
    refine r_goto (tgt := 28) dX10_placeOf_6 (by decide) ?_
    rw [if_neg h1] at J
    exact J
theorem eX10_placeOf {l : Launch} {M : sl_M} {Q : sl_R} {x0 : Int} (k : sl_At l mX10_placeOf 0 [(0, vI x0)] [] M Q) : sl_Runs l mX10_placeOf [vI x0] M Q := sl_Runs.of (ls := [(0, vI x0)]) rfl rfl (fun _ => rfl) (fun _ => Nat.le_of_ble_eq_true rfl) rfl (k)
theorem dX9_isOperator_0 : decode cX9_isOperator 0 = .ok (.iload_n 0, 1) := by decide +kernel
theorem dX9_isOperator_1 : decode cX9_isOperator 1 = .ok (.tableswitch 117 37 61 #[115, 117, 117, 117, 117, 115, 115, 117, 115, 117, 115, 117, 117, 117, 117, 117, 117, 117, 117, 117, 117, 117, 117, 115, 115], 115) := by decide +kernel
theorem dX9_isOperator_116 : decode cX9_isOperator 116 = .ok (.iconst 1, 1) := by decide +kernel
theorem dX9_isOperator_117 : decode cX9_isOperator 117 = .ok (.ireturn, 1) := by decide +kernel
theorem dX9_isOperator_118 : decode cX9_isOperator 118 = .ok (.iconst 0, 1) := by decide +kernel
theorem dX9_isOperator_119 : decode cX9_isOperator 119 = .ok (.ireturn, 1) := by decide +kernel
set_option maxHeartbeats 4000000 in
set_option maxRecDepth 10000 in
theorem vX9_isOperator_0 {l : Launch} {M : sl_M} {Q : sl_R} {x0 : Int} (H : sl_RM M → sl_rg x0 → ((x0 = 37 ∨ x0 = 42 ∨ x0 = 43 ∨ x0 = 45 ∨ x0 = 47 ∨ x0 = 60 ∨ x0 = 61) → Q (some (vI 1)) M) ∧ ((¬ (x0 = 37) ∧ ¬ (x0 = 42) ∧ ¬ (x0 = 43) ∧ ¬ (x0 = 45) ∧ ¬ (x0 = 47) ∧ ¬ (x0 = 60) ∧ ¬ (x0 = 61)) → Q (some (vI 0)) M)) : sl_At l mX9_isOperator 0 [(0, vI x0)] [] M Q := by
  refine sl_At.in (fun hM hls => ?_)
  have g0 : sl_rg x0 := hls _ (List.mem_of_getElem? (i := 0) rfl)
  have H := H hM g0
  refine r_iload_n (k := 0) rfl rfl dX9_isOperator_0 ?_
  by_cases h1 : x0 = 37
  · refine r_tsIn (tgt := 116) 0 g0 dX9_isOperator_1 (by omega) (by decide) rfl (by decide) ?_
    have H := H.1 (by omega)
    refine r_iconst dX9_isOperator_116 ?_
    refine r_zret rfl (Or.inr rfl) dX9_isOperator_117 ?_
    exact H
  by_cases h2 : x0 = 38
  · refine r_tsIn (tgt := 118) 1 g0 dX9_isOperator_1 (by omega) (by decide) rfl (by decide) ?_
    have H := H.2 (by omega)
    refine r_iconst dX9_isOperator_118 ?_
    refine r_zret rfl (Or.inl rfl) dX9_isOperator_119 ?_
    exact H
  by_cases h3 : x0 = 39
  · refine r_tsIn (tgt := 118) 2 g0 dX9_isOperator_1 (by omega) (by decide) rfl (by decide) ?_
    have H := H.2 (by omega)
    refine r_iconst dX9_isOperator_118 ?_
    refine r_zret rfl (Or.inl rfl) dX9_isOperator_119 ?_
    exact H
  by_cases h4 : x0 = 40
  · refine r_tsIn (tgt := 118) 3 g0 dX9_isOperator_1 (by omega) (by decide) rfl (by decide) ?_
    have H := H.2 (by omega)
    refine r_iconst dX9_isOperator_118 ?_
    refine r_zret rfl (Or.inl rfl) dX9_isOperator_119 ?_
    exact H
  by_cases h5 : x0 = 41
  · refine r_tsIn (tgt := 118) 4 g0 dX9_isOperator_1 (by omega) (by decide) rfl (by decide) ?_
    have H := H.2 (by omega)
    refine r_iconst dX9_isOperator_118 ?_
    refine r_zret rfl (Or.inl rfl) dX9_isOperator_119 ?_
    exact H
  by_cases h6 : x0 = 42
  · refine r_tsIn (tgt := 116) 5 g0 dX9_isOperator_1 (by omega) (by decide) rfl (by decide) ?_
    have H := H.1 (by omega)
    refine r_iconst dX9_isOperator_116 ?_
    refine r_zret rfl (Or.inr rfl) dX9_isOperator_117 ?_
    exact H
  by_cases h7 : x0 = 43
  · refine r_tsIn (tgt := 116) 6 g0 dX9_isOperator_1 (by omega) (by decide) rfl (by decide) ?_
    have H := H.1 (by omega)
    refine r_iconst dX9_isOperator_116 ?_
    refine r_zret rfl (Or.inr rfl) dX9_isOperator_117 ?_
    exact H
  by_cases h8 : x0 = 44
  · refine r_tsIn (tgt := 118) 7 g0 dX9_isOperator_1 (by omega) (by decide) rfl (by decide) ?_
    have H := H.2 (by omega)
    refine r_iconst dX9_isOperator_118 ?_
    refine r_zret rfl (Or.inl rfl) dX9_isOperator_119 ?_
    exact H
  by_cases h9 : x0 = 45
  · refine r_tsIn (tgt := 116) 8 g0 dX9_isOperator_1 (by omega) (by decide) rfl (by decide) ?_
    have H := H.1 (by omega)
    refine r_iconst dX9_isOperator_116 ?_
    refine r_zret rfl (Or.inr rfl) dX9_isOperator_117 ?_
    exact H
  by_cases h10 : x0 = 46
  · refine r_tsIn (tgt := 118) 9 g0 dX9_isOperator_1 (by omega) (by decide) rfl (by decide) ?_
    have H := H.2 (by omega)
    refine r_iconst dX9_isOperator_118 ?_
    refine r_zret rfl (Or.inl rfl) dX9_isOperator_119 ?_
    exact H
  by_cases h11 : x0 = 47
  · refine r_tsIn (tgt := 116) 10 g0 dX9_isOperator_1 (by omega) (by decide) rfl (by decide) ?_
    have H := H.1 (by omega)
    refine r_iconst dX9_isOperator_116 ?_
    refine r_zret rfl (Or.inr rfl) dX9_isOperator_117 ?_
    exact H
  by_cases h12 : x0 = 48
  · refine r_tsIn (tgt := 118) 11 g0 dX9_isOperator_1 (by omega) (by decide) rfl (by decide) ?_
    have H := H.2 (by omega)
    refine r_iconst dX9_isOperator_118 ?_
    refine r_zret rfl (Or.inl rfl) dX9_isOperator_119 ?_
    exact H
  by_cases h13 : x0 = 49
  · refine r_tsIn (tgt := 118) 12 g0 dX9_isOperator_1 (by omega) (by decide) rfl (by decide) ?_
    have H := H.2 (by omega)
    refine r_iconst dX9_isOperator_118 ?_
    refine r_zret rfl (Or.inl rfl) dX9_isOperator_119 ?_
    exact H
  by_cases h14 : x0 = 50
  · refine r_tsIn (tgt := 118) 13 g0 dX9_isOperator_1 (by omega) (by decide) rfl (by decide) ?_
    have H := H.2 (by omega)
    refine r_iconst dX9_isOperator_118 ?_
    refine r_zret rfl (Or.inl rfl) dX9_isOperator_119 ?_
    exact H
  by_cases h15 : x0 = 51
  · refine r_tsIn (tgt := 118) 14 g0 dX9_isOperator_1 (by omega) (by decide) rfl (by decide) ?_
    have H := H.2 (by omega)
    refine r_iconst dX9_isOperator_118 ?_
    refine r_zret rfl (Or.inl rfl) dX9_isOperator_119 ?_
    exact H
  by_cases h16 : x0 = 52
  · refine r_tsIn (tgt := 118) 15 g0 dX9_isOperator_1 (by omega) (by decide) rfl (by decide) ?_
    have H := H.2 (by omega)
    refine r_iconst dX9_isOperator_118 ?_
    refine r_zret rfl (Or.inl rfl) dX9_isOperator_119 ?_
    exact H
  by_cases h17 : x0 = 53
  · refine r_tsIn (tgt := 118) 16 g0 dX9_isOperator_1 (by omega) (by decide) rfl (by decide) ?_
    have H := H.2 (by omega)
    refine r_iconst dX9_isOperator_118 ?_
    refine r_zret rfl (Or.inl rfl) dX9_isOperator_119 ?_
    exact H
  by_cases h18 : x0 = 54
  · refine r_tsIn (tgt := 118) 17 g0 dX9_isOperator_1 (by omega) (by decide) rfl (by decide) ?_
    have H := H.2 (by omega)
    refine r_iconst dX9_isOperator_118 ?_
    refine r_zret rfl (Or.inl rfl) dX9_isOperator_119 ?_
    exact H
  by_cases h19 : x0 = 55
  · refine r_tsIn (tgt := 118) 18 g0 dX9_isOperator_1 (by omega) (by decide) rfl (by decide) ?_
    have H := H.2 (by omega)
    refine r_iconst dX9_isOperator_118 ?_
    refine r_zret rfl (Or.inl rfl) dX9_isOperator_119 ?_
    exact H
  by_cases h20 : x0 = 56
  · refine r_tsIn (tgt := 118) 19 g0 dX9_isOperator_1 (by omega) (by decide) rfl (by decide) ?_
    have H := H.2 (by omega)
    refine r_iconst dX9_isOperator_118 ?_
    refine r_zret rfl (Or.inl rfl) dX9_isOperator_119 ?_
    exact H
  by_cases h21 : x0 = 57
  · refine r_tsIn (tgt := 118) 20 g0 dX9_isOperator_1 (by omega) (by decide) rfl (by decide) ?_
    have H := H.2 (by omega)
    refine r_iconst dX9_isOperator_118 ?_
    refine r_zret rfl (Or.inl rfl) dX9_isOperator_119 ?_
    exact H
  by_cases h22 : x0 = 58
  · refine r_tsIn (tgt := 118) 21 g0 dX9_isOperator_1 (by omega) (by decide) rfl (by decide) ?_
    have H := H.2 (by omega)
    refine r_iconst dX9_isOperator_118 ?_
    refine r_zret rfl (Or.inl rfl) dX9_isOperator_119 ?_
    exact H
  by_cases h23 : x0 = 59
  · refine r_tsIn (tgt := 118) 22 g0 dX9_isOperator_1 (by omega) (by decide) rfl (by decide) ?_
    have H := H.2 (by omega)
    refine r_iconst dX9_isOperator_118 ?_
    refine r_zret rfl (Or.inl rfl) dX9_isOperator_119 ?_
    exact H
  by_cases h24 : x0 = 60
  · refine r_tsIn (tgt := 116) 23 g0 dX9_isOperator_1 (by omega) (by decide) rfl (by decide) ?_
    have H := H.1 (by omega)
    refine r_iconst dX9_isOperator_116 ?_
    refine r_zret rfl (Or.inr rfl) dX9_isOperator_117 ?_
    exact H
  by_cases h25 : x0 = 61
  · refine r_tsIn (tgt := 116) 24 g0 dX9_isOperator_1 (by omega) (by decide) rfl (by decide) ?_
    have H := H.1 (by omega)
    refine r_iconst dX9_isOperator_116 ?_
    refine r_zret rfl (Or.inr rfl) dX9_isOperator_117 ?_
    exact H
  refine r_tsOut (tgt := 118) g0 dX9_isOperator_1 (by omega) (by decide) ?_
  have H := H.2 (by omega)
  refine r_iconst dX9_isOperator_118 ?_
  refine r_zret rfl (Or.inl rfl) dX9_isOperator_119 ?_
  exact H
theorem eX9_isOperator {l : Launch} {M : sl_M} {Q : sl_R} {x0 : Int} (k : sl_At l mX9_isOperator 0 [(0, vI x0)] [] M Q) : sl_Runs l mX9_isOperator [vI x0] M Q := sl_Runs.of (ls := [(0, vI x0)]) rfl rfl (fun _ => rfl) (fun _ => Nat.le_of_ble_eq_true rfl) rfl (k)
theorem dX9_isDigit_0 : decode cX9_isDigit 0 = .ok (.iload_n 0, 1) := by decide +kernel
theorem dX9_isDigit_1 : decode cX9_isDigit 1 = .ok (.bipush 48, 2) := by decide +kernel
theorem dX9_isDigit_3 : decode cX9_isDigit 3 = .ok (.if_icmp .lt 13, 3) := by decide +kernel
theorem dX9_isDigit_6 : decode cX9_isDigit 6 = .ok (.iload_n 0, 1) := by decide +kernel
theorem dX9_isDigit_7 : decode cX9_isDigit 7 = .ok (.bipush 57, 2) := by decide +kernel
theorem dX9_isDigit_9 : decode cX9_isDigit 9 = .ok (.if_icmp .gt 7, 3) := by decide +kernel
theorem dX9_isDigit_12 : decode cX9_isDigit 12 = .ok (.iconst 1, 1) := by decide +kernel
theorem dX9_isDigit_13 : decode cX9_isDigit 13 = .ok (.goto 4, 3) := by decide +kernel
theorem dX9_isDigit_16 : decode cX9_isDigit 16 = .ok (.iconst 0, 1) := by decide +kernel
theorem dX9_isDigit_17 : decode cX9_isDigit 17 = .ok (.ireturn, 1) := by decide +kernel
set_option maxHeartbeats 4000000 in
set_option maxRecDepth 10000 in
theorem vX9_isDigit_0 {l : Launch} {M : sl_M} {Q : sl_R} {x0 : Int} (H : sl_RM M → sl_rg x0 → Q (some (vI (if (¬ (x0 < 48)) ∧ (¬ (57 < x0)) then 1 else 0))) M) : sl_At l mX9_isDigit 0 [(0, vI x0)] [] M Q := by
  refine sl_At.in (fun hM hls => ?_)
  have g0 : sl_rg x0 := hls _ (List.mem_of_getElem? (i := 0) rfl)
  have H := H hM g0
  refine r_iload_n (k := 0) rfl rfl dX9_isDigit_0 ?_
  refine r_bipush dX9_isDigit_1 (by decide) ?_
  have J : sl_At l mX9_isDigit 17 [(0, vI x0)] [vI (if (¬ (x0 < 48)) ∧ (¬ (57 < x0)) then 1 else 0)] M Q := by
    refine r_zret rfl b_01 dX9_isDigit_17 ?_
    exact H
  refine r_icmp_lt (tgt := 16) g0 ⟨by decide, by decide⟩ dX9_isDigit_3 (by decide) (fun h1 => ?_) (fun h1 => ?_)
  · refine r_iconst dX9_isDigit_16 ?_
    rw [if_neg (show ¬ ((¬ (x0 < 48)) ∧ (¬ (57 < x0))) by omega)] at J
    exact J
  · refine r_iload_n (k := 0) rfl rfl dX9_isDigit_6 ?_
    refine r_bipush dX9_isDigit_7 (by decide) ?_
    refine r_icmp_gt (tgt := 16) g0 ⟨by decide, by decide⟩ dX9_isDigit_9 (by decide) (fun h2 => ?_) (fun h2 => ?_)
    · refine r_iconst dX9_isDigit_16 ?_
      rw [if_neg (show ¬ ((¬ (x0 < 48)) ∧ (¬ (57 < x0))) by omega)] at J
      exact J
    · refine r_iconst dX9_isDigit_12 ?_
      refine r_goto (tgt := 17) dX9_isDigit_13 (by decide) ?_
      rw [if_pos (show (¬ (x0 < 48)) ∧ (¬ (57 < x0)) by omega)] at J
      exact J
theorem eX9_isDigit {l : Launch} {M : sl_M} {Q : sl_R} {x0 : Int} (k : sl_At l mX9_isDigit 0 [(0, vI x0)] [] M Q) : sl_Runs l mX9_isDigit [vI x0] M Q := sl_Runs.of (ls := [(0, vI x0)]) rfl rfl (fun _ => rfl) (fun _ => Nat.le_of_ble_eq_true rfl) rfl (k)
theorem dX9_variableOf_0 : decode cX9_variableOf 0 = .ok (.iload_n 0, 1) := by decide +kernel
theorem dX9_variableOf_1 : decode cX9_variableOf 1 = .ok (.bipush 97, 2) := by decide +kernel
theorem dX9_variableOf_3 : decode cX9_variableOf 3 = .ok (.if_icmp .lt 16, 3) := by decide +kernel
theorem dX9_variableOf_6 : decode cX9_variableOf 6 = .ok (.iload_n 0, 1) := by decide +kernel
theorem dX9_variableOf_7 : decode cX9_variableOf 7 = .ok (.bipush 105, 2) := by decide +kernel
theorem dX9_variableOf_9 : decode cX9_variableOf 9 = .ok (.if_icmp .ge 10, 3) := by decide +kernel
theorem dX9_variableOf_12 : decode cX9_variableOf 12 = .ok (.iload_n 0, 1) := by decide +kernel
theorem dX9_variableOf_13 : decode cX9_variableOf 13 = .ok (.bipush 97, 2) := by decide +kernel
theorem dX9_variableOf_15 : decode cX9_variableOf 15 = .ok (.isub, 1) := by decide +kernel
theorem dX9_variableOf_16 : decode cX9_variableOf 16 = .ok (.goto 4, 3) := by decide +kernel
theorem dX9_variableOf_19 : decode cX9_variableOf 19 = .ok (.iconst (-1), 1) := by decide +kernel
theorem dX9_variableOf_20 : decode cX9_variableOf 20 = .ok (.ireturn, 1) := by decide +kernel
set_option maxHeartbeats 4000000 in
set_option maxRecDepth 10000 in
theorem vX9_variableOf_0 {l : Launch} {M : sl_M} {Q : sl_R} {x0 : Int} (H : sl_RM M → sl_rg x0 → (sl_rg (if x0 < 97 then (-1) else (if 105 ≤ x0 then (-1) else x0 - 97))) ∧ Q (some (vI (if x0 < 97 then (-1) else (if 105 ≤ x0 then (-1) else x0 - 97)))) M) : sl_At l mX9_variableOf 0 [(0, vI x0)] [] M Q := by
  refine sl_At.in (fun hM hls => ?_)
  have g0 : sl_rg x0 := hls _ (List.mem_of_getElem? (i := 0) rfl)
  have H := H hM g0
  refine r_iload_n (k := 0) rfl rfl dX9_variableOf_0 ?_
  refine r_bipush dX9_variableOf_1 (by decide) ?_
  have J : sl_At l mX9_variableOf 20 [(0, vI x0)] [vI (if x0 < 97 then (-1) else (if 105 ≤ x0 then (-1) else x0 - 97))] M Q := by
    obtain ⟨c3, H⟩ := H
    refine r_iret rfl c3 dX9_variableOf_20 ?_
    exact H
  refine r_icmp_lt (tgt := 19) g0 ⟨by decide, by decide⟩ dX9_variableOf_3 (by decide) (fun h1 => ?_) (fun h1 => ?_)
  · refine r_iconst dX9_variableOf_19 ?_
    rw [if_pos h1] at J
    exact J
  · refine r_iload_n (k := 0) rfl rfl dX9_variableOf_6 ?_
    refine r_bipush dX9_variableOf_7 (by decide) ?_
    refine r_icmp_ge (tgt := 19) g0 ⟨by decide, by decide⟩ dX9_variableOf_9 (by decide) (fun h2 => ?_) (fun h2 => ?_)
    · refine r_iconst dX9_variableOf_19 ?_
      rw [if_neg h1, if_pos h2] at J
      exact J
    · refine r_iload_n (k := 0) rfl rfl dX9_variableOf_12 ?_
      refine r_bipush dX9_variableOf_13 (by decide) ?_
      refine r_isub dX9_variableOf_15 ?_
      refine r_goto (tgt := 20) dX9_variableOf_16 (by decide) ?_
      rw [if_neg h1, if_neg h2] at J
      exact J
theorem eX9_variableOf {l : Launch} {M : sl_M} {Q : sl_R} {x0 : Int} (k : sl_At l mX9_variableOf 0 [(0, vI x0)] [] M Q) : sl_Runs l mX9_variableOf [vI x0] M Q := sl_Runs.of (ls := [(0, vI x0)]) rfl rfl (fun _ => rfl) (fun _ => Nat.le_of_ble_eq_true rfl) rfl (k)
theorem dX9_has_0 : decode cX9_has 0 = .ok (.iload_n 0, 1) := by decide +kernel
theorem dX9_has_1 : decode cX9_has 1 = .ok (.iload_n 1, 1) := by decide +kernel
theorem dX9_has_2 : decode cX9_has 2 = .ok (.ishr, 1) := by decide +kernel
theorem dX9_has_3 : decode cX9_has 3 = .ok (.iconst 1, 1) := by decide +kernel
theorem dX9_has_4 : decode cX9_has 4 = .ok (.iand, 1) := by decide +kernel
theorem dX9_has_5 : decode cX9_has 5 = .ok (.ifCond .eq 7, 3) := by decide +kernel
theorem dX9_has_8 : decode cX9_has 8 = .ok (.iconst 1, 1) := by decide +kernel
theorem dX9_has_9 : decode cX9_has 9 = .ok (.goto 4, 3) := by decide +kernel
theorem dX9_has_12 : decode cX9_has 12 = .ok (.iconst 0, 1) := by decide +kernel
theorem dX9_has_13 : decode cX9_has 13 = .ok (.ireturn, 1) := by decide +kernel
set_option maxHeartbeats 4000000 in
set_option maxRecDepth 10000 in
theorem vX9_has_0 {l : Launch} {M : sl_M} {Q : sl_R} {x0 x1 : Int} (H : sl_RM M → sl_rg x0 → sl_rg x1 → Q (some (vI (if ¬ (iand (ishr x0 x1) 1 = 0) then 1 else 0))) M) : sl_At l mX9_has 0 [(0, vI x0), (1, vI x1)] [] M Q := by
  refine sl_At.in (fun hM hls => ?_)
  have g0 : sl_rg x0 := hls _ (List.mem_of_getElem? (i := 0) rfl)
  have g1 : sl_rg x1 := hls _ (List.mem_of_getElem? (i := 1) rfl)
  have H := H hM g0 g1
  refine r_iload_n (k := 0) rfl rfl dX9_has_0 ?_
  refine r_iload_n (k := 1) rfl rfl dX9_has_1 ?_
  refine r_ishr dX9_has_2 ?_
  refine r_iconst dX9_has_3 ?_
  refine r_iand dX9_has_4 ?_
  have J : sl_At l mX9_has 13 [(0, vI x0), (1, vI x1)] [vI (if ¬ (iand (ishr x0 x1) 1 = 0) then 1 else 0)] M Q := by
    refine r_zret rfl b_01 dX9_has_13 ?_
    exact H
  refine r_if_eq (tgt := 12) (rg_iand _ _) dX9_has_5 (by decide) (fun h1 => ?_) (fun h1 => ?_)
  · refine r_iconst dX9_has_12 ?_
    rw [if_neg (show ¬ (¬ (iand (ishr x0 x1) 1 = 0)) by omega)] at J
    exact J
  · refine r_iconst dX9_has_8 ?_
    refine r_goto (tgt := 13) dX9_has_9 (by decide) ?_
    rw [if_pos (show ¬ (iand (ishr x0 x1) 1 = 0) by omega)] at J
    exact J
theorem eX9_has {l : Launch} {M : sl_M} {Q : sl_R} {x0 x1 : Int} (k : sl_At l mX9_has 0 [(0, vI x0), (1, vI x1)] [] M Q) : sl_Runs l mX9_has [vI x0, vI x1] M Q := sl_Runs.of (ls := [(0, vI x0), (1, vI x1)]) rfl rfl (fun _ => rfl) (fun _ => Nat.le_of_ble_eq_true rfl) rfl (k)
theorem dX9_renamed_0 : decode cX9_renamed 0 = .ok (.iload_n 0, 1) := by decide +kernel
theorem dX9_renamed_1 : decode cX9_renamed 1 = .ok (.iconst 3, 1) := by decide +kernel
theorem dX9_renamed_2 : decode cX9_renamed 2 = .ok (.iload_n 1, 1) := by decide +kernel
theorem dX9_renamed_3 : decode cX9_renamed 3 = .ok (.imul, 1) := by decide +kernel
theorem dX9_renamed_4 : decode cX9_renamed 4 = .ok (.ishr, 1) := by decide +kernel
theorem dX9_renamed_5 : decode cX9_renamed 5 = .ok (.bipush 7, 2) := by decide +kernel
theorem dX9_renamed_7 : decode cX9_renamed 7 = .ok (.iand, 1) := by decide +kernel
theorem dX9_renamed_8 : decode cX9_renamed 8 = .ok (.ireturn, 1) := by decide +kernel
set_option maxHeartbeats 4000000 in
set_option maxRecDepth 10000 in
theorem vX9_renamed_0 {l : Launch} {M : sl_M} {Q : sl_R} {x0 x1 : Int} (H : sl_RM M → sl_rg x0 → sl_rg x1 → Q (some (vI (iand (ishr x0 (3 * x1)) 7))) M) : sl_At l mX9_renamed 0 [(0, vI x0), (1, vI x1)] [] M Q := by
  refine sl_At.in (fun hM hls => ?_)
  have g0 : sl_rg x0 := hls _ (List.mem_of_getElem? (i := 0) rfl)
  have g1 : sl_rg x1 := hls _ (List.mem_of_getElem? (i := 1) rfl)
  have H := H hM g0 g1
  refine r_iload_n (k := 0) rfl rfl dX9_renamed_0 ?_
  refine r_iconst dX9_renamed_1 ?_
  refine r_iload_n (k := 1) rfl rfl dX9_renamed_2 ?_
  refine r_imul dX9_renamed_3 ?_
  refine r_ishr dX9_renamed_4 ?_
  refine r_bipush dX9_renamed_5 (by decide) ?_
  refine r_iand dX9_renamed_7 ?_
  refine r_iret rfl (rg_iand _ _) dX9_renamed_8 ?_
  exact H
theorem eX9_renamed {l : Launch} {M : sl_M} {Q : sl_R} {x0 x1 : Int} (k : sl_At l mX9_renamed 0 [(0, vI x0), (1, vI x1)] [] M Q) : sl_Runs l mX9_renamed [vI x0, vI x1] M Q := sl_Runs.of (ls := [(0, vI x0), (1, vI x1)]) rfl rfl (fun _ => rfl) (fun _ => Nat.le_of_ble_eq_true rfl) rfl (k)
