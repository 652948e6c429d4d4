theorem dX10_areOfBlock_0 : decode cX10_areOfBlock 0 = .ok (.aload_n 0, 1) := by decide +kernel
theorem dX10_areOfBlock_1 : decode cX10_areOfBlock 1 = .ok (.getfield 34, 3) := by decide +kernel
theorem dX10_areOfBlock_4 : decode cX10_areOfBlock 4 = .ok (.iload_n 1, 1) := by decide +kernel
theorem dX10_areOfBlock_5 : decode cX10_areOfBlock 5 = .ok (.iload_n 2, 1) := by decide +kernel
theorem dX10_areOfBlock_6 : decode cX10_areOfBlock 6 = .ok (.iadd, 1) := by decide +kernel
theorem dX10_areOfBlock_7 : decode cX10_areOfBlock 7 = .ok (.iaload, 1) := by decide +kernel
theorem dX10_areOfBlock_8 : decode cX10_areOfBlock 8 = .ok (.aload_n 0, 1) := by decide +kernel
theorem dX10_areOfBlock_9 : decode cX10_areOfBlock 9 = .ok (.getfield 34, 3) := by decide +kernel
theorem dX10_areOfBlock_12 : decode cX10_areOfBlock 12 = .ok (.iload_n 1, 1) := by decide +kernel
theorem dX10_areOfBlock_13 : decode cX10_areOfBlock 13 = .ok (.iload_n 3, 1) := by decide +kernel
theorem dX10_areOfBlock_14 : decode cX10_areOfBlock 14 = .ok (.iadd, 1) := by decide +kernel
theorem dX10_areOfBlock_15 : decode cX10_areOfBlock 15 = .ok (.iaload, 1) := by decide +kernel
theorem dX10_areOfBlock_16 : decode cX10_areOfBlock 16 = .ok (.if_icmp .ne 26, 3) := by decide +kernel
theorem dX10_areOfBlock_19 : decode cX10_areOfBlock 19 = .ok (.aload_n 0, 1) := by decide +kernel
theorem dX10_areOfBlock_20 : decode cX10_areOfBlock 20 = .ok (.getfield 37, 3) := by decide +kernel
theorem dX10_areOfBlock_23 : decode cX10_areOfBlock 23 = .ok (.iload_n 1, 1) := by decide +kernel
theorem dX10_areOfBlock_24 : decode cX10_areOfBlock 24 = .ok (.iload_n 2, 1) := by decide +kernel
theorem dX10_areOfBlock_25 : decode cX10_areOfBlock 25 = .ok (.iadd, 1) := by decide +kernel
theorem dX10_areOfBlock_26 : decode cX10_areOfBlock 26 = .ok (.iaload, 1) := by decide +kernel
theorem dX10_areOfBlock_27 : decode cX10_areOfBlock 27 = .ok (.aload_n 0, 1) := by decide +kernel
theorem dX10_areOfBlock_28 : decode cX10_areOfBlock 28 = .ok (.getfield 37, 3) := by decide +kernel
theorem dX10_areOfBlock_31 : decode cX10_areOfBlock 31 = .ok (.iload_n 1, 1) := by decide +kernel
theorem dX10_areOfBlock_32 : decode cX10_areOfBlock 32 = .ok (.iload_n 3, 1) := by decide +kernel
theorem dX10_areOfBlock_33 : decode cX10_areOfBlock 33 = .ok (.iadd, 1) := by decide +kernel
theorem dX10_areOfBlock_34 : decode cX10_areOfBlock 34 = .ok (.iaload, 1) := by decide +kernel
theorem dX10_areOfBlock_35 : decode cX10_areOfBlock 35 = .ok (.if_icmp .ne 7, 3) := by decide +kernel
theorem dX10_areOfBlock_38 : decode cX10_areOfBlock 38 = .ok (.iconst 1, 1) := by decide +kernel
theorem dX10_areOfBlock_39 : decode cX10_areOfBlock 39 = .ok (.goto 4, 3) := by decide +kernel
theorem dX10_areOfBlock_42 : decode cX10_areOfBlock 42 = .ok (.iconst 0, 1) := by decide +kernel
theorem dX10_areOfBlock_43 : decode cX10_areOfBlock 43 = .ok (.ireturn, 1) := by decide +kernel
set_option maxHeartbeats 4000000 in
set_option maxRecDepth 10000 in
theorem vX10_areOfBlock_0 {l : Launch} {M : sl_M} {Q : sl_R} {x1 x2 x3 : Int} (H : sl_RM M → sl_rg x1 → sl_rg x2 → sl_rg x3 → (0 ≤ x1 + x2 ∧ x1 + x2 < 82) ∧ (0 ≤ x1 + x3 ∧ x1 + x3 < 82) ∧ Q (some (vI (if (¬ (M 1 18 (x1 + x2) ≠ M 1 18 (x1 + x3))) ∧ (¬ (M 1 19 (x1 + x2) ≠ M 1 19 (x1 + x3))) then 1 else 0))) M) : sl_At l mX10_areOfBlock 0 [(0, vR 1 0), (1, vI x1), (2, vI x2), (3, vI x3)] [] M Q := by
  refine sl_At.in (fun hM hls => ?_)
  have g1 : sl_rg x1 := hls _ (List.mem_of_getElem? (i := 1) rfl)
  have g2 : sl_rg x2 := hls _ (List.mem_of_getElem? (i := 2) rfl)
  have g3 : sl_rg x3 := hls _ (List.mem_of_getElem? (i := 3) rfl)
  have H := H hM g1 g2 g3
  refine r_aload_n (k := 0) rfl rfl dX10_areOfBlock_0 ?_
  refine r_getR (k := 17) (o' := 1) (i' := 18) ckX10 rfl rfl (by decide) rfl rfl rfl fl_X10_34 dX10_areOfBlock_1 ?_
  refine r_iload_n (k := 1) rfl rfl dX10_areOfBlock_4 ?_
  refine r_iload_n (k := 2) rfl rfl dX10_areOfBlock_5 ?_
  refine r_iadd dX10_areOfBlock_6 ?_
  obtain ⟨c1, H⟩ := H
  refine r_iald rfl rfl rfl c1 dX10_areOfBlock_7 ?_
  refine r_aload_n (k := 0) rfl rfl dX10_areOfBlock_8 ?_
  refine r_getR (k := 17) (o' := 1) (i' := 18) ckX10 rfl rfl (by decide) rfl rfl rfl fl_X10_34 dX10_areOfBlock_9 ?_
  refine r_iload_n (k := 1) rfl rfl dX10_areOfBlock_12 ?_
  refine r_iload_n (k := 3) rfl rfl dX10_areOfBlock_13 ?_
  refine r_iadd dX10_areOfBlock_14 ?_
  obtain ⟨c2, H⟩ := H
  refine r_iald rfl rfl rfl c2 dX10_areOfBlock_15 ?_
  have J : sl_At l mX10_areOfBlock 43 [(0, vR 1 0), (1, vI x1), (2, vI x2), (3, vI x3)] [vI (if (¬ (M 1 18 (x1 + x2) ≠ M 1 18 (x1 + x3))) ∧ (¬ (M 1 19 (x1 + x2) ≠ M 1 19 (x1 + x3))) then 1 else 0)] M Q := by
    refine r_zret rfl b_01 dX10_areOfBlock_43 ?_
    exact H
  refine r_icmp_ne (tgt := 42) (hM _ _ _) (hM _ _ _) dX10_areOfBlock_16 (by decide) (fun h3 => ?_) (fun h3 => ?_)
  · refine r_iconst dX10_areOfBlock_42 ?_
    rw [if_neg (show ¬ ((¬ (M 1 18 (x1 + x2) ≠ M 1 18 (x1 + x3))) ∧ (¬ (M 1 19 (x1 + x2) ≠ M 1 19 (x1 + x3)))) by omega)] at J
    exact J
  · refine r_aload_n (k := 0) rfl rfl dX10_areOfBlock_19 ?_
    refine r_getR (k := 18) (o' := 1) (i' := 19) ckX10 rfl rfl (by decide) rfl rfl rfl fl_X10_37 dX10_areOfBlock_20 ?_
    refine r_iload_n (k := 1) rfl rfl dX10_areOfBlock_23 ?_
    refine r_iload_n (k := 2) rfl rfl dX10_areOfBlock_24 ?_
    refine r_iadd dX10_areOfBlock_25 ?_
    refine r_iald rfl rfl rfl c1 dX10_areOfBlock_26 ?_
    refine r_aload_n (k := 0) rfl rfl dX10_areOfBlock_27 ?_
    refine r_getR (k := 18) (o' := 1) (i' := 19) ckX10 rfl rfl (by decide) rfl rfl rfl fl_X10_37 dX10_areOfBlock_28 ?_
    refine r_iload_n (k := 1) rfl rfl dX10_areOfBlock_31 ?_
    refine r_iload_n (k := 3) rfl rfl dX10_areOfBlock_32 ?_
    refine r_iadd dX10_areOfBlock_33 ?_
    refine r_iald rfl rfl rfl c2 dX10_areOfBlock_34 ?_
    refine r_icmp_ne (tgt := 42) (hM _ _ _) (hM _ _ _) dX10_areOfBlock_35 (by decide) (fun h4 => ?_) (fun h4 => ?_)
    · refine r_iconst dX10_areOfBlock_42 ?_
      rw [if_neg (show ¬ ((¬ (M 1 18 (x1 + x2) ≠ M 1 18 (x1 + x3))) ∧ (¬ (M 1 19 (x1 + x2) ≠ M 1 19 (x1 + x3)))) by omega)] at J
      exact J
    · refine r_iconst dX10_areOfBlock_38 ?_
      refine r_goto (tgt := 43) dX10_areOfBlock_39 (by decide) ?_
      rw [if_pos (show (¬ (M 1 18 (x1 + x2) ≠ M 1 18 (x1 + x3))) ∧ (¬ (M 1 19 (x1 + x2) ≠ M 1 19 (x1 + x3))) by omega)] at J
      exact J
theorem eX10_areOfBlock {l : Launch} {M : sl_M} {Q : sl_R} {x1 x2 x3 : Int} (k : sl_At l mX10_areOfBlock 0 [(0, vR 1 0), (1, vI x1), (2, vI x2), (3, vI x3)] [] M Q) : sl_Runs l mX10_areOfBlock [vR 1 0, vI x1, vI x2, vI x3] M Q := sl_Runs.of (ls := [(0, vR 1 0), (1, vI x1), (2, vI x2), (3, vI x3)]) rfl rfl (fun _ => rfl) (fun _ => Nat.le_of_ble_eq_true rfl) rfl (k)
theorem dX10_behind_0 : decode cX10_behind 0 = .ok (.iload_n 2, 1) := by decide +kernel
theorem dX10_behind_1 : decode cX10_behind 1 = .ok (.istore_n 3, 1) := by decide +kernel
theorem dX10_behind_2 : decode cX10_behind 2 = .ok (.aload_n 0, 1) := by decide +kernel
theorem dX10_behind_3 : decode cX10_behind 3 = .ok (.getfield 40, 3) := by decide +kernel
theorem dX10_behind_6 : decode cX10_behind 6 = .ok (.iload_n 1, 1) := by decide +kernel
theorem dX10_behind_7 : decode cX10_behind 7 = .ok (.iload_n 3, 1) := by decide +kernel
theorem dX10_behind_8 : decode cX10_behind 8 = .ok (.iadd, 1) := by decide +kernel
theorem dX10_behind_9 : decode cX10_behind 9 = .ok (.iaload, 1) := by decide +kernel
theorem dX10_behind_10 : decode cX10_behind 10 = .ok (.istore 4, 2) := by decide +kernel
theorem dX10_behind_12 : decode cX10_behind 12 = .ok (.iload 4, 2) := by decide +kernel
theorem dX10_behind_14 : decode cX10_behind 14 = .ok (.aload_n 0, 1) := by decide +kernel
theorem dX10_behind_15 : decode cX10_behind 15 = .ok (.iload_n 1, 1) := by decide +kernel
theorem dX10_behind_16 : decode cX10_behind 16 = .ok (.invokevirtual 201, 3) := by decide +kernel
theorem dX10_behind_19 : decode cX10_behind 19 = .ok (.if_icmp .ge 17, 3) := by decide +kernel
theorem dX10_behind_22 : decode cX10_behind 22 = .ok (.aload_n 0, 1) := by decide +kernel
theorem dX10_behind_23 : decode cX10_behind 23 = .ok (.iload_n 1, 1) := by decide +kernel
theorem dX10_behind_24 : decode cX10_behind 24 = .ok (.iload_n 3, 1) := by decide +kernel
theorem dX10_behind_25 : decode cX10_behind 25 = .ok (.iload 4, 2) := by decide +kernel
theorem dX10_behind_27 : decode cX10_behind 27 = .ok (.invokevirtual 204, 3) := by decide +kernel
theorem dX10_behind_30 : decode cX10_behind 30 = .ok (.ifCond .eq 6, 3) := by decide +kernel
theorem dX10_behind_33 : decode cX10_behind 33 = .ok (.iload 4, 2) := by decide +kernel
theorem dX10_behind_35 : decode cX10_behind 35 = .ok (.ireturn, 1) := by decide +kernel
theorem dX10_behind_36 : decode cX10_behind 36 = .ok (.aload_n 0, 1) := by decide +kernel
theorem dX10_behind_37 : decode cX10_behind 37 = .ok (.getfield 34, 3) := by decide +kernel
theorem dX10_behind_40 : decode cX10_behind 40 = .ok (.iload_n 1, 1) := by decide +kernel
theorem dX10_behind_41 : decode cX10_behind 41 = .ok (.iload_n 3, 1) := by decide +kernel
theorem dX10_behind_42 : decode cX10_behind 42 = .ok (.iadd, 1) := by decide +kernel
theorem dX10_behind_43 : decode cX10_behind 43 = .ok (.iaload, 1) := by decide +kernel
theorem dX10_behind_44 : decode cX10_behind 44 = .ok (.istore_n 3, 1) := by decide +kernel
theorem dX10_behind_45 : decode cX10_behind 45 = .ok (.iload_n 3, 1) := by decide +kernel
theorem dX10_behind_46 : decode cX10_behind 46 = .ok (.iconst (-1), 1) := by decide +kernel
theorem dX10_behind_47 : decode cX10_behind 47 = .ok (.if_icmp .ne 9, 3) := by decide +kernel
theorem dX10_behind_50 : decode cX10_behind 50 = .ok (.aload_n 0, 1) := by decide +kernel
theorem dX10_behind_51 : decode cX10_behind 51 = .ok (.iload_n 1, 1) := by decide +kernel
theorem dX10_behind_52 : decode cX10_behind 52 = .ok (.invokevirtual 201, 3) := by decide +kernel
theorem dX10_behind_55 : decode cX10_behind 55 = .ok (.ireturn, 1) := by decide +kernel
theorem dX10_behind_56 : decode cX10_behind 56 = .ok (.aload_n 0, 1) := by decide +kernel
theorem dX10_behind_57 : decode cX10_behind 57 = .ok (.getfield 31, 3) := by decide +kernel
theorem dX10_behind_60 : decode cX10_behind 60 = .ok (.iload_n 1, 1) := by decide +kernel
theorem dX10_behind_61 : decode cX10_behind 61 = .ok (.iload_n 3, 1) := by decide +kernel
theorem dX10_behind_62 : decode cX10_behind 62 = .ok (.iadd, 1) := by decide +kernel
theorem dX10_behind_63 : decode cX10_behind 63 = .ok (.iaload, 1) := by decide +kernel
theorem dX10_behind_64 : decode cX10_behind 64 = .ok (.bipush 6, 2) := by decide +kernel
theorem dX10_behind_66 : decode cX10_behind 66 = .ok (.if_icmp .ne 5, 3) := by decide +kernel
theorem dX10_behind_69 : decode cX10_behind 69 = .ok (.iload_n 3, 1) := by decide +kernel
theorem dX10_behind_70 : decode cX10_behind 70 = .ok (.ireturn, 1) := by decide +kernel
theorem dX10_behind_71 : decode cX10_behind 71 = .ok (.goto (-69), 3) := by decide +kernel
set_option maxHeartbeats 4000000 in
set_option maxRecDepth 10000 in
theorem vX10_behind_0 {l : Launch} {M : sl_M} {Q : sl_R} {x1 x2 : Int} (H : sl_RM M → sl_rg x1 → sl_rg x2 → sl_At l mX10_behind 2 [(0, vR 1 0), (1, vI x1), (3, vI x2)] [] M Q) : sl_At l mX10_behind 0 [(0, vR 1 0), (1, vI x1), (2, vI x2)] [] M Q := by
  refine sl_At.in (fun hM hls => ?_)
  have g1 : sl_rg x1 := hls _ (List.mem_of_getElem? (i := 1) rfl)
  have g2 : sl_rg x2 := hls _ (List.mem_of_getElem? (i := 2) rfl)
  have H := H hM g1 g2
  refine r_iload_n (k := 2) rfl rfl dX10_behind_0 ?_
  refine r_istore_n (ls' := [(3, vI x2), (0, vR 1 0), (1, vI x1), (2, vI x2)]) g2 rfl (by decide) rfl dX10_behind_1 ?_
  exact sl_At.sub [1, 2, 0] rfl H
set_option maxHeartbeats 4000000 in
set_option maxRecDepth 10000 in
theorem vX10_behind_2 {l : Launch} {M : sl_M} {Q : sl_R} {x1 x3 : Int} (H : sl_RM M → sl_rg x1 → sl_rg x3 → (0 ≤ x1 + x3 ∧ x1 + x3 < 82) ∧ sl_RI l mX10_manyOf [vR 1 0, vI x1] M (fun y3 M2 => ((y3 ≤ M 1 20 (x1 + x3)) → sl_At l mX10_behind 36 [(0, vR 1 0), (1, vI x1), (3, vI x3)] [] M2 Q) ∧ ((¬ (y3 ≤ M 1 20 (x1 + x3))) → sl_RI l mX10_areOfBlock [vR 1 0, vI x1, vI x3, vI (M 1 20 (x1 + x3))] M2 (fun y6 M5 => ((y6 = 0) → sl_At l mX10_behind 36 [(0, vR 1 0), (1, vI x1), (3, vI x3)] [] M5 Q) ∧ ((¬ (y6 = 0)) → Q (some (vI (M 1 20 (x1 + x3)))) M5))))) : sl_At l mX10_behind 2 [(0, vR 1 0), (1, vI x1), (3, vI x3)] [] M Q := by
  refine sl_At.in (fun hM hls => ?_)
  have g1 : sl_rg x1 := hls _ (List.mem_of_getElem? (i := 1) rfl)
  have g3 : sl_rg x3 := hls _ (List.mem_of_getElem? (i := 2) rfl)
  have H := H hM g1 g3
  refine r_aload_n (k := 0) rfl rfl dX10_behind_2 ?_
  refine r_getR (k := 19) (o' := 1) (i' := 20) ckX10 rfl rfl (by decide) rfl rfl rfl fl_X10_40 dX10_behind_3 ?_
  refine r_iload_n (k := 1) rfl rfl dX10_behind_6 ?_
  refine r_iload_n (k := 2) rfl rfl dX10_behind_7 ?_
  refine r_iadd dX10_behind_8 ?_
  obtain ⟨c1, H⟩ := H
  refine r_iald rfl rfl rfl c1 dX10_behind_9 ?_
  refine r_istore (ls' := [(4, vI (M 1 20 (x1 + x3))), (0, vR 1 0), (1, vI x1), (3, vI x3)]) (hM _ _ _) (by decide) rfl dX10_behind_10 ?_
  refine r_iload (k := 0) rfl dX10_behind_12 ?_
  refine r_aload_n (k := 1) rfl rfl dX10_behind_14 ?_
  refine r_iload_n (k := 2) rfl rfl dX10_behind_15 ?_
  refine r_callV (g := mX10_manyOf) ckX10 rfl rfl rfl rfl mkX10_manyOf mvX10_manyOf ml_X10_201 ⟨by decide, by decide⟩ rfl (Nat.le_of_ble_eq_true rfl) rfl (ok_i g1 ok_n) dX10_behind_16 (sl_afterI (sl_RI.mono (fun y3 M2 gy3 hM2 H => ?_) H))
  refine r_icmp_ge (tgt := 36) (hM _ _ _) gy3 dX10_behind_19 (by decide) (fun h4 => ?_) (fun h4 => ?_)
  · have H := H.1 h4
    exact sl_At.sub [1, 2, 3] rfl H
  · have H := H.2 h4
    refine r_aload_n (k := 1) rfl rfl dX10_behind_22 ?_
    refine r_iload_n (k := 2) rfl rfl dX10_behind_23 ?_
    refine r_iload_n (k := 3) rfl rfl dX10_behind_24 ?_
    refine r_iload (k := 0) rfl dX10_behind_25 ?_
    refine r_callV (g := mX10_areOfBlock) ckX10 rfl rfl rfl rfl mkX10_areOfBlock mvX10_areOfBlock ml_X10_204 ⟨by decide, by decide⟩ rfl (Nat.le_of_ble_eq_true rfl) rfl (ok_i g1 (ok_i g3 (ok_i (hM _ _ _) ok_n))) dX10_behind_27 (sl_afterI (sl_RI.mono (fun y6 M5 gy6 hM5 H => ?_) H))
    refine r_if_eq (tgt := 36) gy6 dX10_behind_30 (by decide) (fun h7 => ?_) (fun h7 => ?_)
    · have H := H.1 h7
      exact sl_At.sub [1, 2, 3] rfl H
    · have H := H.2 h7
      refine r_iload (k := 0) rfl dX10_behind_33 ?_
      refine r_iret rfl (hM _ _ _) dX10_behind_35 ?_
      exact H
set_option maxHeartbeats 4000000 in
set_option maxRecDepth 10000 in
theorem vX10_behind_36 {l : Launch} {M : sl_M} {Q : sl_R} {x1 x3 : Int} (H : sl_RM M → sl_rg x1 → sl_rg x3 → (0 ≤ x1 + x3 ∧ x1 + x3 < 82) ∧ ((M 1 18 (x1 + x3) ≠ (-1)) → (0 ≤ x1 + (M 1 18 (x1 + x3)) ∧ x1 + (M 1 18 (x1 + x3)) < 82) ∧ ((M 1 17 (x1 + (M 1 18 (x1 + x3))) ≠ 6) → sl_At l mX10_behind 2 [(0, vR 1 0), (1, vI x1), (3, vI (M 1 18 (x1 + x3)))] [] M Q) ∧ ((¬ (M 1 17 (x1 + (M 1 18 (x1 + x3))) ≠ 6)) → Q (some (vI (M 1 18 (x1 + x3)))) M)) ∧ ((¬ (M 1 18 (x1 + x3) ≠ (-1))) → sl_RI l mX10_manyOf [vR 1 0, vI x1] M (fun y6 M5 => Q (some (vI y6)) M5))) : sl_At l mX10_behind 36 [(0, vR 1 0), (1, vI x1), (3, vI x3)] [] M Q := by
  refine sl_At.in (fun hM hls => ?_)
  have g1 : sl_rg x1 := hls _ (List.mem_of_getElem? (i := 1) rfl)
  have g3 : sl_rg x3 := hls _ (List.mem_of_getElem? (i := 2) rfl)
  have H := H hM g1 g3
  refine r_aload_n (k := 0) rfl rfl dX10_behind_36 ?_
  refine r_getR (k := 17) (o' := 1) (i' := 18) ckX10 rfl rfl (by decide) rfl rfl rfl fl_X10_34 dX10_behind_37 ?_
  refine r_iload_n (k := 1) rfl rfl dX10_behind_40 ?_
  refine r_iload_n (k := 2) rfl rfl dX10_behind_41 ?_
  refine r_iadd dX10_behind_42 ?_
  obtain ⟨c1, H⟩ := H
  refine r_iald rfl rfl rfl c1 dX10_behind_43 ?_
  refine r_istore_n (ls' := [(3, vI (M 1 18 (x1 + x3))), (0, vR 1 0), (1, vI x1)]) (hM _ _ _) rfl (by decide) rfl dX10_behind_44 ?_
  refine r_iload_n (k := 0) rfl rfl dX10_behind_45 ?_
  refine r_iconst dX10_behind_46 ?_
  refine r_icmp_ne (tgt := 56) (hM _ _ _) ⟨by decide, by decide⟩ dX10_behind_47 (by decide) (fun h2 => ?_) (fun h2 => ?_)
  · have H := H.1 h2
    refine r_aload_n (k := 1) rfl rfl dX10_behind_56 ?_
    refine r_getR (k := 16) (o' := 1) (i' := 17) ckX10 rfl rfl (by decide) rfl rfl rfl fl_X10_31 dX10_behind_57 ?_
    refine r_iload_n (k := 2) rfl rfl dX10_behind_60 ?_
    refine r_iload_n (k := 0) rfl rfl dX10_behind_61 ?_
    refine r_iadd dX10_behind_62 ?_
    obtain ⟨c3, H⟩ := H
    refine r_iald rfl rfl rfl c3 dX10_behind_63 ?_
    refine r_bipush dX10_behind_64 (by decide) ?_
    refine r_icmp_ne (tgt := 71) (hM _ _ _) ⟨by decide, by decide⟩ dX10_behind_66 (by decide) (fun h4 => ?_) (fun h4 => ?_)
    · have H := H.1 h4
      refine r_goto (tgt := 2) dX10_behind_71 (by decide) ?_
      exact sl_At.sub [1, 2, 0] rfl H
    · have H := H.2 h4
      refine r_iload_n (k := 0) rfl rfl dX10_behind_69 ?_
      refine r_iret rfl (hM _ _ _) dX10_behind_70 ?_
      exact H
  · have H := H.2 h2
    refine r_aload_n (k := 1) rfl rfl dX10_behind_50 ?_
    refine r_iload_n (k := 2) rfl rfl dX10_behind_51 ?_
    refine r_callV (g := mX10_manyOf) ckX10 rfl rfl rfl rfl mkX10_manyOf mvX10_manyOf ml_X10_201 ⟨by decide, by decide⟩ rfl (Nat.le_of_ble_eq_true rfl) rfl (ok_i g1 ok_n) dX10_behind_52 (sl_afterI (sl_RI.mono (fun y6 M5 gy6 hM5 H => ?_) H))
    refine r_iret rfl gy6 dX10_behind_55 ?_
    exact H
theorem eX10_behind {l : Launch} {M : sl_M} {Q : sl_R} {x1 x2 : Int} (k : sl_At l mX10_behind 0 [(0, vR 1 0), (1, vI x1), (2, vI x2)] [] M Q) : sl_Runs l mX10_behind [vR 1 0, vI x1, vI x2] M Q := sl_Runs.of (ls := [(0, vR 1 0), (1, vI x1), (2, vI x2)]) rfl rfl (fun _ => rfl) (fun _ => Nat.le_of_ble_eq_true rfl) rfl (k)
theorem dX10_firstOf_0 : decode cX10_firstOf 0 = .ok (.iload_n 2, 1) := by decide +kernel
theorem dX10_firstOf_1 : decode cX10_firstOf 1 = .ok (.iconst 1, 1) := by decide +kernel
theorem dX10_firstOf_2 : decode cX10_firstOf 2 = .ok (.iadd, 1) := by decide +kernel
theorem dX10_firstOf_3 : decode cX10_firstOf 3 = .ok (.istore 4, 2) := by decide +kernel
theorem dX10_firstOf_5 : decode cX10_firstOf 5 = .ok (.iload 4, 2) := by decide +kernel
theorem dX10_firstOf_7 : decode cX10_firstOf 7 = .ok (.aload_n 0, 1) := by decide +kernel
theorem dX10_firstOf_8 : decode cX10_firstOf 8 = .ok (.getfield 40, 3) := by decide +kernel
theorem dX10_firstOf_11 : decode cX10_firstOf 11 = .ok (.iload_n 1, 1) := by decide +kernel
theorem dX10_firstOf_12 : decode cX10_firstOf 12 = .ok (.iload_n 2, 1) := by decide +kernel
theorem dX10_firstOf_13 : decode cX10_firstOf 13 = .ok (.iadd, 1) := by decide +kernel
theorem dX10_firstOf_14 : decode cX10_firstOf 14 = .ok (.iaload, 1) := by decide +kernel
theorem dX10_firstOf_15 : decode cX10_firstOf 15 = .ok (.if_icmp .ge 38, 3) := by decide +kernel
theorem dX10_firstOf_18 : decode cX10_firstOf 18 = .ok (.aload_n 0, 1) := by decide +kernel
theorem dX10_firstOf_19 : decode cX10_firstOf 19 = .ok (.getfield 34, 3) := by decide +kernel
theorem dX10_firstOf_22 : decode cX10_firstOf 22 = .ok (.iload_n 1, 1) := by decide +kernel
theorem dX10_firstOf_23 : decode cX10_firstOf 23 = .ok (.iload 4, 2) := by decide +kernel
theorem dX10_firstOf_25 : decode cX10_firstOf 25 = .ok (.iadd, 1) := by decide +kernel
theorem dX10_firstOf_26 : decode cX10_firstOf 26 = .ok (.iaload, 1) := by decide +kernel
theorem dX10_firstOf_27 : decode cX10_firstOf 27 = .ok (.iload_n 2, 1) := by decide +kernel
theorem dX10_firstOf_28 : decode cX10_firstOf 28 = .ok (.if_icmp .ne 19, 3) := by decide +kernel
theorem dX10_firstOf_31 : decode cX10_firstOf 31 = .ok (.aload_n 0, 1) := by decide +kernel
theorem dX10_firstOf_32 : decode cX10_firstOf 32 = .ok (.getfield 37, 3) := by decide +kernel
theorem dX10_firstOf_35 : decode cX10_firstOf 35 = .ok (.iload_n 1, 1) := by decide +kernel
theorem dX10_firstOf_36 : decode cX10_firstOf 36 = .ok (.iload 4, 2) := by decide +kernel
theorem dX10_firstOf_38 : decode cX10_firstOf 38 = .ok (.iadd, 1) := by decide +kernel
theorem dX10_firstOf_39 : decode cX10_firstOf 39 = .ok (.iaload, 1) := by decide +kernel
theorem dX10_firstOf_40 : decode cX10_firstOf 40 = .ok (.iload_n 3, 1) := by decide +kernel
theorem dX10_firstOf_41 : decode cX10_firstOf 41 = .ok (.if_icmp .ne 6, 3) := by decide +kernel
theorem dX10_firstOf_44 : decode cX10_firstOf 44 = .ok (.iload 4, 2) := by decide +kernel
theorem dX10_firstOf_46 : decode cX10_firstOf 46 = .ok (.ireturn, 1) := by decide +kernel
theorem dX10_firstOf_47 : decode cX10_firstOf 47 = .ok (.iinc 4 1, 3) := by decide +kernel
theorem dX10_firstOf_50 : decode cX10_firstOf 50 = .ok (.goto (-45), 3) := by decide +kernel
theorem dX10_firstOf_53 : decode cX10_firstOf 53 = .ok (.iconst (-1), 1) := by decide +kernel
theorem dX10_firstOf_54 : decode cX10_firstOf 54 = .ok (.ireturn, 1) := by decide +kernel
set_option maxHeartbeats 4000000 in
set_option maxRecDepth 10000 in
theorem vX10_firstOf_0 {l : Launch} {M : sl_M} {Q : sl_R} {x1 x2 x3 : Int} (H : sl_RM M → sl_rg x1 → sl_rg x2 → sl_rg x3 → (sl_rg (x2 + 1)) ∧ (∀ y2 : Int, y2 = x2 + 1 → sl_At l mX10_firstOf 5 [(0, vR 1 0), (1, vI x1), (2, vI x2), (3, vI x3), (4, vI y2)] [] M Q)) : sl_At l mX10_firstOf 0 [(0, vR 1 0), (1, vI x1), (2, vI x2), (3, vI x3)] [] M Q := by
  refine sl_At.in (fun hM hls => ?_)
  have g1 : sl_rg x1 := hls _ (List.mem_of_getElem? (i := 1) rfl)
  have g2 : sl_rg x2 := hls _ (List.mem_of_getElem? (i := 2) rfl)
  have g3 : sl_rg x3 := hls _ (List.mem_of_getElem? (i := 3) rfl)
  have H := H hM g1 g2 g3
  refine r_iload_n (k := 2) rfl rfl dX10_firstOf_0 ?_
  refine r_iconst dX10_firstOf_1 ?_
  refine r_iadd dX10_firstOf_2 ?_
  obtain ⟨c1, H⟩ := H
  refine r_nm (fun y2 fy2 => ?_)
  have H := H y2 fy2
  have gy2 : sl_rg y2 := by rw [fy2]; exact c1
  refine r_istore (ls' := [(4, vI y2), (0, vR 1 0), (1, vI x1), (2, vI x2), (3, vI x3)]) gy2 (by decide) rfl dX10_firstOf_3 ?_
  exact sl_At.sub [1, 2, 3, 4, 0] rfl H
set_option maxHeartbeats 4000000 in
set_option maxRecDepth 10000 in
theorem vX10_firstOf_5 {l : Launch} {M : sl_M} {Q : sl_R} {x1 x2 x3 x4 : Int} (H : sl_RM M → sl_rg x1 → sl_rg x2 → sl_rg x3 → sl_rg x4 → (0 ≤ x1 + x2 ∧ x1 + x2 < 82) ∧ ((M 1 20 (x1 + x2) ≤ x4) → Q (some (vI (-1))) M) ∧ ((¬ (M 1 20 (x1 + x2) ≤ x4)) → (0 ≤ x1 + x4 ∧ x1 + x4 < 82) ∧ ((M 1 18 (x1 + x4) ≠ x2) → (sl_rg (x4 + 1)) ∧ sl_At l mX10_firstOf 5 [(0, vR 1 0), (1, vI x1), (2, vI x2), (3, vI x3), (4, vI (x4 + 1))] [] M Q) ∧ ((¬ (M 1 18 (x1 + x4) ≠ x2)) → ((M 1 19 (x1 + x4) ≠ x3) → (sl_rg (x4 + 1)) ∧ sl_At l mX10_firstOf 5 [(0, vR 1 0), (1, vI x1), (2, vI x2), (3, vI x3), (4, vI (x4 + 1))] [] M Q) ∧ ((¬ (M 1 19 (x1 + x4) ≠ x3)) → Q (some (vI x4)) M)))) : sl_At l mX10_firstOf 5 [(0, vR 1 0), (1, vI x1), (2, vI x2), (3, vI x3), (4, vI x4)] [] M Q := by
  refine sl_At.in (fun hM hls => ?_)
  have g1 : sl_rg x1 := hls _ (List.mem_of_getElem? (i := 1) rfl)
  have g2 : sl_rg x2 := hls _ (List.mem_of_getElem? (i := 2) rfl)
  have g3 : sl_rg x3 := hls _ (List.mem_of_getElem? (i := 3) rfl)
  have g4 : sl_rg x4 := hls _ (List.mem_of_getElem? (i := 4) rfl)
  have H := H hM g1 g2 g3 g4
  refine r_iload (k := 4) rfl dX10_firstOf_5 ?_
  refine r_aload_n (k := 0) rfl rfl dX10_firstOf_7 ?_
  refine r_getR (k := 19) (o' := 1) (i' := 20) ckX10 rfl rfl (by decide) rfl rfl rfl fl_X10_40 dX10_firstOf_8 ?_
  refine r_iload_n (k := 1) rfl rfl dX10_firstOf_11 ?_
  refine r_iload_n (k := 2) rfl rfl dX10_firstOf_12 ?_
  refine r_iadd dX10_firstOf_13 ?_
  obtain ⟨c1, H⟩ := H
  refine r_iald rfl rfl rfl c1 dX10_firstOf_14 ?_
  refine r_icmp_ge (tgt := 53) g4 (hM _ _ _) dX10_firstOf_15 (by decide) (fun h2 => ?_) (fun h2 => ?_)
  · have H := H.1 h2
    refine r_iconst dX10_firstOf_53 ?_
    refine r_iret rfl ⟨by decide, by decide⟩ dX10_firstOf_54 ?_
    exact H
  · have H := H.2 h2
    refine r_aload_n (k := 0) rfl rfl dX10_firstOf_18 ?_
    refine r_getR (k := 17) (o' := 1) (i' := 18) ckX10 rfl rfl (by decide) rfl rfl rfl fl_X10_34 dX10_firstOf_19 ?_
    refine r_iload_n (k := 1) rfl rfl dX10_firstOf_22 ?_
    refine r_iload (k := 4) rfl dX10_firstOf_23 ?_
    refine r_iadd dX10_firstOf_25 ?_
    obtain ⟨c3, H⟩ := H
    refine r_iald rfl rfl rfl c3 dX10_firstOf_26 ?_
    refine r_iload_n (k := 2) rfl rfl dX10_firstOf_27 ?_
    refine r_icmp_ne (tgt := 47) (hM _ _ _) g2 dX10_firstOf_28 (by decide) (fun h4 => ?_) (fun h4 => ?_)
    · have H := H.1 h4
      obtain ⟨c5, H⟩ := H
      refine r_iinc (k := 4) (ls' := [(4, vI (x4 + 1)), (0, vR 1 0), (1, vI x1), (2, vI x2), (3, vI x3)]) rfl c5 (by decide) rfl dX10_firstOf_47 ?_
      refine r_goto (tgt := 5) dX10_firstOf_50 (by decide) ?_
      exact sl_At.sub [1, 2, 3, 4, 0] rfl H
    · have H := H.2 h4
      refine r_aload_n (k := 0) rfl rfl dX10_firstOf_31 ?_
      refine r_getR (k := 18) (o' := 1) (i' := 19) ckX10 rfl rfl (by decide) rfl rfl rfl fl_X10_37 dX10_firstOf_32 ?_
      refine r_iload_n (k := 1) rfl rfl dX10_firstOf_35 ?_
      refine r_iload (k := 4) rfl dX10_firstOf_36 ?_
      refine r_iadd dX10_firstOf_38 ?_
      refine r_iald rfl rfl rfl c3 dX10_firstOf_39 ?_
      refine r_iload_n (k := 3) rfl rfl dX10_firstOf_40 ?_
      refine r_icmp_ne (tgt := 47) (hM _ _ _) g3 dX10_firstOf_41 (by decide) (fun h6 => ?_) (fun h6 => ?_)
      · have H := H.1 h6
        obtain ⟨c7, H⟩ := H
        refine r_iinc (k := 4) (ls' := [(4, vI (x4 + 1)), (0, vR 1 0), (1, vI x1), (2, vI x2), (3, vI x3)]) rfl c7 (by decide) rfl dX10_firstOf_47 ?_
        refine r_goto (tgt := 5) dX10_firstOf_50 (by decide) ?_
        exact sl_At.sub [1, 2, 3, 4, 0] rfl H
      · have H := H.2 h6
        refine r_iload (k := 4) rfl dX10_firstOf_44 ?_
        refine r_iret rfl g4 dX10_firstOf_46 ?_
        exact H
theorem eX10_firstOf {l : Launch} {M : sl_M} {Q : sl_R} {x1 x2 x3 : Int} (k : sl_At l mX10_firstOf 0 [(0, vR 1 0), (1, vI x1), (2, vI x2), (3, vI x3)] [] M Q) : sl_Runs l mX10_firstOf [vR 1 0, vI x1, vI x2, vI x3] M Q := sl_Runs.of (ls := [(0, vR 1 0), (1, vI x1), (2, vI x2), (3, vI x3)]) rfl rfl (fun _ => rfl) (fun _ => Nat.le_of_ble_eq_true rfl) rfl (k)
theorem dX10_way_0 : decode cX10_way 0 = .ok (.iconst 4, 1) := by decide +kernel
theorem dX10_way_1 : decode cX10_way 1 = .ok (.iload_n 1, 1) := by decide +kernel
theorem dX10_way_2 : decode cX10_way 2 = .ok (.iload_n 2, 1) := by decide +kernel
theorem dX10_way_3 : decode cX10_way 3 = .ok (.iadd, 1) := by decide +kernel
theorem dX10_way_4 : decode cX10_way 4 = .ok (.imul, 1) := by decide +kernel
theorem dX10_way_5 : decode cX10_way 5 = .ok (.aload_n 0, 1) := by decide +kernel
theorem dX10_way_6 : decode cX10_way 6 = .ok (.getfield 55, 3) := by decide +kernel
theorem dX10_way_9 : decode cX10_way 9 = .ok (.iload_n 1, 1) := by decide +kernel
theorem dX10_way_10 : decode cX10_way 10 = .ok (.iload_n 2, 1) := by decide +kernel
theorem dX10_way_11 : decode cX10_way 11 = .ok (.iadd, 1) := by decide +kernel
theorem dX10_way_12 : decode cX10_way 12 = .ok (.iaload, 1) := by decide +kernel
theorem dX10_way_13 : decode cX10_way 13 = .ok (.iadd, 1) := by decide +kernel
theorem dX10_way_14 : decode cX10_way 14 = .ok (.istore 7, 2) := by decide +kernel
theorem dX10_way_16 : decode cX10_way 16 = .ok (.aload_n 0, 1) := by decide +kernel
theorem dX10_way_17 : decode cX10_way 17 = .ok (.getfield 58, 3) := by decide +kernel
theorem dX10_way_20 : decode cX10_way 20 = .ok (.iload 7, 2) := by decide +kernel
theorem dX10_way_22 : decode cX10_way 22 = .ok (.iload_n 3, 1) := by decide +kernel
theorem dX10_way_23 : decode cX10_way 23 = .ok (.iastore, 1) := by decide +kernel
theorem dX10_way_24 : decode cX10_way 24 = .ok (.aload_n 0, 1) := by decide +kernel
theorem dX10_way_25 : decode cX10_way 25 = .ok (.getfield 61, 3) := by decide +kernel
theorem dX10_way_28 : decode cX10_way 28 = .ok (.iload 7, 2) := by decide +kernel
theorem dX10_way_30 : decode cX10_way 30 = .ok (.iload 4, 2) := by decide +kernel
theorem dX10_way_32 : decode cX10_way 32 = .ok (.iastore, 1) := by decide +kernel
theorem dX10_way_33 : decode cX10_way 33 = .ok (.aload_n 0, 1) := by decide +kernel
theorem dX10_way_34 : decode cX10_way 34 = .ok (.getfield 64, 3) := by decide +kernel
theorem dX10_way_37 : decode cX10_way 37 = .ok (.iload 7, 2) := by decide +kernel
theorem dX10_way_39 : decode cX10_way 39 = .ok (.iload 5, 2) := by decide +kernel
theorem dX10_way_41 : decode cX10_way 41 = .ok (.iastore, 1) := by decide +kernel
theorem dX10_way_42 : decode cX10_way 42 = .ok (.aload_n 0, 1) := by decide +kernel
theorem dX10_way_43 : decode cX10_way 43 = .ok (.getfield 67, 3) := by decide +kernel
theorem dX10_way_46 : decode cX10_way 46 = .ok (.iload 7, 2) := by decide +kernel
theorem dX10_way_48 : decode cX10_way 48 = .ok (.iload 6, 2) := by decide +kernel
theorem dX10_way_50 : decode cX10_way 50 = .ok (.iastore, 1) := by decide +kernel
theorem dX10_way_51 : decode cX10_way 51 = .ok (.aload_n 0, 1) := by decide +kernel
theorem dX10_way_52 : decode cX10_way 52 = .ok (.getfield 55, 3) := by decide +kernel
theorem dX10_way_55 : decode cX10_way 55 = .ok (.iload_n 1, 1) := by decide +kernel
theorem dX10_way_56 : decode cX10_way 56 = .ok (.iload_n 2, 1) := by decide +kernel
theorem dX10_way_57 : decode cX10_way 57 = .ok (.iadd, 1) := by decide +kernel
theorem dX10_way_58 : decode cX10_way 58 = .ok (.dup2, 1) := by decide +kernel
theorem dX10_way_59 : decode cX10_way 59 = .ok (.iaload, 1) := by decide +kernel
theorem dX10_way_60 : decode cX10_way 60 = .ok (.iconst 1, 1) := by decide +kernel
theorem dX10_way_61 : decode cX10_way 61 = .ok (.iadd, 1) := by decide +kernel
theorem dX10_way_62 : decode cX10_way 62 = .ok (.iastore, 1) := by decide +kernel
theorem dX10_way_63 : decode cX10_way 63 = .ok (.return_, 1) := by decide +kernel
set_option maxHeartbeats 4000000 in
set_option maxRecDepth 10000 in
theorem vX10_way_0 {l : Launch} {M : sl_M} {Q : sl_R} {x1 x2 x3 x4 x5 x6 : Int} (H : sl_RM M → sl_rg x1 → sl_rg x2 → sl_rg x3 → sl_rg x4 → sl_rg x5 → sl_rg x6 → (0 ≤ x1 + x2 ∧ x1 + x2 < 82) ∧ (sl_rg ((4 * (x1 + x2)) + (M 1 25 (x1 + x2)))) ∧ (∀ y3 : Int, y3 = (4 * (x1 + x2)) + (M 1 25 (x1 + x2)) → (0 ≤ y3 ∧ y3 < 328) ∧ (∀ M5, M5 = sl_wr M 1 26 y3 x3 → (∀ M6, M6 = sl_wr M5 1 27 y3 x4 → (∀ M7, M7 = sl_wr M6 1 28 y3 x5 → (∀ M8, M8 = sl_wr M7 1 29 y3 x6 → (sl_rg (M8 1 25 (x1 + x2) + 1)) ∧ (∀ M10, M10 = sl_wr M8 1 25 (x1 + x2) (M8 1 25 (x1 + x2) + 1) → Q none M10))))))) : sl_At l mX10_way 0 [(0, vR 1 0), (1, vI x1), (2, vI x2), (3, vI x3), (4, vI x4), (5, vI x5), (6, vI x6)] [] M Q := by
  refine sl_At.in (fun hM hls => ?_)
  have g1 : sl_rg x1 := hls _ (List.mem_of_getElem? (i := 1) rfl)
  have g2 : sl_rg x2 := hls _ (List.mem_of_getElem? (i := 2) rfl)
  have g3 : sl_rg x3 := hls _ (List.mem_of_getElem? (i := 3) rfl)
  have g4 : sl_rg x4 := hls _ (List.mem_of_getElem? (i := 4) rfl)
  have g5 : sl_rg x5 := hls _ (List.mem_of_getElem? (i := 5) rfl)
  have g6 : sl_rg x6 := hls _ (List.mem_of_getElem? (i := 6) rfl)
  have H := H hM g1 g2 g3 g4 g5 g6
  refine r_iconst dX10_way_0 ?_
  refine r_iload_n (k := 1) rfl rfl dX10_way_1 ?_
  refine r_iload_n (k := 2) rfl rfl dX10_way_2 ?_
  refine r_iadd dX10_way_3 ?_
  refine r_imul dX10_way_4 ?_
  refine r_aload_n (k := 0) rfl rfl dX10_way_5 ?_
  refine r_getR (k := 24) (o' := 1) (i' := 25) ckX10 rfl rfl (by decide) rfl rfl rfl fl_X10_55 dX10_way_6 ?_
  refine r_iload_n (k := 1) rfl rfl dX10_way_9 ?_
  refine r_iload_n (k := 2) rfl rfl dX10_way_10 ?_
  refine r_iadd dX10_way_11 ?_
  obtain ⟨c1, H⟩ := H
  refine r_iald rfl rfl rfl c1 dX10_way_12 ?_
  refine r_iadd dX10_way_13 ?_
  obtain ⟨c2, H⟩ := H
  refine r_nm (fun y3 fy3 => ?_)
  have H := H y3 fy3
  have gy3 : sl_rg y3 := by rw [fy3]; exact c2
  refine r_istore (ls' := [(7, vI y3), (0, vR 1 0), (1, vI x1), (2, vI x2), (3, vI x3), (4, vI x4), (5, vI x5), (6, vI x6)]) gy3 (by decide) rfl dX10_way_14 ?_
  refine r_aload_n (k := 1) rfl rfl dX10_way_16 ?_
  refine r_getR (k := 25) (o' := 1) (i' := 26) ckX10 rfl rfl (by decide) rfl rfl rfl fl_X10_58 dX10_way_17 ?_
  refine r_iload (k := 0) rfl dX10_way_20 ?_
  refine r_iload_n (k := 4) rfl rfl dX10_way_22 ?_
  obtain ⟨c4, H⟩ := H
  refine r_iast rfl rfl rfl c4 g3 dX10_way_23 ?_
  refine r_mm (fun M5 e5 => ?_)
  have H := H M5 e5
  have hM5 : sl_RM M5 := by rw [e5]; exact sl_wr_RM hM g3
  refine r_aload_n (k := 1) rfl rfl dX10_way_24 ?_
  refine r_getR (k := 26) (o' := 1) (i' := 27) ckX10 rfl rfl (by decide) rfl rfl rfl fl_X10_61 dX10_way_25 ?_
  refine r_iload (k := 0) rfl dX10_way_28 ?_
  refine r_iload (k := 5) rfl dX10_way_30 ?_
  refine r_iast rfl rfl rfl c4 g4 dX10_way_32 ?_
  refine r_mm (fun M6 e6 => ?_)
  have H := H M6 e6
  have hM6 : sl_RM M6 := by rw [e6]; exact sl_wr_RM hM5 g4
  refine r_aload_n (k := 1) rfl rfl dX10_way_33 ?_
  refine r_getR (k := 27) (o' := 1) (i' := 28) ckX10 rfl rfl (by decide) rfl rfl rfl fl_X10_64 dX10_way_34 ?_
  refine r_iload (k := 0) rfl dX10_way_37 ?_
  refine r_iload (k := 6) rfl dX10_way_39 ?_
  refine r_iast rfl rfl rfl c4 g5 dX10_way_41 ?_
  refine r_mm (fun M7 e7 => ?_)
  have H := H M7 e7
  have hM7 : sl_RM M7 := by rw [e7]; exact sl_wr_RM hM6 g5
  refine r_aload_n (k := 1) rfl rfl dX10_way_42 ?_
  refine r_getR (k := 28) (o' := 1) (i' := 29) ckX10 rfl rfl (by decide) rfl rfl rfl fl_X10_67 dX10_way_43 ?_
  refine r_iload (k := 0) rfl dX10_way_46 ?_
  refine r_iload (k := 7) rfl dX10_way_48 ?_
  refine r_iast rfl rfl rfl c4 g6 dX10_way_50 ?_
  refine r_mm (fun M8 e8 => ?_)
  have H := H M8 e8
  have hM8 : sl_RM M8 := by rw [e8]; exact sl_wr_RM hM7 g6
  refine r_aload_n (k := 1) rfl rfl dX10_way_51 ?_
  refine r_getR (k := 24) (o' := 1) (i' := 25) ckX10 rfl rfl (by decide) rfl rfl rfl fl_X10_55 dX10_way_52 ?_
  refine r_iload_n (k := 2) rfl rfl dX10_way_55 ?_
  refine r_iload_n (k := 3) rfl rfl dX10_way_56 ?_
  refine r_iadd dX10_way_57 ?_
  refine r_dup2 rfl rfl dX10_way_58 ?_
  refine r_iald rfl rfl rfl c1 dX10_way_59 ?_
  refine r_iconst dX10_way_60 ?_
  refine r_iadd dX10_way_61 ?_
  obtain ⟨c9, H⟩ := H
  refine r_iast rfl rfl rfl c1 c9 dX10_way_62 ?_
  refine r_mm (fun M10 e10 => ?_)
  have H := H M10 e10
  have hM10 : sl_RM M10 := by rw [e10]; exact sl_wr_RM hM8 c9
  refine r_vret rfl dX10_way_63 ?_
  exact H
theorem eX10_way {l : Launch} {M : sl_M} {Q : sl_R} {x1 x2 x3 x4 x5 x6 : Int} (k : sl_At l mX10_way 0 [(0, vR 1 0), (1, vI x1), (2, vI x2), (3, vI x3), (4, vI x4), (5, vI x5), (6, vI x6)] [] M Q) : sl_Runs l mX10_way [vR 1 0, vI x1, vI x2, vI x3, vI x4, vI x5, vI x6] M Q := sl_Runs.of (ls := [(0, vR 1 0), (1, vI x1), (2, vI x2), (3, vI x3), (4, vI x4), (5, vI x5), (6, vI x6)]) rfl rfl (fun _ => rfl) (fun _ => Nat.le_of_ble_eq_true rfl) rfl (k)
theorem dX10_leaving_0 : decode cX10_leaving 0 = .ok (.aload_n 0, 1) := by decide +kernel
theorem dX10_leaving_1 : decode cX10_leaving 1 = .ok (.getfield 49, 3) := by decide +kernel
theorem dX10_leaving_4 : decode cX10_leaving 4 = .ok (.iload_n 1, 1) := by decide +kernel
theorem dX10_leaving_5 : decode cX10_leaving 5 = .ok (.iload_n 2, 1) := by decide +kernel
theorem dX10_leaving_6 : decode cX10_leaving 6 = .ok (.iadd, 1) := by decide +kernel
theorem dX10_leaving_7 : decode cX10_leaving 7 = .ok (.iaload, 1) := by decide +kernel
theorem dX10_leaving_8 : decode cX10_leaving 8 = .ok (.istore 5, 2) := by decide +kernel
theorem dX10_leaving_10 : decode cX10_leaving 10 = .ok (.iload_n 3, 1) := by decide +kernel
theorem dX10_leaving_11 : decode cX10_leaving 11 = .ok (.lookupswitch 89 #[(2, 33), (4, 54), (8, 70)], 33) := by decide +kernel
theorem dX10_leaving_44 : decode cX10_leaving 44 = .ok (.aload_n 0, 1) := by decide +kernel
theorem dX10_leaving_45 : decode cX10_leaving 45 = .ok (.iload_n 1, 1) := by decide +kernel
theorem dX10_leaving_46 : decode cX10_leaving 46 = .ok (.iload_n 2, 1) := by decide +kernel
theorem dX10_leaving_47 : decode cX10_leaving 47 = .ok (.aload_n 0, 1) := by decide +kernel
theorem dX10_leaving_48 : decode cX10_leaving 48 = .ok (.iload_n 1, 1) := by decide +kernel
theorem dX10_leaving_49 : decode cX10_leaving 49 = .ok (.iload 5, 2) := by decide +kernel
theorem dX10_leaving_51 : decode cX10_leaving 51 = .ok (.invokevirtual 207, 3) := by decide +kernel
theorem dX10_leaving_54 : decode cX10_leaving 54 = .ok (.iload 4, 2) := by decide +kernel
theorem dX10_leaving_56 : decode cX10_leaving 56 = .ok (.iconst 2, 1) := by decide +kernel
theorem dX10_leaving_57 : decode cX10_leaving 57 = .ok (.iload 5, 2) := by decide +kernel
theorem dX10_leaving_59 : decode cX10_leaving 59 = .ok (.invokevirtual 211, 3) := by decide +kernel
theorem dX10_leaving_62 : decode cX10_leaving 62 = .ok (.goto 54, 3) := by decide +kernel
theorem dX10_leaving_65 : decode cX10_leaving 65 = .ok (.aload_n 0, 1) := by decide +kernel
theorem dX10_leaving_66 : decode cX10_leaving 66 = .ok (.iload_n 1, 1) := by decide +kernel
theorem dX10_leaving_67 : decode cX10_leaving 67 = .ok (.iload_n 2, 1) := by decide +kernel
theorem dX10_leaving_68 : decode cX10_leaving 68 = .ok (.iload 5, 2) := by decide +kernel
theorem dX10_leaving_70 : decode cX10_leaving 70 = .ok (.iload 4, 2) := by decide +kernel
theorem dX10_leaving_72 : decode cX10_leaving 72 = .ok (.iconst 4, 1) := by decide +kernel
theorem dX10_leaving_73 : decode cX10_leaving 73 = .ok (.iload 5, 2) := by decide +kernel
theorem dX10_leaving_75 : decode cX10_leaving 75 = .ok (.invokevirtual 211, 3) := by decide +kernel
theorem dX10_leaving_78 : decode cX10_leaving 78 = .ok (.goto 38, 3) := by decide +kernel
theorem dX10_leaving_81 : decode cX10_leaving 81 = .ok (.aload_n 0, 1) := by decide +kernel
theorem dX10_leaving_82 : decode cX10_leaving 82 = .ok (.iload_n 1, 1) := by decide +kernel
theorem dX10_leaving_83 : decode cX10_leaving 83 = .ok (.iload_n 2, 1) := by decide +kernel
theorem dX10_leaving_84 : decode cX10_leaving 84 = .ok (.aload_n 0, 1) := by decide +kernel
theorem dX10_leaving_85 : decode cX10_leaving 85 = .ok (.iload_n 1, 1) := by decide +kernel
theorem dX10_leaving_86 : decode cX10_leaving 86 = .ok (.invokevirtual 201, 3) := by decide +kernel
theorem dX10_leaving_89 : decode cX10_leaving 89 = .ok (.iload 4, 2) := by decide +kernel
theorem dX10_leaving_91 : decode cX10_leaving 91 = .ok (.bipush 8, 2) := by decide +kernel
theorem dX10_leaving_93 : decode cX10_leaving 93 = .ok (.iconst (-1), 1) := by decide +kernel
theorem dX10_leaving_94 : decode cX10_leaving 94 = .ok (.invokevirtual 211, 3) := by decide +kernel
theorem dX10_leaving_97 : decode cX10_leaving 97 = .ok (.goto 19, 3) := by decide +kernel
theorem dX10_leaving_100 : decode cX10_leaving 100 = .ok (.aload_n 0, 1) := by decide +kernel
theorem dX10_leaving_101 : decode cX10_leaving 101 = .ok (.iload_n 1, 1) := by decide +kernel
theorem dX10_leaving_102 : decode cX10_leaving 102 = .ok (.iload_n 2, 1) := by decide +kernel
theorem dX10_leaving_103 : decode cX10_leaving 103 = .ok (.aload_n 0, 1) := by decide +kernel
theorem dX10_leaving_104 : decode cX10_leaving 104 = .ok (.iload_n 1, 1) := by decide +kernel
theorem dX10_leaving_105 : decode cX10_leaving 105 = .ok (.iload_n 2, 1) := by decide +kernel
theorem dX10_leaving_106 : decode cX10_leaving 106 = .ok (.invokevirtual 207, 3) := by decide +kernel
theorem dX10_leaving_109 : decode cX10_leaving 109 = .ok (.iload 4, 2) := by decide +kernel
theorem dX10_leaving_111 : decode cX10_leaving 111 = .ok (.iconst 1, 1) := by decide +kernel
theorem dX10_leaving_112 : decode cX10_leaving 112 = .ok (.iconst (-1), 1) := by decide +kernel
theorem dX10_leaving_113 : decode cX10_leaving 113 = .ok (.invokevirtual 211, 3) := by decide +kernel
theorem dX10_leaving_116 : decode cX10_leaving 116 = .ok (.return_, 1) := by decide +kernel
set_option maxHeartbeats 4000000 in
set_option maxRecDepth 10000 in
theorem vX10_leaving_0 {l : Launch} {M : sl_M} {Q : sl_R} {x1 x2 x3 x4 : Int} (H : sl_RM M → sl_rg x1 → sl_rg x2 → sl_rg x3 → sl_rg x4 → (0 ≤ x1 + x2 ∧ x1 + x2 < 82) ∧ ((x3 = 2) → sl_RI l mX10_behind [vR 1 0, vI x1, vI (M 1 23 (x1 + x2))] M (fun y4 M3 => sl_RV l mX10_way [vR 1 0, vI x1, vI x2, vI y4, vI x4, vI 2, vI (M 1 23 (x1 + x2))] M3 (fun M5 => Q none M5))) ∧ ((x3 = 4) → sl_RV l mX10_way [vR 1 0, vI x1, vI x2, vI (M 1 23 (x1 + x2)), vI x4, vI 4, vI (M 1 23 (x1 + x2))] M (fun M7 => Q none M7)) ∧ ((x3 = 8) → sl_RI l mX10_manyOf [vR 1 0, vI x1] M (fun y10 M9 => sl_RV l mX10_way [vR 1 0, vI x1, vI x2, vI y10, vI x4, vI 8, vI (-1)] M9 (fun M11 => Q none M11))) ∧ ((¬ (x3 = 2) ∧ ¬ (x3 = 4) ∧ ¬ (x3 = 8)) → sl_RI l mX10_behind [vR 1 0, vI x1, vI x2] M (fun y13 M12 => sl_RV l mX10_way [vR 1 0, vI x1, vI x2, vI y13, vI x4, vI 1, vI (-1)] M12 (fun M14 => Q none M14)))) : sl_At l mX10_leaving 0 [(0, vR 1 0), (1, vI x1), (2, vI x2), (3, vI x3), (4, vI x4)] [] M Q := by
  refine sl_At.in (fun hM hls => ?_)
  have g1 : sl_rg x1 := hls _ (List.mem_of_getElem? (i := 1) rfl)
  have g2 : sl_rg x2 := hls _ (List.mem_of_getElem? (i := 2) rfl)
  have g3 : sl_rg x3 := hls _ (List.mem_of_getElem? (i := 3) rfl)
  have g4 : sl_rg x4 := hls _ (List.mem_of_getElem? (i := 4) rfl)
  have H := H hM g1 g2 g3 g4
  refine r_aload_n (k := 0) rfl rfl dX10_leaving_0 ?_
  refine r_getR (k := 22) (o' := 1) (i' := 23) ckX10 rfl rfl (by decide) rfl rfl rfl fl_X10_49 dX10_leaving_1 ?_
  refine r_iload_n (k := 1) rfl rfl dX10_leaving_4 ?_
  refine r_iload_n (k := 2) rfl rfl dX10_leaving_5 ?_
  refine r_iadd dX10_leaving_6 ?_
  obtain ⟨c1, H⟩ := H
  refine r_iald rfl rfl rfl c1 dX10_leaving_7 ?_
  refine r_istore (ls' := [(5, vI (M 1 23 (x1 + x2))), (0, vR 1 0), (1, vI x1), (2, vI x2), (3, vI x3), (4, vI x4)]) (hM _ _ _) (by decide) rfl dX10_leaving_8 ?_
  refine r_iload_n (k := 4) rfl rfl dX10_leaving_10 ?_
  by_cases h2 : x3 = 2
  · refine r_ls (tgt := 44) (off := 33) g3 dX10_leaving_11 (by decide) (by rw [h2]; decide +kernel) (by decide) ?_
    have H := H.1 h2
    refine r_aload_n (k := 1) rfl rfl dX10_leaving_44 ?_
    refine r_iload_n (k := 2) rfl rfl dX10_leaving_45 ?_
    refine r_iload_n (k := 3) rfl rfl dX10_leaving_46 ?_
    refine r_aload_n (k := 1) rfl rfl dX10_leaving_47 ?_
    refine r_iload_n (k := 2) rfl rfl dX10_leaving_48 ?_
    refine r_iload (k := 0) rfl dX10_leaving_49 ?_
    refine r_callV (g := mX10_behind) ckX10 rfl rfl rfl rfl mkX10_behind mvX10_behind ml_X10_207 ⟨by decide, by decide⟩ rfl (Nat.le_of_ble_eq_true rfl) rfl (ok_i g1 (ok_i (hM _ _ _) ok_n)) dX10_leaving_51 (sl_afterI (sl_RI.mono (fun y4 M3 gy4 hM3 H => ?_) H))
    refine r_iload (k := 5) rfl dX10_leaving_54 ?_
    refine r_iconst dX10_leaving_56 ?_
    refine r_iload (k := 0) rfl dX10_leaving_57 ?_
    refine r_callV (g := mX10_way) ckX10 rfl rfl rfl rfl mkX10_way mvX10_way ml_X10_211 ⟨by decide, by decide⟩ rfl (Nat.le_of_ble_eq_true rfl) rfl (ok_i g1 (ok_i g2 (ok_i gy4 (ok_i g4 (ok_i ⟨by decide, by decide⟩ (ok_i (hM _ _ _) ok_n)))))) dX10_leaving_59 (sl_afterV (sl_RV.mono (fun M5 hM5 H => ?_) H))
    refine r_goto (tgt := 116) dX10_leaving_62 (by decide) ?_
    refine r_vret rfl dX10_leaving_116 ?_
    exact H
  replace H := H.2
  by_cases h6 : x3 = 4
  · refine r_ls (tgt := 65) (off := 54) g3 dX10_leaving_11 (by decide) (by rw [h6]; decide +kernel) (by decide) ?_
    have H := H.1 h6
    refine r_aload_n (k := 1) rfl rfl dX10_leaving_65 ?_
    refine r_iload_n (k := 2) rfl rfl dX10_leaving_66 ?_
    refine r_iload_n (k := 3) rfl rfl dX10_leaving_67 ?_
    refine r_iload (k := 0) rfl dX10_leaving_68 ?_
    refine r_iload (k := 5) rfl dX10_leaving_70 ?_
    refine r_iconst dX10_leaving_72 ?_
    refine r_iload (k := 0) rfl dX10_leaving_73 ?_
    refine r_callV (g := mX10_way) ckX10 rfl rfl rfl rfl mkX10_way mvX10_way ml_X10_211 ⟨by decide, by decide⟩ rfl (Nat.le_of_ble_eq_true rfl) rfl (ok_i g1 (ok_i g2 (ok_i (hM _ _ _) (ok_i g4 (ok_i ⟨by decide, by decide⟩ (ok_i (hM _ _ _) ok_n)))))) dX10_leaving_75 (sl_afterV (sl_RV.mono (fun M7 hM7 H => ?_) H))
    refine r_goto (tgt := 116) dX10_leaving_78 (by decide) ?_
    refine r_vret rfl dX10_leaving_116 ?_
    exact H
  replace H := H.2
  by_cases h8 : x3 = 8
  · refine r_ls (tgt := 81) (off := 70) g3 dX10_leaving_11 (by decide) (by rw [h8]; decide +kernel) (by decide) ?_
    have H := H.1 h8
    refine r_aload_n (k := 1) rfl rfl dX10_leaving_81 ?_
    refine r_iload_n (k := 2) rfl rfl dX10_leaving_82 ?_
    refine r_iload_n (k := 3) rfl rfl dX10_leaving_83 ?_
    refine r_aload_n (k := 1) rfl rfl dX10_leaving_84 ?_
    refine r_iload_n (k := 2) rfl rfl dX10_leaving_85 ?_
    refine r_callV (g := mX10_manyOf) ckX10 rfl rfl rfl rfl mkX10_manyOf mvX10_manyOf ml_X10_201 ⟨by decide, by decide⟩ rfl (Nat.le_of_ble_eq_true rfl) rfl (ok_i g1 ok_n) dX10_leaving_86 (sl_afterI (sl_RI.mono (fun y10 M9 gy10 hM9 H => ?_) H))
    refine r_iload (k := 5) rfl dX10_leaving_89 ?_
    refine r_bipush dX10_leaving_91 (by decide) ?_
    refine r_iconst dX10_leaving_93 ?_
    refine r_callV (g := mX10_way) ckX10 rfl rfl rfl rfl mkX10_way mvX10_way ml_X10_211 ⟨by decide, by decide⟩ rfl (Nat.le_of_ble_eq_true rfl) rfl (ok_i g1 (ok_i g2 (ok_i gy10 (ok_i g4 (ok_i ⟨by decide, by decide⟩ (ok_i ⟨by decide, by decide⟩ ok_n)))))) dX10_leaving_94 (sl_afterV (sl_RV.mono (fun M11 hM11 H => ?_) H))
    refine r_goto (tgt := 116) dX10_leaving_97 (by decide) ?_
    refine r_vret rfl dX10_leaving_116 ?_
    exact H
  replace H := H.2
  refine r_ls (tgt := 100) (off := 89) g3 dX10_leaving_11 (by decide) ?_ (by decide) ?_
  · show Op.lookupswitch.offset [(2, 33), (4, 54), (8, 70)] _ _ = _
    rw [sl_osw h2, sl_osw h6, sl_osw h8]; rfl
  · have H := H ⟨h2, h6, h8⟩
    refine r_aload_n (k := 1) rfl rfl dX10_leaving_100 ?_
    refine r_iload_n (k := 2) rfl rfl dX10_leaving_101 ?_
    refine r_iload_n (k := 3) rfl rfl dX10_leaving_102 ?_
    refine r_aload_n (k := 1) rfl rfl dX10_leaving_103 ?_
    refine r_iload_n (k := 2) rfl rfl dX10_leaving_104 ?_
    refine r_iload_n (k := 3) rfl rfl dX10_leaving_105 ?_
    refine r_callV (g := mX10_behind) ckX10 rfl rfl rfl rfl mkX10_behind mvX10_behind ml_X10_207 ⟨by decide, by decide⟩ rfl (Nat.le_of_ble_eq_true rfl) rfl (ok_i g1 (ok_i g2 ok_n)) dX10_leaving_106 (sl_afterI (sl_RI.mono (fun y13 M12 gy13 hM12 H => ?_) H))
    refine r_iload (k := 5) rfl dX10_leaving_109 ?_
    refine r_iconst dX10_leaving_111 ?_
    refine r_iconst dX10_leaving_112 ?_
    refine r_callV (g := mX10_way) ckX10 rfl rfl rfl rfl mkX10_way mvX10_way ml_X10_211 ⟨by decide, by decide⟩ rfl (Nat.le_of_ble_eq_true rfl) rfl (ok_i g1 (ok_i g2 (ok_i gy13 (ok_i g4 (ok_i ⟨by decide, by decide⟩ (ok_i ⟨by decide, by decide⟩ ok_n)))))) dX10_leaving_113 (sl_afterV (sl_RV.mono (fun M14 hM14 H => ?_) H))
    refine r_vret rfl dX10_leaving_116 ?_
    exact H
theorem eX10_leaving {l : Launch} {M : sl_M} {Q : sl_R} {x1 x2 x3 x4 : Int} (k : sl_At l mX10_leaving 0 [(0, vR 1 0), (1, vI x1), (2, vI x2), (3, vI x3), (4, vI x4)] [] M Q) : sl_Runs l mX10_leaving [vR 1 0, vI x1, vI x2, vI x3, vI x4] M Q := sl_Runs.of (ls := [(0, vR 1 0), (1, vI x1), (2, vI x2), (3, vI x3), (4, vI x4)]) rfl rfl (fun _ => rfl) (fun _ => Nat.le_of_ble_eq_true rfl) rfl (k)
theorem dX10_callSets_0 : decode cX10_callSets 0 = .ok (.aload_n 0, 1) := by decide +kernel
theorem dX10_callSets_1 : decode cX10_callSets 1 = .ok (.getfield 7, 3) := by decide +kernel
theorem dX10_callSets_4 : decode cX10_callSets 4 = .ok (.sipush 870, 3) := by decide +kernel
theorem dX10_callSets_7 : decode cX10_callSets 7 = .ok (.iload_n 1, 1) := by decide +kernel
theorem dX10_callSets_8 : decode cX10_callSets 8 = .ok (.iadd, 1) := by decide +kernel
theorem dX10_callSets_9 : decode cX10_callSets 9 = .ok (.iaload, 1) := by decide +kernel
theorem dX10_callSets_10 : decode cX10_callSets 10 = .ok (.istore_n 3, 1) := by decide +kernel
theorem dX10_callSets_11 : decode cX10_callSets 11 = .ok (.aload_n 0, 1) := by decide +kernel
theorem dX10_callSets_12 : decode cX10_callSets 12 = .ok (.aload_n 0, 1) := by decide +kernel
theorem dX10_callSets_13 : decode cX10_callSets 13 = .ok (.getfield 7, 3) := by decide +kernel
theorem dX10_callSets_16 : decode cX10_callSets 16 = .ok (.sipush 771, 3) := by decide +kernel
theorem dX10_callSets_19 : decode cX10_callSets 19 = .ok (.iload_n 3, 1) := by decide +kernel
theorem dX10_callSets_20 : decode cX10_callSets 20 = .ok (.iadd, 1) := by decide +kernel
theorem dX10_callSets_21 : decode cX10_callSets 21 = .ok (.iaload, 1) := by decide +kernel
theorem dX10_callSets_22 : decode cX10_callSets 22 = .ok (.invokevirtual 195, 3) := by decide +kernel
theorem dX10_callSets_25 : decode cX10_callSets 25 = .ok (.aload_n 0, 1) := by decide +kernel
theorem dX10_callSets_26 : decode cX10_callSets 26 = .ok (.getfield 7, 3) := by decide +kernel
theorem dX10_callSets_29 : decode cX10_callSets 29 = .ok (.sipush 777, 3) := by decide +kernel
theorem dX10_callSets_32 : decode cX10_callSets 32 = .ok (.iconst 4, 1) := by decide +kernel
theorem dX10_callSets_33 : decode cX10_callSets 33 = .ok (.iload_n 3, 1) := by decide +kernel
theorem dX10_callSets_34 : decode cX10_callSets 34 = .ok (.imul, 1) := by decide +kernel
theorem dX10_callSets_35 : decode cX10_callSets 35 = .ok (.iadd, 1) := by decide +kernel
theorem dX10_callSets_36 : decode cX10_callSets 36 = .ok (.iload_n 2, 1) := by decide +kernel
theorem dX10_callSets_37 : decode cX10_callSets 37 = .ok (.invokestatic 215, 3) := by decide +kernel
theorem dX10_callSets_40 : decode cX10_callSets 40 = .ok (.iadd, 1) := by decide +kernel
theorem dX10_callSets_41 : decode cX10_callSets 41 = .ok (.iaload, 1) := by decide +kernel
theorem dX10_callSets_42 : decode cX10_callSets 42 = .ok (.ior, 1) := by decide +kernel
theorem dX10_callSets_43 : decode cX10_callSets 43 = .ok (.istore 4, 2) := by decide +kernel
theorem dX10_callSets_45 : decode cX10_callSets 45 = .ok (.iconst 0, 1) := by decide +kernel
theorem dX10_callSets_46 : decode cX10_callSets 46 = .ok (.istore 5, 2) := by decide +kernel
theorem dX10_callSets_48 : decode cX10_callSets 48 = .ok (.iconst 0, 1) := by decide +kernel
theorem dX10_callSets_49 : decode cX10_callSets 49 = .ok (.istore 6, 2) := by decide +kernel
theorem dX10_callSets_51 : decode cX10_callSets 51 = .ok (.iload 6, 2) := by decide +kernel
theorem dX10_callSets_53 : decode cX10_callSets 53 = .ok (.aload_n 0, 1) := by decide +kernel
theorem dX10_callSets_54 : decode cX10_callSets 54 = .ok (.getfield 7, 3) := by decide +kernel
theorem dX10_callSets_57 : decode cX10_callSets 57 = .ok (.sipush 774, 3) := by decide +kernel
theorem dX10_callSets_60 : decode cX10_callSets 60 = .ok (.iload_n 3, 1) := by decide +kernel
theorem dX10_callSets_61 : decode cX10_callSets 61 = .ok (.iadd, 1) := by decide +kernel
theorem dX10_callSets_62 : decode cX10_callSets 62 = .ok (.iaload, 1) := by decide +kernel
theorem dX10_callSets_63 : decode cX10_callSets 63 = .ok (.bipush 16, 2) := by decide +kernel
theorem dX10_callSets_65 : decode cX10_callSets 65 = .ok (.irem, 1) := by decide +kernel
theorem dX10_callSets_66 : decode cX10_callSets 66 = .ok (.if_icmp .ge 76, 3) := by decide +kernel
theorem dX10_callSets_69 : decode cX10_callSets 69 = .ok (.aload_n 0, 1) := by decide +kernel
theorem dX10_callSets_70 : decode cX10_callSets 70 = .ok (.getfield 7, 3) := by decide +kernel
theorem dX10_callSets_73 : decode cX10_callSets 73 = .ok (.sipush 774, 3) := by decide +kernel
theorem dX10_callSets_76 : decode cX10_callSets 76 = .ok (.iload_n 3, 1) := by decide +kernel
theorem dX10_callSets_77 : decode cX10_callSets 77 = .ok (.iadd, 1) := by decide +kernel
theorem dX10_callSets_78 : decode cX10_callSets 78 = .ok (.iaload, 1) := by decide +kernel
theorem dX10_callSets_79 : decode cX10_callSets 79 = .ok (.iconst 4, 1) := by decide +kernel
theorem dX10_callSets_80 : decode cX10_callSets 80 = .ok (.iconst 4, 1) := by decide +kernel
theorem dX10_callSets_81 : decode cX10_callSets 81 = .ok (.iload 6, 2) := by decide +kernel
theorem dX10_callSets_83 : decode cX10_callSets 83 = .ok (.imul, 1) := by decide +kernel
theorem dX10_callSets_84 : decode cX10_callSets 84 = .ok (.iadd, 1) := by decide +kernel
theorem dX10_callSets_85 : decode cX10_callSets 85 = .ok (.ishr, 1) := by decide +kernel
theorem dX10_callSets_86 : decode cX10_callSets 86 = .ok (.bipush 15, 2) := by decide +kernel
theorem dX10_callSets_88 : decode cX10_callSets 88 = .ok (.iand, 1) := by decide +kernel
theorem dX10_callSets_89 : decode cX10_callSets 89 = .ok (.istore 7, 2) := by decide +kernel
theorem dX10_callSets_91 : decode cX10_callSets 91 = .ok (.aload_n 0, 1) := by decide +kernel
theorem dX10_callSets_92 : decode cX10_callSets 92 = .ok (.getfield 7, 3) := by decide +kernel
theorem dX10_callSets_95 : decode cX10_callSets 95 = .ok (.sipush 950, 3) := by decide +kernel
theorem dX10_callSets_98 : decode cX10_callSets 98 = .ok (.iload_n 1, 1) := by decide +kernel
theorem dX10_callSets_99 : decode cX10_callSets 99 = .ok (.iadd, 1) := by decide +kernel
theorem dX10_callSets_100 : decode cX10_callSets 100 = .ok (.iaload, 1) := by decide +kernel
theorem dX10_callSets_101 : decode cX10_callSets 101 = .ok (.iconst 4, 1) := by decide +kernel
theorem dX10_callSets_102 : decode cX10_callSets 102 = .ok (.iconst 4, 1) := by decide +kernel
theorem dX10_callSets_103 : decode cX10_callSets 103 = .ok (.iload 6, 2) := by decide +kernel
theorem dX10_callSets_105 : decode cX10_callSets 105 = .ok (.imul, 1) := by decide +kernel
theorem dX10_callSets_106 : decode cX10_callSets 106 = .ok (.iadd, 1) := by decide +kernel
theorem dX10_callSets_107 : decode cX10_callSets 107 = .ok (.ishr, 1) := by decide +kernel
theorem dX10_callSets_108 : decode cX10_callSets 108 = .ok (.bipush 15, 2) := by decide +kernel
theorem dX10_callSets_110 : decode cX10_callSets 110 = .ok (.iand, 1) := by decide +kernel
theorem dX10_callSets_111 : decode cX10_callSets 111 = .ok (.istore 8, 2) := by decide +kernel
theorem dX10_callSets_113 : decode cX10_callSets 113 = .ok (.iload 5, 2) := by decide +kernel
theorem dX10_callSets_115 : decode cX10_callSets 115 = .ok (.iload 4, 2) := by decide +kernel
theorem dX10_callSets_117 : decode cX10_callSets 117 = .ok (.iload 7, 2) := by decide +kernel
theorem dX10_callSets_119 : decode cX10_callSets 119 = .ok (.invokestatic 218, 3) := by decide +kernel
theorem dX10_callSets_122 : decode cX10_callSets 122 = .ok (.ifCond .eq 10, 3) := by decide +kernel
theorem dX10_callSets_125 : decode cX10_callSets 125 = .ok (.iconst 1, 1) := by decide +kernel
theorem dX10_callSets_126 : decode cX10_callSets 126 = .ok (.iload 8, 2) := by decide +kernel
theorem dX10_callSets_128 : decode cX10_callSets 128 = .ok (.ishl, 1) := by decide +kernel
theorem dX10_callSets_129 : decode cX10_callSets 129 = .ok (.goto 4, 3) := by decide +kernel
theorem dX10_callSets_132 : decode cX10_callSets 132 = .ok (.iconst 0, 1) := by decide +kernel
theorem dX10_callSets_133 : decode cX10_callSets 133 = .ok (.ior, 1) := by decide +kernel
theorem dX10_callSets_134 : decode cX10_callSets 134 = .ok (.istore 5, 2) := by decide +kernel
theorem dX10_callSets_136 : decode cX10_callSets 136 = .ok (.iinc 6 1, 3) := by decide +kernel
theorem dX10_callSets_139 : decode cX10_callSets 139 = .ok (.goto (-88), 3) := by decide +kernel
theorem dX10_callSets_142 : decode cX10_callSets 142 = .ok (.iload 5, 2) := by decide +kernel
theorem dX10_callSets_144 : decode cX10_callSets 144 = .ok (.ireturn, 1) := by decide +kernel
set_option maxHeartbeats 4000000 in
set_option maxRecDepth 10000 in
theorem vX10_callSets_0 {l : Launch} {M : sl_M} {Q : sl_R} {x1 x2 : Int} (H : sl_RM M → sl_rg x1 → sl_rg x2 → (0 ≤ 870 + x1 ∧ 870 + x1 < 990) ∧ (0 ≤ 771 + (M 1 1 (870 + x1)) ∧ 771 + (M 1 1 (870 + x1)) < 990) ∧ sl_RI l mX10_listSet [vR 1 0, vI (M 1 1 (771 + (M 1 1 (870 + x1))))] M (fun y4 M3 => (0 ≤ (777 + (4 * (M 1 1 (870 + x1)))) + (sp_place x2) ∧ (777 + (4 * (M 1 1 (870 + x1)))) + (sp_place x2) < 990) ∧ (∀ y6 : Int, y6 = ior y4 (M3 1 1 ((777 + (4 * (M 1 1 (870 + x1)))) + (sp_place x2))) → sl_At l mX10_callSets 51 [(0, vR 1 0), (1, vI x1), (3, vI (M 1 1 (870 + x1))), (4, vI y6), (5, vI 0), (6, vI 0)] [] M3 Q))) : sl_At l mX10_callSets 0 [(0, vR 1 0), (1, vI x1), (2, vI x2)] [] M Q := by
  refine sl_At.in (fun hM hls => ?_)
  have g1 : sl_rg x1 := hls _ (List.mem_of_getElem? (i := 1) rfl)
  have g2 : sl_rg x2 := hls _ (List.mem_of_getElem? (i := 2) rfl)
  have H := H hM g1 g2
  refine r_aload_n (k := 0) rfl rfl dX10_callSets_0 ?_
  refine r_getR (k := 0) (o' := 1) (i' := 1) ckX10 rfl rfl (by decide) rfl rfl rfl fl_X10_7 dX10_callSets_1 ?_
  refine r_sipush dX10_callSets_4 (by decide) ?_
  refine r_iload_n (k := 1) rfl rfl dX10_callSets_7 ?_
  refine r_iadd dX10_callSets_8 ?_
  obtain ⟨c1, H⟩ := H
  refine r_iald rfl rfl rfl c1 dX10_callSets_9 ?_
  refine r_istore_n (ls' := [(3, vI (M 1 1 (870 + x1))), (0, vR 1 0), (1, vI x1), (2, vI x2)]) (hM _ _ _) rfl (by decide) rfl dX10_callSets_10 ?_
  refine r_aload_n (k := 1) rfl rfl dX10_callSets_11 ?_
  refine r_aload_n (k := 1) rfl rfl dX10_callSets_12 ?_
  refine r_getR (k := 0) (o' := 1) (i' := 1) ckX10 rfl rfl (by decide) rfl rfl rfl fl_X10_7 dX10_callSets_13 ?_
  refine r_sipush dX10_callSets_16 (by decide) ?_
  refine r_iload_n (k := 0) rfl rfl dX10_callSets_19 ?_
  refine r_iadd dX10_callSets_20 ?_
  obtain ⟨c2, H⟩ := H
  refine r_iald rfl rfl rfl c2 dX10_callSets_21 ?_
  refine r_callV (g := mX10_listSet) ckX10 rfl rfl rfl rfl mkX10_listSet mvX10_listSet ml_X10_195 ⟨by decide, by decide⟩ rfl (Nat.le_of_ble_eq_true rfl) rfl (ok_i (hM _ _ _) ok_n) dX10_callSets_22 (sl_afterI (sl_RI.mono (fun y4 M3 gy4 hM3 H => ?_) H))
  refine r_aload_n (k := 1) rfl rfl dX10_callSets_25 ?_
  refine r_getR (k := 0) (o' := 1) (i' := 1) ckX10 rfl rfl (by decide) rfl rfl rfl fl_X10_7 dX10_callSets_26 ?_
  refine r_sipush dX10_callSets_29 (by decide) ?_
  refine r_iconst dX10_callSets_32 ?_
  refine r_iload_n (k := 0) rfl rfl dX10_callSets_33 ?_
  refine r_imul dX10_callSets_34 ?_
  refine r_iadd dX10_callSets_35 ?_
  refine r_iload_n (k := 3) rfl rfl dX10_callSets_36 ?_
  refine r_callS (g := mX10_placeOf) rfl mkX10_placeOf msX10_placeOf ml_X10_215 ⟨by decide, by decide⟩ rfl (Nat.le_of_ble_eq_true rfl) rfl (ok_i g2 ok_n) dX10_callSets_37 (sl_afterI (sl_RI.by kX10_placeOf ?_))
  refine r_iadd dX10_callSets_40 ?_
  obtain ⟨c5, H⟩ := H
  refine r_iald rfl rfl rfl c5 dX10_callSets_41 ?_
  refine r_ior dX10_callSets_42 ?_
  refine r_nm (fun y6 fy6 => ?_)
  have H := H y6 fy6
  have gy6 : sl_rg y6 := by rw [fy6]; exact (rg_ior _ _)
  refine r_istore (ls' := [(4, vI y6), (3, vI (M 1 1 (870 + x1))), (0, vR 1 0), (1, vI x1), (2, vI x2)]) gy6 (by decide) rfl dX10_callSets_43 ?_
  refine r_iconst dX10_callSets_45 ?_
  refine r_istore (ls' := [(5, vI 0), (4, vI y6), (3, vI (M 1 1 (870 + x1))), (0, vR 1 0), (1, vI x1), (2, vI x2)]) ⟨by decide, by decide⟩ (by decide) rfl dX10_callSets_46 ?_
  refine r_iconst dX10_callSets_48 ?_
  refine r_istore (ls' := [(6, vI 0), (5, vI 0), (4, vI y6), (3, vI (M 1 1 (870 + x1))), (0, vR 1 0), (1, vI x1), (2, vI x2)]) ⟨by decide, by decide⟩ (by decide) rfl dX10_callSets_49 ?_
  exact sl_At.sub [4, 5, 3, 2, 1, 0] rfl H
set_option maxHeartbeats 4000000 in
set_option maxRecDepth 10000 in
theorem vX10_callSets_51 {l : Launch} {M : sl_M} {Q : sl_R} {x1 x3 x4 x5 x6 : Int} (H : sl_RM M → sl_rg x1 → sl_rg x3 → sl_rg x4 → sl_rg x5 → sl_rg x6 → (0 ≤ 774 + x3 ∧ 774 + x3 < 990) ∧ ((irem (M 1 1 (774 + x3)) 16 ≤ x6) → Q (some (vI x5)) M) ∧ ((¬ (irem (M 1 1 (774 + x3)) 16 ≤ x6)) → (∀ y3 : Int, y3 = iand (ishr (M 1 1 (774 + x3)) (4 + (4 * x6))) 15 → (0 ≤ 950 + x1 ∧ 950 + x1 < 990) ∧ (∀ y5 : Int, y5 = iand (ishr (M 1 1 (950 + x1)) (4 + (4 * x6))) 15 → (∀ y7 : Int, y7 = ior x5 (if ¬ (iand (ishr x4 y3) 1 = 1) then 0 else ishl 1 y5) → (sl_rg (x6 + 1)) ∧ sl_At l mX10_callSets 51 [(0, vR 1 0), (1, vI x1), (3, vI x3), (4, vI x4), (5, vI y7), (6, vI (x6 + 1))] [] M Q))))) : sl_At l mX10_callSets 51 [(0, vR 1 0), (1, vI x1), (3, vI x3), (4, vI x4), (5, vI x5), (6, vI x6)] [] M Q := by
  refine sl_At.in (fun hM hls => ?_)
  have g1 : sl_rg x1 := hls _ (List.mem_of_getElem? (i := 1) rfl)
  have g3 : sl_rg x3 := hls _ (List.mem_of_getElem? (i := 2) rfl)
  have g4 : sl_rg x4 := hls _ (List.mem_of_getElem? (i := 3) rfl)
  have g5 : sl_rg x5 := hls _ (List.mem_of_getElem? (i := 4) rfl)
  have g6 : sl_rg x6 := hls _ (List.mem_of_getElem? (i := 5) rfl)
  have H := H hM g1 g3 g4 g5 g6
  refine r_iload (k := 5) rfl dX10_callSets_51 ?_
  refine r_aload_n (k := 0) rfl rfl dX10_callSets_53 ?_
  refine r_getR (k := 0) (o' := 1) (i' := 1) ckX10 rfl rfl (by decide) rfl rfl rfl fl_X10_7 dX10_callSets_54 ?_
  refine r_sipush dX10_callSets_57 (by decide) ?_
  refine r_iload_n (k := 2) rfl rfl dX10_callSets_60 ?_
  refine r_iadd dX10_callSets_61 ?_
  obtain ⟨c1, H⟩ := H
  refine r_iald rfl rfl rfl c1 dX10_callSets_62 ?_
  refine r_bipush dX10_callSets_63 (by decide) ?_
  refine r_irem ⟨by decide, by decide⟩ (by decide) dX10_callSets_65 ?_
  refine r_icmp_ge (tgt := 142) g6 (rg_irem _ _) dX10_callSets_66 (by decide) (fun h2 => ?_) (fun h2 => ?_)
  · have H := H.1 h2
    refine r_iload (k := 4) rfl dX10_callSets_142 ?_
    refine r_iret rfl g5 dX10_callSets_144 ?_
    exact H
  · have H := H.2 h2
    refine r_aload_n (k := 0) rfl rfl dX10_callSets_69 ?_
    refine r_getR (k := 0) (o' := 1) (i' := 1) ckX10 rfl rfl (by decide) rfl rfl rfl fl_X10_7 dX10_callSets_70 ?_
    refine r_sipush dX10_callSets_73 (by decide) ?_
    refine r_iload_n (k := 2) rfl rfl dX10_callSets_76 ?_
    refine r_iadd dX10_callSets_77 ?_
    refine r_iald rfl rfl rfl c1 dX10_callSets_78 ?_
    refine r_iconst dX10_callSets_79 ?_
    refine r_iconst dX10_callSets_80 ?_
    refine r_iload (k := 5) rfl dX10_callSets_81 ?_
    refine r_imul dX10_callSets_83 ?_
    refine r_iadd dX10_callSets_84 ?_
    refine r_ishr dX10_callSets_85 ?_
    refine r_bipush dX10_callSets_86 (by decide) ?_
    refine r_iand dX10_callSets_88 ?_
    refine r_nm (fun y3 fy3 => ?_)
    have H := H y3 fy3
    have gy3 : sl_rg y3 := by rw [fy3]; exact (rg_iand _ _)
    refine r_istore (ls' := [(7, vI y3), (0, vR 1 0), (1, vI x1), (3, vI x3), (4, vI x4), (5, vI x5), (6, vI x6)]) gy3 (by decide) rfl dX10_callSets_89 ?_
    refine r_aload_n (k := 1) rfl rfl dX10_callSets_91 ?_
    refine r_getR (k := 0) (o' := 1) (i' := 1) ckX10 rfl rfl (by decide) rfl rfl rfl fl_X10_7 dX10_callSets_92 ?_
    refine r_sipush dX10_callSets_95 (by decide) ?_
    refine r_iload_n (k := 2) rfl rfl dX10_callSets_98 ?_
    refine r_iadd dX10_callSets_99 ?_
    obtain ⟨c4, H⟩ := H
    refine r_iald rfl rfl rfl c4 dX10_callSets_100 ?_
    refine r_iconst dX10_callSets_101 ?_
    refine r_iconst dX10_callSets_102 ?_
    refine r_iload (k := 6) rfl dX10_callSets_103 ?_
    refine r_imul dX10_callSets_105 ?_
    refine r_iadd dX10_callSets_106 ?_
    refine r_ishr dX10_callSets_107 ?_
    refine r_bipush dX10_callSets_108 (by decide) ?_
    refine r_iand dX10_callSets_110 ?_
    refine r_nm (fun y5 fy5 => ?_)
    have H := H y5 fy5
    have gy5 : sl_rg y5 := by rw [fy5]; exact (rg_iand _ _)
    refine r_istore (ls' := [(8, vI y5), (7, vI y3), (0, vR 1 0), (1, vI x1), (3, vI x3), (4, vI x4), (5, vI x5), (6, vI x6)]) gy5 (by decide) rfl dX10_callSets_111 ?_
    refine r_iload (k := 6) rfl dX10_callSets_113 ?_
    refine r_iload (k := 5) rfl dX10_callSets_115 ?_
    refine r_iload (k := 1) rfl dX10_callSets_117 ?_
    refine r_callS (g := mX10_has) rfl mkX10_has msX10_has ml_X10_218 ⟨by decide, by decide⟩ rfl (Nat.le_of_ble_eq_true rfl) rfl (ok_i g4 (ok_i gy3 ok_n)) dX10_callSets_119 (sl_afterI (sl_RI.by kX10_has ?_))
    have J : sl_At l mX10_callSets 133 [(8, vI y5), (7, vI y3), (0, vR 1 0), (1, vI x1), (3, vI x3), (4, vI x4), (5, vI x5), (6, vI x6)] [vI (if ¬ (iand (ishr x4 y3) 1 = 1) then 0 else ishl 1 y5), vI x5] M Q := by
      refine r_ior dX10_callSets_133 ?_
      refine r_nm (fun y7 fy7 => ?_)
      have H := H y7 fy7
      have gy7 : sl_rg y7 := by rw [fy7]; exact (rg_ior _ _)
      refine r_istore (ls' := [(5, vI y7), (8, vI y5), (7, vI y3), (0, vR 1 0), (1, vI x1), (3, vI x3), (4, vI x4), (6, vI x6)]) gy7 (by decide) rfl dX10_callSets_134 ?_
      obtain ⟨c8, H⟩ := H
      refine r_iinc (k := 7) (ls' := [(6, vI (x6 + 1)), (5, vI y7), (8, vI y5), (7, vI y3), (0, vR 1 0), (1, vI x1), (3, vI x3), (4, vI x4)]) rfl c8 (by decide) rfl dX10_callSets_136 ?_
      refine r_goto (tgt := 51) dX10_callSets_139 (by decide) ?_
      exact sl_At.sub [4, 5, 6, 7, 1, 0] rfl H
    refine r_if_eq (tgt := 132) rg_b dX10_callSets_122 (by decide) (fun h6 => ?_) (fun h6 => ?_)
    · replace h6 := (b_eq0.mp h6)
      refine r_iconst dX10_callSets_132 ?_
      rw [if_pos h6] at J
      exact J
    · replace h6 := (b_ne0.mp h6)
      refine r_iconst dX10_callSets_125 ?_
      refine r_iload (k := 0) rfl dX10_callSets_126 ?_
      refine r_ishl dX10_callSets_128 ?_
      refine r_goto (tgt := 133) dX10_callSets_129 (by decide) ?_
      rw [if_neg (fun q => q h6)] at J
      exact J
theorem eX10_callSets {l : Launch} {M : sl_M} {Q : sl_R} {x1 x2 : Int} (k : sl_At l mX10_callSets 0 [(0, vR 1 0), (1, vI x1), (2, vI x2)] [] M Q) : sl_Runs l mX10_callSets [vR 1 0, vI x1, vI x2] M Q := sl_Runs.of (ls := [(0, vR 1 0), (1, vI x1), (2, vI x2)]) rfl rfl (fun _ => rfl) (fun _ => Nat.le_of_ble_eq_true rfl) rfl (k)
theorem dX10_laysWays_0 : decode cX10_laysWays 0 = .ok (.aload_n 0, 1) := by decide +kernel
theorem dX10_laysWays_1 : decode cX10_laysWays 1 = .ok (.getfield 55, 3) := by decide +kernel
theorem dX10_laysWays_4 : decode cX10_laysWays 4 = .ok (.iload_n 1, 1) := by decide +kernel
theorem dX10_laysWays_5 : decode cX10_laysWays 5 = .ok (.iload_n 2, 1) := by decide +kernel
theorem dX10_laysWays_6 : decode cX10_laysWays 6 = .ok (.iadd, 1) := by decide +kernel
theorem dX10_laysWays_7 : decode cX10_laysWays 7 = .ok (.iconst 0, 1) := by decide +kernel
theorem dX10_laysWays_8 : decode cX10_laysWays 8 = .ok (.iastore, 1) := by decide +kernel
theorem dX10_laysWays_9 : decode cX10_laysWays 9 = .ok (.aload_n 0, 1) := by decide +kernel
theorem dX10_laysWays_10 : decode cX10_laysWays 10 = .ok (.getfield 31, 3) := by decide +kernel
theorem dX10_laysWays_13 : decode cX10_laysWays 13 = .ok (.iload_n 1, 1) := by decide +kernel
theorem dX10_laysWays_14 : decode cX10_laysWays 14 = .ok (.iload_n 2, 1) := by decide +kernel
theorem dX10_laysWays_15 : decode cX10_laysWays 15 = .ok (.iadd, 1) := by decide +kernel
theorem dX10_laysWays_16 : decode cX10_laysWays 16 = .ok (.iaload, 1) := by decide +kernel
theorem dX10_laysWays_17 : decode cX10_laysWays 17 = .ok (.tableswitch 213 0 6 #[43, 72, 83, 95, 106, 117, 168], 43) := by decide +kernel
theorem dX10_laysWays_60 : decode cX10_laysWays 60 = .ok (.aload_n 0, 1) := by decide +kernel
theorem dX10_laysWays_61 : decode cX10_laysWays 61 = .ok (.iload_n 1, 1) := by decide +kernel
theorem dX10_laysWays_62 : decode cX10_laysWays 62 = .ok (.iload_n 2, 1) := by decide +kernel
theorem dX10_laysWays_63 : decode cX10_laysWays 63 = .ok (.iconst 1, 1) := by decide +kernel
theorem dX10_laysWays_64 : decode cX10_laysWays 64 = .ok (.iconst 1, 1) := by decide +kernel
theorem dX10_laysWays_65 : decode cX10_laysWays 65 = .ok (.aload_n 0, 1) := by decide +kernel
theorem dX10_laysWays_66 : decode cX10_laysWays 66 = .ok (.getfield 7, 3) := by decide +kernel
theorem dX10_laysWays_69 : decode cX10_laysWays 69 = .ok (.sipush 201, 3) := by decide +kernel
theorem dX10_laysWays_72 : decode cX10_laysWays 72 = .ok (.aload_n 0, 1) := by decide +kernel
theorem dX10_laysWays_73 : decode cX10_laysWays 73 = .ok (.getfield 43, 3) := by decide +kernel
theorem dX10_laysWays_76 : decode cX10_laysWays 76 = .ok (.iload_n 1, 1) := by decide +kernel
theorem dX10_laysWays_77 : decode cX10_laysWays 77 = .ok (.iload_n 2, 1) := by decide +kernel
theorem dX10_laysWays_78 : decode cX10_laysWays 78 = .ok (.iadd, 1) := by decide +kernel
theorem dX10_laysWays_79 : decode cX10_laysWays 79 = .ok (.iaload, 1) := by decide +kernel
theorem dX10_laysWays_80 : decode cX10_laysWays 80 = .ok (.iadd, 1) := by decide +kernel
theorem dX10_laysWays_81 : decode cX10_laysWays 81 = .ok (.iaload, 1) := by decide +kernel
theorem dX10_laysWays_82 : decode cX10_laysWays 82 = .ok (.ishl, 1) := by decide +kernel
theorem dX10_laysWays_83 : decode cX10_laysWays 83 = .ok (.invokevirtual 222, 3) := by decide +kernel
theorem dX10_laysWays_86 : decode cX10_laysWays 86 = .ok (.goto 217, 3) := by decide +kernel
theorem dX10_laysWays_89 : decode cX10_laysWays 89 = .ok (.aload_n 0, 1) := by decide +kernel
theorem dX10_laysWays_90 : decode cX10_laysWays 90 = .ok (.iload_n 1, 1) := by decide +kernel
theorem dX10_laysWays_91 : decode cX10_laysWays 91 = .ok (.iload_n 2, 1) := by decide +kernel
theorem dX10_laysWays_92 : decode cX10_laysWays 92 = .ok (.iconst 1, 1) := by decide +kernel
theorem dX10_laysWays_93 : decode cX10_laysWays 93 = .ok (.iconst 0, 1) := by decide +kernel
theorem dX10_laysWays_94 : decode cX10_laysWays 94 = .ok (.invokevirtual 222, 3) := by decide +kernel
theorem dX10_laysWays_97 : decode cX10_laysWays 97 = .ok (.goto 206, 3) := by decide +kernel
theorem dX10_laysWays_100 : decode cX10_laysWays 100 = .ok (.aload_n 0, 1) := by decide +kernel
theorem dX10_laysWays_101 : decode cX10_laysWays 101 = .ok (.iload_n 1, 1) := by decide +kernel
theorem dX10_laysWays_102 : decode cX10_laysWays 102 = .ok (.iload_n 2, 1) := by decide +kernel
theorem dX10_laysWays_103 : decode cX10_laysWays 103 = .ok (.bipush 8, 2) := by decide +kernel
theorem dX10_laysWays_105 : decode cX10_laysWays 105 = .ok (.iconst 0, 1) := by decide +kernel
theorem dX10_laysWays_106 : decode cX10_laysWays 106 = .ok (.invokevirtual 222, 3) := by decide +kernel
theorem dX10_laysWays_109 : decode cX10_laysWays 109 = .ok (.goto 194, 3) := by decide +kernel
theorem dX10_laysWays_112 : decode cX10_laysWays 112 = .ok (.aload_n 0, 1) := by decide +kernel
theorem dX10_laysWays_113 : decode cX10_laysWays 113 = .ok (.iload_n 1, 1) := by decide +kernel
theorem dX10_laysWays_114 : decode cX10_laysWays 114 = .ok (.iload_n 2, 1) := by decide +kernel
theorem dX10_laysWays_115 : decode cX10_laysWays 115 = .ok (.iconst 2, 1) := by decide +kernel
theorem dX10_laysWays_116 : decode cX10_laysWays 116 = .ok (.iconst 0, 1) := by decide +kernel
theorem dX10_laysWays_117 : decode cX10_laysWays 117 = .ok (.invokevirtual 222, 3) := by decide +kernel
theorem dX10_laysWays_120 : decode cX10_laysWays 120 = .ok (.goto 183, 3) := by decide +kernel
theorem dX10_laysWays_123 : decode cX10_laysWays 123 = .ok (.aload_n 0, 1) := by decide +kernel
theorem dX10_laysWays_124 : decode cX10_laysWays 124 = .ok (.iload_n 1, 1) := by decide +kernel
theorem dX10_laysWays_125 : decode cX10_laysWays 125 = .ok (.iload_n 2, 1) := by decide +kernel
theorem dX10_laysWays_126 : decode cX10_laysWays 126 = .ok (.iconst 4, 1) := by decide +kernel
theorem dX10_laysWays_127 : decode cX10_laysWays 127 = .ok (.iconst 0, 1) := by decide +kernel
theorem dX10_laysWays_128 : decode cX10_laysWays 128 = .ok (.invokevirtual 222, 3) := by decide +kernel
theorem dX10_laysWays_131 : decode cX10_laysWays 131 = .ok (.goto 172, 3) := by decide +kernel
theorem dX10_laysWays_134 : decode cX10_laysWays 134 = .ok (.iconst 0, 1) := by decide +kernel
theorem dX10_laysWays_135 : decode cX10_laysWays 135 = .ok (.istore 4, 2) := by decide +kernel
theorem dX10_laysWays_137 : decode cX10_laysWays 137 = .ok (.iload 4, 2) := by decide +kernel
theorem dX10_laysWays_139 : decode cX10_laysWays 139 = .ok (.iconst 2, 1) := by decide +kernel
theorem dX10_laysWays_140 : decode cX10_laysWays 140 = .ok (.if_icmp .ge 42, 3) := by decide +kernel
theorem dX10_laysWays_143 : decode cX10_laysWays 143 = .ok (.aload_n 0, 1) := by decide +kernel
theorem dX10_laysWays_144 : decode cX10_laysWays 144 = .ok (.iload_n 1, 1) := by decide +kernel
theorem dX10_laysWays_145 : decode cX10_laysWays 145 = .ok (.iload_n 2, 1) := by decide +kernel
theorem dX10_laysWays_146 : decode cX10_laysWays 146 = .ok (.iload 4, 2) := by decide +kernel
theorem dX10_laysWays_148 : decode cX10_laysWays 148 = .ok (.invokevirtual 226, 3) := by decide +kernel
theorem dX10_laysWays_151 : decode cX10_laysWays 151 = .ok (.istore_n 3, 1) := by decide +kernel
theorem dX10_laysWays_152 : decode cX10_laysWays 152 = .ok (.aload_n 0, 1) := by decide +kernel
theorem dX10_laysWays_153 : decode cX10_laysWays 153 = .ok (.iload_n 1, 1) := by decide +kernel
theorem dX10_laysWays_154 : decode cX10_laysWays 154 = .ok (.iload_n 2, 1) := by decide +kernel
theorem dX10_laysWays_155 : decode cX10_laysWays 155 = .ok (.iload_n 3, 1) := by decide +kernel
theorem dX10_laysWays_156 : decode cX10_laysWays 156 = .ok (.iconst (-1), 1) := by decide +kernel
theorem dX10_laysWays_157 : decode cX10_laysWays 157 = .ok (.if_icmp .ne 12, 3) := by decide +kernel
theorem dX10_laysWays_160 : decode cX10_laysWays 160 = .ok (.aload_n 0, 1) := by decide +kernel
theorem dX10_laysWays_161 : decode cX10_laysWays 161 = .ok (.iload_n 1, 1) := by decide +kernel
theorem dX10_laysWays_162 : decode cX10_laysWays 162 = .ok (.iload_n 2, 1) := by decide +kernel
theorem dX10_laysWays_163 : decode cX10_laysWays 163 = .ok (.invokevirtual 207, 3) := by decide +kernel
theorem dX10_laysWays_166 : decode cX10_laysWays 166 = .ok (.goto 4, 3) := by decide +kernel
theorem dX10_laysWays_169 : decode cX10_laysWays 169 = .ok (.iload_n 3, 1) := by decide +kernel
theorem dX10_laysWays_170 : decode cX10_laysWays 170 = .ok (.iconst 0, 1) := by decide +kernel
theorem dX10_laysWays_171 : decode cX10_laysWays 171 = .ok (.iconst 1, 1) := by decide +kernel
theorem dX10_laysWays_172 : decode cX10_laysWays 172 = .ok (.iconst (-1), 1) := by decide +kernel
theorem dX10_laysWays_173 : decode cX10_laysWays 173 = .ok (.invokevirtual 211, 3) := by decide +kernel
theorem dX10_laysWays_176 : decode cX10_laysWays 176 = .ok (.iinc 4 1, 3) := by decide +kernel
theorem dX10_laysWays_179 : decode cX10_laysWays 179 = .ok (.goto (-42), 3) := by decide +kernel
theorem dX10_laysWays_182 : decode cX10_laysWays 182 = .ok (.goto 121, 3) := by decide +kernel
theorem dX10_laysWays_185 : decode cX10_laysWays 185 = .ok (.aload_n 0, 1) := by decide +kernel
theorem dX10_laysWays_186 : decode cX10_laysWays 186 = .ok (.iload_n 1, 1) := by decide +kernel
theorem dX10_laysWays_187 : decode cX10_laysWays 187 = .ok (.iload_n 2, 1) := by decide +kernel
theorem dX10_laysWays_188 : decode cX10_laysWays 188 = .ok (.iconst 0, 1) := by decide +kernel
theorem dX10_laysWays_189 : decode cX10_laysWays 189 = .ok (.invokevirtual 226, 3) := by decide +kernel
theorem dX10_laysWays_192 : decode cX10_laysWays 192 = .ok (.istore_n 3, 1) := by decide +kernel
theorem dX10_laysWays_193 : decode cX10_laysWays 193 = .ok (.aload_n 0, 1) := by decide +kernel
theorem dX10_laysWays_194 : decode cX10_laysWays 194 = .ok (.iload_n 1, 1) := by decide +kernel
theorem dX10_laysWays_195 : decode cX10_laysWays 195 = .ok (.iload_n 2, 1) := by decide +kernel
theorem dX10_laysWays_196 : decode cX10_laysWays 196 = .ok (.iload_n 3, 1) := by decide +kernel
theorem dX10_laysWays_197 : decode cX10_laysWays 197 = .ok (.iconst (-1), 1) := by decide +kernel
theorem dX10_laysWays_198 : decode cX10_laysWays 198 = .ok (.if_icmp .ne 7, 3) := by decide +kernel
theorem dX10_laysWays_201 : decode cX10_laysWays 201 = .ok (.iload_n 2, 1) := by decide +kernel
theorem dX10_laysWays_202 : decode cX10_laysWays 202 = .ok (.goto 4, 3) := by decide +kernel
theorem dX10_laysWays_205 : decode cX10_laysWays 205 = .ok (.iload_n 3, 1) := by decide +kernel
theorem dX10_laysWays_206 : decode cX10_laysWays 206 = .ok (.iconst 0, 1) := by decide +kernel
theorem dX10_laysWays_207 : decode cX10_laysWays 207 = .ok (.iconst 1, 1) := by decide +kernel
theorem dX10_laysWays_208 : decode cX10_laysWays 208 = .ok (.iconst (-1), 1) := by decide +kernel
theorem dX10_laysWays_209 : decode cX10_laysWays 209 = .ok (.invokevirtual 211, 3) := by decide +kernel
theorem dX10_laysWays_212 : decode cX10_laysWays 212 = .ok (.aload_n 0, 1) := by decide +kernel
theorem dX10_laysWays_213 : decode cX10_laysWays 213 = .ok (.iload_n 1, 1) := by decide +kernel
theorem dX10_laysWays_214 : decode cX10_laysWays 214 = .ok (.iload_n 2, 1) := by decide +kernel
theorem dX10_laysWays_215 : decode cX10_laysWays 215 = .ok (.aload_n 0, 1) := by decide +kernel
theorem dX10_laysWays_216 : decode cX10_laysWays 216 = .ok (.iload_n 1, 1) := by decide +kernel
theorem dX10_laysWays_217 : decode cX10_laysWays 217 = .ok (.iload_n 2, 1) := by decide +kernel
theorem dX10_laysWays_218 : decode cX10_laysWays 218 = .ok (.invokevirtual 207, 3) := by decide +kernel
theorem dX10_laysWays_221 : decode cX10_laysWays 221 = .ok (.iconst 0, 1) := by decide +kernel
theorem dX10_laysWays_222 : decode cX10_laysWays 222 = .ok (.iconst 1, 1) := by decide +kernel
theorem dX10_laysWays_223 : decode cX10_laysWays 223 = .ok (.iconst (-1), 1) := by decide +kernel
theorem dX10_laysWays_224 : decode cX10_laysWays 224 = .ok (.invokevirtual 211, 3) := by decide +kernel
theorem dX10_laysWays_227 : decode cX10_laysWays 227 = .ok (.goto 76, 3) := by decide +kernel
theorem dX10_laysWays_230 : decode cX10_laysWays 230 = .ok (.iconst 1, 1) := by decide +kernel
theorem dX10_laysWays_231 : decode cX10_laysWays 231 = .ok (.istore 4, 2) := by decide +kernel
theorem dX10_laysWays_233 : decode cX10_laysWays 233 = .ok (.iload 4, 2) := by decide +kernel
theorem dX10_laysWays_235 : decode cX10_laysWays 235 = .ok (.bipush 8, 2) := by decide +kernel
theorem dX10_laysWays_237 : decode cX10_laysWays 237 = .ok (.if_icmp .gt 66, 3) := by decide +kernel
theorem dX10_laysWays_240 : decode cX10_laysWays 240 = .ok (.aload_n 0, 1) := by decide +kernel
theorem dX10_laysWays_241 : decode cX10_laysWays 241 = .ok (.getfield 7, 3) := by decide +kernel
theorem dX10_laysWays_244 : decode cX10_laysWays 244 = .ok (.sipush 768, 3) := by decide +kernel
theorem dX10_laysWays_247 : decode cX10_laysWays 247 = .ok (.aload_n 0, 1) := by decide +kernel
theorem dX10_laysWays_248 : decode cX10_laysWays 248 = .ok (.getfield 7, 3) := by decide +kernel
theorem dX10_laysWays_251 : decode cX10_laysWays 251 = .ok (.sipush 870, 3) := by decide +kernel
theorem dX10_laysWays_254 : decode cX10_laysWays 254 = .ok (.aload_n 0, 1) := by decide +kernel
theorem dX10_laysWays_255 : decode cX10_laysWays 255 = .ok (.getfield 46, 3) := by decide +kernel
theorem dX10_laysWays_258 : decode cX10_laysWays 258 = .ok (.iload_n 1, 1) := by decide +kernel
theorem dX10_laysWays_259 : decode cX10_laysWays 259 = .ok (.iload_n 2, 1) := by decide +kernel
theorem dX10_laysWays_260 : decode cX10_laysWays 260 = .ok (.iadd, 1) := by decide +kernel
theorem dX10_laysWays_261 : decode cX10_laysWays 261 = .ok (.iaload, 1) := by decide +kernel
theorem dX10_laysWays_262 : decode cX10_laysWays 262 = .ok (.iadd, 1) := by decide +kernel
theorem dX10_laysWays_263 : decode cX10_laysWays 263 = .ok (.iaload, 1) := by decide +kernel
theorem dX10_laysWays_264 : decode cX10_laysWays 264 = .ok (.iadd, 1) := by decide +kernel
theorem dX10_laysWays_265 : decode cX10_laysWays 265 = .ok (.iaload, 1) := by decide +kernel
theorem dX10_laysWays_266 : decode cX10_laysWays 266 = .ok (.iload 4, 2) := by decide +kernel
theorem dX10_laysWays_268 : decode cX10_laysWays 268 = .ok (.iand, 1) := by decide +kernel
theorem dX10_laysWays_269 : decode cX10_laysWays 269 = .ok (.ifCond .eq 25, 3) := by decide +kernel
theorem dX10_laysWays_272 : decode cX10_laysWays 272 = .ok (.aload_n 0, 1) := by decide +kernel
theorem dX10_laysWays_273 : decode cX10_laysWays 273 = .ok (.iload_n 1, 1) := by decide +kernel
theorem dX10_laysWays_274 : decode cX10_laysWays 274 = .ok (.iload_n 2, 1) := by decide +kernel
theorem dX10_laysWays_275 : decode cX10_laysWays 275 = .ok (.iload 4, 2) := by decide +kernel
theorem dX10_laysWays_277 : decode cX10_laysWays 277 = .ok (.aload_n 0, 1) := by decide +kernel
theorem dX10_laysWays_278 : decode cX10_laysWays 278 = .ok (.aload_n 0, 1) := by decide +kernel
theorem dX10_laysWays_279 : decode cX10_laysWays 279 = .ok (.getfield 46, 3) := by decide +kernel
theorem dX10_laysWays_282 : decode cX10_laysWays 282 = .ok (.iload_n 1, 1) := by decide +kernel
theorem dX10_laysWays_283 : decode cX10_laysWays 283 = .ok (.iload_n 2, 1) := by decide +kernel
theorem dX10_laysWays_284 : decode cX10_laysWays 284 = .ok (.iadd, 1) := by decide +kernel
theorem dX10_laysWays_285 : decode cX10_laysWays 285 = .ok (.iaload, 1) := by decide +kernel
theorem dX10_laysWays_286 : decode cX10_laysWays 286 = .ok (.iload 4, 2) := by decide +kernel
theorem dX10_laysWays_288 : decode cX10_laysWays 288 = .ok (.invokevirtual 230, 3) := by decide +kernel
theorem dX10_laysWays_291 : decode cX10_laysWays 291 = .ok (.invokevirtual 222, 3) := by decide +kernel
theorem dX10_laysWays_294 : decode cX10_laysWays 294 = .ok (.iload 4, 2) := by decide +kernel
theorem dX10_laysWays_296 : decode cX10_laysWays 296 = .ok (.iconst 2, 1) := by decide +kernel
theorem dX10_laysWays_297 : decode cX10_laysWays 297 = .ok (.imul, 1) := by decide +kernel
theorem dX10_laysWays_298 : decode cX10_laysWays 298 = .ok (.istore 4, 2) := by decide +kernel
theorem dX10_laysWays_300 : decode cX10_laysWays 300 = .ok (.goto (-67), 3) := by decide +kernel
theorem dX10_laysWays_303 : decode cX10_laysWays 303 = .ok (.return_, 1) := by decide +kernel
set_option maxHeartbeats 4000000 in
set_option maxRecDepth 10000 in
theorem vX10_laysWays_0 {l : Launch} {M : sl_M} {Q : sl_R} {x1 x2 : Int} (H : sl_RM M → sl_rg x1 → sl_rg x2 → (0 ≤ x1 + x2 ∧ x1 + x2 < 82) ∧ (∀ M2, M2 = sl_wr M 1 25 (x1 + x2) 0 → ((M2 1 17 (x1 + x2) = 0) → (0 ≤ 201 + (M2 1 21 (x1 + x2)) ∧ 201 + (M2 1 21 (x1 + x2)) < 990) ∧ sl_RV l mX10_leaving [vR 1 0, vI x1, vI x2, vI 1, vI (ishl 1 (M2 1 1 (201 + (M2 1 21 (x1 + x2)))))] M2 (fun M4 => Q none M4)) ∧ ((M2 1 17 (x1 + x2) = 1) → sl_RV l mX10_leaving [vR 1 0, vI x1, vI x2, vI 1, vI 0] M2 (fun M5 => Q none M5)) ∧ ((M2 1 17 (x1 + x2) = 2) → sl_RV l mX10_leaving [vR 1 0, vI x1, vI x2, vI 8, vI 0] M2 (fun M6 => Q none M6)) ∧ ((M2 1 17 (x1 + x2) = 3) → sl_RV l mX10_leaving [vR 1 0, vI x1, vI x2, vI 2, vI 0] M2 (fun M7 => Q none M7)) ∧ ((M2 1 17 (x1 + x2) = 4) → sl_RV l mX10_leaving [vR 1 0, vI x1, vI x2, vI 4, vI 0] M2 (fun M8 => Q none M8)) ∧ ((M2 1 17 (x1 + x2) = 5) → sl_At l mX10_laysWays 137 [(0, vR 1 0), (1, vI x1), (2, vI x2), (4, vI 0)] [] M2 Q) ∧ ((M2 1 17 (x1 + x2) = 6) → sl_RI l mX10_firstOf [vR 1 0, vI x1, vI x2, vI 0] M2 (fun y10 M9 => sl_RV l mX10_way [vR 1 0, vI x1, vI x2, vI (if y10 ≠ (-1) then y10 else x2), vI 0, vI 1, vI (-1)] M9 (fun M12 => sl_RI l mX10_behind [vR 1 0, vI x1, vI x2] M12 (fun y14 M13 => sl_RV l mX10_way [vR 1 0, vI x1, vI x2, vI y14, vI 0, vI 1, vI (-1)] M13 (fun M15 => Q none M15))))) ∧ ((¬ (M2 1 17 (x1 + x2) = 0) ∧ ¬ (M2 1 17 (x1 + x2) = 1) ∧ ¬ (M2 1 17 (x1 + x2) = 2) ∧ ¬ (M2 1 17 (x1 + x2) = 3) ∧ ¬ (M2 1 17 (x1 + x2) = 4) ∧ ¬ (M2 1 17 (x1 + x2) = 5) ∧ ¬ (M2 1 17 (x1 + x2) = 6)) → sl_At l mX10_laysWays 233 [(0, vR 1 0), (1, vI x1), (2, vI x2), (4, vI 1)] [] M2 Q))) : sl_At l mX10_laysWays 0 [(0, vR 1 0), (1, vI x1), (2, vI x2)] [] M Q := by
  refine sl_At.in (fun hM hls => ?_)
  have g1 : sl_rg x1 := hls _ (List.mem_of_getElem? (i := 1) rfl)
  have g2 : sl_rg x2 := hls _ (List.mem_of_getElem? (i := 2) rfl)
  have H := H hM g1 g2
  refine r_aload_n (k := 0) rfl rfl dX10_laysWays_0 ?_
  refine r_getR (k := 24) (o' := 1) (i' := 25) ckX10 rfl rfl (by decide) rfl rfl rfl fl_X10_55 dX10_laysWays_1 ?_
  refine r_iload_n (k := 1) rfl rfl dX10_laysWays_4 ?_
  refine r_iload_n (k := 2) rfl rfl dX10_laysWays_5 ?_
  refine r_iadd dX10_laysWays_6 ?_
  refine r_iconst dX10_laysWays_7 ?_
  obtain ⟨c1, H⟩ := H
  refine r_iast rfl rfl rfl c1 ⟨by decide, by decide⟩ dX10_laysWays_8 ?_
  refine r_mm (fun M2 e2 => ?_)
  have H := H M2 e2
  have hM2 : sl_RM M2 := by rw [e2]; exact sl_wr_RM hM ⟨by decide, by decide⟩
  refine r_aload_n (k := 0) rfl rfl dX10_laysWays_9 ?_
  refine r_getR (k := 16) (o' := 1) (i' := 17) ckX10 rfl rfl (by decide) rfl rfl rfl fl_X10_31 dX10_laysWays_10 ?_
  refine r_iload_n (k := 1) rfl rfl dX10_laysWays_13 ?_
  refine r_iload_n (k := 2) rfl rfl dX10_laysWays_14 ?_
  refine r_iadd dX10_laysWays_15 ?_
  refine r_iald rfl rfl rfl c1 dX10_laysWays_16 ?_
  by_cases h16 : M2 1 17 (x1 + x2) = 0
  · refine r_tsIn (tgt := 60) 0 (hM2 _ _ _) dX10_laysWays_17 (by omega) (by decide) rfl (by decide) ?_
    have H := H.1 (by omega)
    refine r_aload_n (k := 0) rfl rfl dX10_laysWays_60 ?_
    refine r_iload_n (k := 1) rfl rfl dX10_laysWays_61 ?_
    refine r_iload_n (k := 2) rfl rfl dX10_laysWays_62 ?_
    refine r_iconst dX10_laysWays_63 ?_
    refine r_iconst dX10_laysWays_64 ?_
    refine r_aload_n (k := 0) rfl rfl dX10_laysWays_65 ?_
    refine r_getR (k := 0) (o' := 1) (i' := 1) ckX10 rfl rfl (by decide) rfl rfl rfl fl_X10_7 dX10_laysWays_66 ?_
    refine r_sipush dX10_laysWays_69 (by decide) ?_
    refine r_aload_n (k := 0) rfl rfl dX10_laysWays_72 ?_
    refine r_getR (k := 20) (o' := 1) (i' := 21) ckX10 rfl rfl (by decide) rfl rfl rfl fl_X10_43 dX10_laysWays_73 ?_
    refine r_iload_n (k := 1) rfl rfl dX10_laysWays_76 ?_
    refine r_iload_n (k := 2) rfl rfl dX10_laysWays_77 ?_
    refine r_iadd dX10_laysWays_78 ?_
    refine r_iald rfl rfl rfl c1 dX10_laysWays_79 ?_
    refine r_iadd dX10_laysWays_80 ?_
    obtain ⟨c3, H⟩ := H
    refine r_iald rfl rfl rfl c3 dX10_laysWays_81 ?_
    refine r_ishl dX10_laysWays_82 ?_
    refine r_callV (g := mX10_leaving) ckX10 rfl rfl rfl rfl mkX10_leaving mvX10_leaving ml_X10_222 ⟨by decide, by decide⟩ rfl (Nat.le_of_ble_eq_true rfl) rfl (ok_i g1 (ok_i g2 (ok_i ⟨by decide, by decide⟩ (ok_i (rg_ishl _ _) ok_n)))) dX10_laysWays_83 (sl_afterV (sl_RV.mono (fun M4 hM4 H => ?_) H))
    refine r_goto (tgt := 303) dX10_laysWays_86 (by decide) ?_
    refine r_vret rfl dX10_laysWays_303 ?_
    exact H
  by_cases h17 : M2 1 17 (x1 + x2) = 1
  · refine r_tsIn (tgt := 89) 1 (hM2 _ _ _) dX10_laysWays_17 (by omega) (by decide) rfl (by decide) ?_
    have H := H.2.1 (by omega)
    refine r_aload_n (k := 0) rfl rfl dX10_laysWays_89 ?_
    refine r_iload_n (k := 1) rfl rfl dX10_laysWays_90 ?_
    refine r_iload_n (k := 2) rfl rfl dX10_laysWays_91 ?_
    refine r_iconst dX10_laysWays_92 ?_
    refine r_iconst dX10_laysWays_93 ?_
    refine r_callV (g := mX10_leaving) ckX10 rfl rfl rfl rfl mkX10_leaving mvX10_leaving ml_X10_222 ⟨by decide, by decide⟩ rfl (Nat.le_of_ble_eq_true rfl) rfl (ok_i g1 (ok_i g2 (ok_i ⟨by decide, by decide⟩ (ok_i ⟨by decide, by decide⟩ ok_n)))) dX10_laysWays_94 (sl_afterV (sl_RV.mono (fun M5 hM5 H => ?_) H))
    refine r_goto (tgt := 303) dX10_laysWays_97 (by decide) ?_
    refine r_vret rfl dX10_laysWays_303 ?_
    exact H
  by_cases h18 : M2 1 17 (x1 + x2) = 2
  · refine r_tsIn (tgt := 100) 2 (hM2 _ _ _) dX10_laysWays_17 (by omega) (by decide) rfl (by decide) ?_
    have H := H.2.2.1 (by omega)
    refine r_aload_n (k := 0) rfl rfl dX10_laysWays_100 ?_
    refine r_iload_n (k := 1) rfl rfl dX10_laysWays_101 ?_
    refine r_iload_n (k := 2) rfl rfl dX10_laysWays_102 ?_
    refine r_bipush dX10_laysWays_103 (by decide) ?_
    refine r_iconst dX10_laysWays_105 ?_
    refine r_callV (g := mX10_leaving) ckX10 rfl rfl rfl rfl mkX10_leaving mvX10_leaving ml_X10_222 ⟨by decide, by decide⟩ rfl (Nat.le_of_ble_eq_true rfl) rfl (ok_i g1 (ok_i g2 (ok_i ⟨by decide, by decide⟩ (ok_i ⟨by decide, by decide⟩ ok_n)))) dX10_laysWays_106 (sl_afterV (sl_RV.mono (fun M6 hM6 H => ?_) H))
    refine r_goto (tgt := 303) dX10_laysWays_109 (by decide) ?_
    refine r_vret rfl dX10_laysWays_303 ?_
    exact H
  by_cases h19 : M2 1 17 (x1 + x2) = 3
  · refine r_tsIn (tgt := 112) 3 (hM2 _ _ _) dX10_laysWays_17 (by omega) (by decide) rfl (by decide) ?_
    have H := H.2.2.2.1 (by omega)
    refine r_aload_n (k := 0) rfl rfl dX10_laysWays_112 ?_
    refine r_iload_n (k := 1) rfl rfl dX10_laysWays_113 ?_
    refine r_iload_n (k := 2) rfl rfl dX10_laysWays_114 ?_
    refine r_iconst dX10_laysWays_115 ?_
    refine r_iconst dX10_laysWays_116 ?_
    refine r_callV (g := mX10_leaving) ckX10 rfl rfl rfl rfl mkX10_leaving mvX10_leaving ml_X10_222 ⟨by decide, by decide⟩ rfl (Nat.le_of_ble_eq_true rfl) rfl (ok_i g1 (ok_i g2 (ok_i ⟨by decide, by decide⟩ (ok_i ⟨by decide, by decide⟩ ok_n)))) dX10_laysWays_117 (sl_afterV (sl_RV.mono (fun M7 hM7 H => ?_) H))
    refine r_goto (tgt := 303) dX10_laysWays_120 (by decide) ?_
    refine r_vret rfl dX10_laysWays_303 ?_
    exact H
  by_cases h20 : M2 1 17 (x1 + x2) = 4
  · refine r_tsIn (tgt := 123) 4 (hM2 _ _ _) dX10_laysWays_17 (by omega) (by decide) rfl (by decide) ?_
    have H := H.2.2.2.2.1 (by omega)
    refine r_aload_n (k := 0) rfl rfl dX10_laysWays_123 ?_
    refine r_iload_n (k := 1) rfl rfl dX10_laysWays_124 ?_
    refine r_iload_n (k := 2) rfl rfl dX10_laysWays_125 ?_
    refine r_iconst dX10_laysWays_126 ?_
    refine r_iconst dX10_laysWays_127 ?_
    refine r_callV (g := mX10_leaving) ckX10 rfl rfl rfl rfl mkX10_leaving mvX10_leaving ml_X10_222 ⟨by decide, by decide⟩ rfl (Nat.le_of_ble_eq_true rfl) rfl (ok_i g1 (ok_i g2 (ok_i ⟨by decide, by decide⟩ (ok_i ⟨by decide, by decide⟩ ok_n)))) dX10_laysWays_128 (sl_afterV (sl_RV.mono (fun M8 hM8 H => ?_) H))
    refine r_goto (tgt := 303) dX10_laysWays_131 (by decide) ?_
    refine r_vret rfl dX10_laysWays_303 ?_
    exact H
  by_cases h21 : M2 1 17 (x1 + x2) = 5
  · refine r_tsIn (tgt := 134) 5 (hM2 _ _ _) dX10_laysWays_17 (by omega) (by decide) rfl (by decide) ?_
    have H := H.2.2.2.2.2.1 (by omega)
    refine r_iconst dX10_laysWays_134 ?_
    refine r_istore (ls' := [(4, vI 0), (0, vR 1 0), (1, vI x1), (2, vI x2)]) ⟨by decide, by decide⟩ (by decide) rfl dX10_laysWays_135 ?_
    exact sl_At.sub [1, 2, 3, 0] rfl H
  by_cases h22 : M2 1 17 (x1 + x2) = 6
  · refine r_tsIn (tgt := 185) 6 (hM2 _ _ _) dX10_laysWays_17 (by omega) (by decide) rfl (by decide) ?_
    have H := H.2.2.2.2.2.2.1 (by omega)
    refine r_aload_n (k := 0) rfl rfl dX10_laysWays_185 ?_
    refine r_iload_n (k := 1) rfl rfl dX10_laysWays_186 ?_
    refine r_iload_n (k := 2) rfl rfl dX10_laysWays_187 ?_
    refine r_iconst dX10_laysWays_188 ?_
    refine r_callV (g := mX10_firstOf) ckX10 rfl rfl rfl rfl mkX10_firstOf mvX10_firstOf ml_X10_226 ⟨by decide, by decide⟩ rfl (Nat.le_of_ble_eq_true rfl) rfl (ok_i g1 (ok_i g2 (ok_i ⟨by decide, by decide⟩ ok_n))) dX10_laysWays_189 (sl_afterI (sl_RI.mono (fun y10 M9 gy10 hM9 H => ?_) H))
    refine r_istore_n (ls' := [(3, vI y10), (0, vR 1 0), (1, vI x1), (2, vI x2)]) gy10 rfl (by decide) rfl dX10_laysWays_192 ?_
    refine r_aload_n (k := 1) rfl rfl dX10_laysWays_193 ?_
    refine r_iload_n (k := 2) rfl rfl dX10_laysWays_194 ?_
    refine r_iload_n (k := 3) rfl rfl dX10_laysWays_195 ?_
    refine r_iload_n (k := 0) rfl rfl dX10_laysWays_196 ?_
    refine r_iconst dX10_laysWays_197 ?_
    have J : sl_At l mX10_laysWays 206 [(3, vI y10), (0, vR 1 0), (1, vI x1), (2, vI x2)] [vI (if y10 ≠ (-1) then y10 else x2), vI x2, vI x1, vR 1 0] M9 Q := by
      refine r_iconst dX10_laysWays_206 ?_
      refine r_iconst dX10_laysWays_207 ?_
      refine r_iconst dX10_laysWays_208 ?_
      refine r_callV (g := mX10_way) ckX10 rfl rfl rfl rfl mkX10_way mvX10_way ml_X10_211 ⟨by decide, by decide⟩ rfl (Nat.le_of_ble_eq_true rfl) rfl (ok_i g1 (ok_i g2 (ok_i (sl_rgite gy10 g2) (ok_i ⟨by decide, by decide⟩ (ok_i ⟨by decide, by decide⟩ (ok_i ⟨by decide, by decide⟩ ok_n)))))) dX10_laysWays_209 (sl_afterV (sl_RV.mono (fun M12 hM12 H => ?_) H))
      refine r_aload_n (k := 1) rfl rfl dX10_laysWays_212 ?_
      refine r_iload_n (k := 2) rfl rfl dX10_laysWays_213 ?_
      refine r_iload_n (k := 3) rfl rfl dX10_laysWays_214 ?_
      refine r_aload_n (k := 1) rfl rfl dX10_laysWays_215 ?_
      refine r_iload_n (k := 2) rfl rfl dX10_laysWays_216 ?_
      refine r_iload_n (k := 3) rfl rfl dX10_laysWays_217 ?_
      refine r_callV (g := mX10_behind) ckX10 rfl rfl rfl rfl mkX10_behind mvX10_behind ml_X10_207 ⟨by decide, by decide⟩ rfl (Nat.le_of_ble_eq_true rfl) rfl (ok_i g1 (ok_i g2 ok_n)) dX10_laysWays_218 (sl_afterI (sl_RI.mono (fun y14 M13 gy14 hM13 H => ?_) H))
      refine r_iconst dX10_laysWays_221 ?_
      refine r_iconst dX10_laysWays_222 ?_
      refine r_iconst dX10_laysWays_223 ?_
      refine r_callV (g := mX10_way) ckX10 rfl rfl rfl rfl mkX10_way mvX10_way ml_X10_211 ⟨by decide, by decide⟩ rfl (Nat.le_of_ble_eq_true rfl) rfl (ok_i g1 (ok_i g2 (ok_i gy14 (ok_i ⟨by decide, by decide⟩ (ok_i ⟨by decide, by decide⟩ (ok_i ⟨by decide, by decide⟩ ok_n)))))) dX10_laysWays_224 (sl_afterV (sl_RV.mono (fun M15 hM15 H => ?_) H))
      refine r_goto (tgt := 303) dX10_laysWays_227 (by decide) ?_
      refine r_vret rfl dX10_laysWays_303 ?_
      exact H
    refine r_icmp_ne (tgt := 205) gy10 ⟨by decide, by decide⟩ dX10_laysWays_198 (by decide) (fun h11 => ?_) (fun h11 => ?_)
    · refine r_iload_n (k := 0) rfl rfl dX10_laysWays_205 ?_
      rw [if_pos h11] at J
      exact J
    · refine r_iload_n (k := 3) rfl rfl dX10_laysWays_201 ?_
      refine r_goto (tgt := 206) dX10_laysWays_202 (by decide) ?_
      rw [if_neg h11] at J
      exact J
  refine r_tsOut (tgt := 230) (hM2 _ _ _) dX10_laysWays_17 (by omega) (by decide) ?_
  have H := H.2.2.2.2.2.2.2 (by omega)
  refine r_iconst dX10_laysWays_230 ?_
  refine r_istore (ls' := [(4, vI 1), (0, vR 1 0), (1, vI x1), (2, vI x2)]) ⟨by decide, by decide⟩ (by decide) rfl dX10_laysWays_231 ?_
  exact sl_At.sub [1, 2, 3, 0] rfl H
set_option maxHeartbeats 4000000 in
set_option maxRecDepth 10000 in
theorem vX10_laysWays_137 {l : Launch} {M : sl_M} {Q : sl_R} {x1 x2 x4 : Int} (H : sl_RM M → sl_rg x1 → sl_rg x2 → sl_rg x4 → ((2 ≤ x4) → Q none M) ∧ ((¬ (2 ≤ x4)) → sl_RI l mX10_firstOf [vR 1 0, vI x1, vI x2, vI x4] M (fun y3 M2 => ((y3 ≠ (-1)) → sl_RV l mX10_way [vR 1 0, vI x1, vI x2, vI y3, vI 0, vI 1, vI (-1)] M2 (fun M5 => (sl_rg (x4 + 1)) ∧ sl_At l mX10_laysWays 137 [(0, vR 1 0), (1, vI x1), (2, vI x2), (4, vI (x4 + 1))] [] M5 Q)) ∧ ((¬ (y3 ≠ (-1))) → sl_RI l mX10_behind [vR 1 0, vI x1, vI x2] M2 (fun y8 M7 => sl_RV l mX10_way [vR 1 0, vI x1, vI x2, vI y8, vI 0, vI 1, vI (-1)] M7 (fun M9 => (sl_rg (x4 + 1)) ∧ sl_At l mX10_laysWays 137 [(0, vR 1 0), (1, vI x1), (2, vI x2), (4, vI (x4 + 1))] [] M9 Q)))))) : sl_At l mX10_laysWays 137 [(0, vR 1 0), (1, vI x1), (2, vI x2), (4, vI x4)] [] M Q := by
  refine sl_At.in (fun hM hls => ?_)
  have g1 : sl_rg x1 := hls _ (List.mem_of_getElem? (i := 1) rfl)
  have g2 : sl_rg x2 := hls _ (List.mem_of_getElem? (i := 2) rfl)
  have g4 : sl_rg x4 := hls _ (List.mem_of_getElem? (i := 3) rfl)
  have H := H hM g1 g2 g4
  refine r_iload (k := 3) rfl dX10_laysWays_137 ?_
  refine r_iconst dX10_laysWays_139 ?_
  refine r_icmp_ge (tgt := 182) g4 ⟨by decide, by decide⟩ dX10_laysWays_140 (by decide) (fun h1 => ?_) (fun h1 => ?_)
  · have H := H.1 h1
    refine r_goto (tgt := 303) dX10_laysWays_182 (by decide) ?_
    refine r_vret rfl dX10_laysWays_303 ?_
    exact H
  · have H := H.2 h1
    refine r_aload_n (k := 0) rfl rfl dX10_laysWays_143 ?_
    refine r_iload_n (k := 1) rfl rfl dX10_laysWays_144 ?_
    refine r_iload_n (k := 2) rfl rfl dX10_laysWays_145 ?_
    refine r_iload (k := 3) rfl dX10_laysWays_146 ?_
    refine r_callV (g := mX10_firstOf) ckX10 rfl rfl rfl rfl mkX10_firstOf mvX10_firstOf ml_X10_226 ⟨by decide, by decide⟩ rfl (Nat.le_of_ble_eq_true rfl) rfl (ok_i g1 (ok_i g2 (ok_i g4 ok_n))) dX10_laysWays_148 (sl_afterI (sl_RI.mono (fun y3 M2 gy3 hM2 H => ?_) H))
    refine r_istore_n (ls' := [(3, vI y3), (0, vR 1 0), (1, vI x1), (2, vI x2), (4, vI x4)]) gy3 rfl (by decide) rfl dX10_laysWays_151 ?_
    refine r_aload_n (k := 1) rfl rfl dX10_laysWays_152 ?_
    refine r_iload_n (k := 2) rfl rfl dX10_laysWays_153 ?_
    refine r_iload_n (k := 3) rfl rfl dX10_laysWays_154 ?_
    refine r_iload_n (k := 0) rfl rfl dX10_laysWays_155 ?_
    refine r_iconst dX10_laysWays_156 ?_
    refine r_icmp_ne (tgt := 169) gy3 ⟨by decide, by decide⟩ dX10_laysWays_157 (by decide) (fun h4 => ?_) (fun h4 => ?_)
    · have H := H.1 h4
      refine r_iload_n (k := 0) rfl rfl dX10_laysWays_169 ?_
      refine r_iconst dX10_laysWays_170 ?_
      refine r_iconst dX10_laysWays_171 ?_
      refine r_iconst dX10_laysWays_172 ?_
      refine r_callV (g := mX10_way) ckX10 rfl rfl rfl rfl mkX10_way mvX10_way ml_X10_211 ⟨by decide, by decide⟩ rfl (Nat.le_of_ble_eq_true rfl) rfl (ok_i g1 (ok_i g2 (ok_i gy3 (ok_i ⟨by decide, by decide⟩ (ok_i ⟨by decide, by decide⟩ (ok_i ⟨by decide, by decide⟩ ok_n)))))) dX10_laysWays_173 (sl_afterV (sl_RV.mono (fun M5 hM5 H => ?_) H))
      obtain ⟨c6, H⟩ := H
      refine r_iinc (k := 4) (ls' := [(4, vI (x4 + 1)), (3, vI y3), (0, vR 1 0), (1, vI x1), (2, vI x2)]) rfl c6 (by decide) rfl dX10_laysWays_176 ?_
      refine r_goto (tgt := 137) dX10_laysWays_179 (by decide) ?_
      exact sl_At.sub [2, 3, 4, 0] rfl H
    · have H := H.2 h4
      refine r_aload_n (k := 1) rfl rfl dX10_laysWays_160 ?_
      refine r_iload_n (k := 2) rfl rfl dX10_laysWays_161 ?_
      refine r_iload_n (k := 3) rfl rfl dX10_laysWays_162 ?_
      refine r_callV (g := mX10_behind) ckX10 rfl rfl rfl rfl mkX10_behind mvX10_behind ml_X10_207 ⟨by decide, by decide⟩ rfl (Nat.le_of_ble_eq_true rfl) rfl (ok_i g1 (ok_i g2 ok_n)) dX10_laysWays_163 (sl_afterI (sl_RI.mono (fun y8 M7 gy8 hM7 H => ?_) H))
      refine r_goto (tgt := 170) dX10_laysWays_166 (by decide) ?_
      refine r_iconst dX10_laysWays_170 ?_
      refine r_iconst dX10_laysWays_171 ?_
      refine r_iconst dX10_laysWays_172 ?_
      refine r_callV (g := mX10_way) ckX10 rfl rfl rfl rfl mkX10_way mvX10_way ml_X10_211 ⟨by decide, by decide⟩ rfl (Nat.le_of_ble_eq_true rfl) rfl (ok_i g1 (ok_i g2 (ok_i gy8 (ok_i ⟨by decide, by decide⟩ (ok_i ⟨by decide, by decide⟩ (ok_i ⟨by decide, by decide⟩ ok_n)))))) dX10_laysWays_173 (sl_afterV (sl_RV.mono (fun M9 hM9 H => ?_) H))
      obtain ⟨c10, H⟩ := H
      refine r_iinc (k := 4) (ls' := [(4, vI (x4 + 1)), (3, vI y3), (0, vR 1 0), (1, vI x1), (2, vI x2)]) rfl c10 (by decide) rfl dX10_laysWays_176 ?_
      refine r_goto (tgt := 137) dX10_laysWays_179 (by decide) ?_
      exact sl_At.sub [2, 3, 4, 0] rfl H
set_option maxHeartbeats 4000000 in
set_option maxRecDepth 10000 in
theorem vX10_laysWays_233 {l : Launch} {M : sl_M} {Q : sl_R} {x1 x2 x4 : Int} (H : sl_RM M → sl_rg x1 → sl_rg x2 → sl_rg x4 → ((8 < x4) → Q none M) ∧ ((¬ (8 < x4)) → (0 ≤ x1 + x2 ∧ x1 + x2 < 82) ∧ (0 ≤ 870 + (M 1 22 (x1 + x2)) ∧ 870 + (M 1 22 (x1 + x2)) < 990) ∧ (0 ≤ 768 + (M 1 1 (870 + (M 1 22 (x1 + x2)))) ∧ 768 + (M 1 1 (870 + (M 1 22 (x1 + x2)))) < 990) ∧ ((iand (M 1 1 (768 + (M 1 1 (870 + (M 1 22 (x1 + x2)))))) x4 = 0) → (sl_rg (x4 * 2)) ∧ (∀ y7 : Int, y7 = x4 * 2 → sl_At l mX10_laysWays 233 [(0, vR 1 0), (1, vI x1), (2, vI x2), (4, vI y7)] [] M Q)) ∧ ((¬ (iand (M 1 1 (768 + (M 1 1 (870 + (M 1 22 (x1 + x2)))))) x4 = 0)) → sl_RI l mX10_callSets [vR 1 0, vI (M 1 22 (x1 + x2)), vI x4] M (fun y9 M8 => sl_RV l mX10_leaving [vR 1 0, vI x1, vI x2, vI x4, vI y9] M8 (fun M10 => (sl_rg (x4 * 2)) ∧ (∀ y12 : Int, y12 = x4 * 2 → sl_At l mX10_laysWays 233 [(0, vR 1 0), (1, vI x1), (2, vI x2), (4, vI y12)] [] M10 Q)))))) : sl_At l mX10_laysWays 233 [(0, vR 1 0), (1, vI x1), (2, vI x2), (4, vI x4)] [] M Q := by
  refine sl_At.in (fun hM hls => ?_)
  have g1 : sl_rg x1 := hls _ (List.mem_of_getElem? (i := 1) rfl)
  have g2 : sl_rg x2 := hls _ (List.mem_of_getElem? (i := 2) rfl)
  have g4 : sl_rg x4 := hls _ (List.mem_of_getElem? (i := 3) rfl)
  have H := H hM g1 g2 g4
  refine r_iload (k := 3) rfl dX10_laysWays_233 ?_
  refine r_bipush dX10_laysWays_235 (by decide) ?_
  refine r_icmp_gt (tgt := 303) g4 ⟨by decide, by decide⟩ dX10_laysWays_237 (by decide) (fun h1 => ?_) (fun h1 => ?_)
  · have H := H.1 h1
    refine r_vret rfl dX10_laysWays_303 ?_
    exact H
  · have H := H.2 h1
    refine r_aload_n (k := 0) rfl rfl dX10_laysWays_240 ?_
    refine r_getR (k := 0) (o' := 1) (i' := 1) ckX10 rfl rfl (by decide) rfl rfl rfl fl_X10_7 dX10_laysWays_241 ?_
    refine r_sipush dX10_laysWays_244 (by decide) ?_
    refine r_aload_n (k := 0) rfl rfl dX10_laysWays_247 ?_
    refine r_getR (k := 0) (o' := 1) (i' := 1) ckX10 rfl rfl (by decide) rfl rfl rfl fl_X10_7 dX10_laysWays_248 ?_
    refine r_sipush dX10_laysWays_251 (by decide) ?_
    refine r_aload_n (k := 0) rfl rfl dX10_laysWays_254 ?_
    refine r_getR (k := 21) (o' := 1) (i' := 22) ckX10 rfl rfl (by decide) rfl rfl rfl fl_X10_46 dX10_laysWays_255 ?_
    refine r_iload_n (k := 1) rfl rfl dX10_laysWays_258 ?_
    refine r_iload_n (k := 2) rfl rfl dX10_laysWays_259 ?_
    refine r_iadd dX10_laysWays_260 ?_
    obtain ⟨c2, H⟩ := H
    refine r_iald rfl rfl rfl c2 dX10_laysWays_261 ?_
    refine r_iadd dX10_laysWays_262 ?_
    obtain ⟨c3, H⟩ := H
    refine r_iald rfl rfl rfl c3 dX10_laysWays_263 ?_
    refine r_iadd dX10_laysWays_264 ?_
    obtain ⟨c4, H⟩ := H
    refine r_iald rfl rfl rfl c4 dX10_laysWays_265 ?_
    refine r_iload (k := 3) rfl dX10_laysWays_266 ?_
    refine r_iand dX10_laysWays_268 ?_
    refine r_if_eq (tgt := 294) (rg_iand _ _) dX10_laysWays_269 (by decide) (fun h5 => ?_) (fun h5 => ?_)
    · have H := H.1 h5
      refine r_iload (k := 3) rfl dX10_laysWays_294 ?_
      refine r_iconst dX10_laysWays_296 ?_
      refine r_imul dX10_laysWays_297 ?_
      obtain ⟨c6, H⟩ := H
      refine r_nm (fun y7 fy7 => ?_)
      have H := H y7 fy7
      have gy7 : sl_rg y7 := by rw [fy7]; exact c6
      refine r_istore (ls' := [(4, vI y7), (0, vR 1 0), (1, vI x1), (2, vI x2)]) gy7 (by decide) rfl dX10_laysWays_298 ?_
      refine r_goto (tgt := 233) dX10_laysWays_300 (by decide) ?_
      exact sl_At.sub [1, 2, 3, 0] rfl H
    · have H := H.2 h5
      refine r_aload_n (k := 0) rfl rfl dX10_laysWays_272 ?_
      refine r_iload_n (k := 1) rfl rfl dX10_laysWays_273 ?_
      refine r_iload_n (k := 2) rfl rfl dX10_laysWays_274 ?_
      refine r_iload (k := 3) rfl dX10_laysWays_275 ?_
      refine r_aload_n (k := 0) rfl rfl dX10_laysWays_277 ?_
      refine r_aload_n (k := 0) rfl rfl dX10_laysWays_278 ?_
      refine r_getR (k := 21) (o' := 1) (i' := 22) ckX10 rfl rfl (by decide) rfl rfl rfl fl_X10_46 dX10_laysWays_279 ?_
      refine r_iload_n (k := 1) rfl rfl dX10_laysWays_282 ?_
      refine r_iload_n (k := 2) rfl rfl dX10_laysWays_283 ?_
      refine r_iadd dX10_laysWays_284 ?_
      refine r_iald rfl rfl rfl c2 dX10_laysWays_285 ?_
      refine r_iload (k := 3) rfl dX10_laysWays_286 ?_
      refine r_callV (g := mX10_callSets) ckX10 rfl rfl rfl rfl mkX10_callSets mvX10_callSets ml_X10_230 ⟨by decide, by decide⟩ rfl (Nat.le_of_ble_eq_true rfl) rfl (ok_i (hM _ _ _) (ok_i g4 ok_n)) dX10_laysWays_288 (sl_afterI (sl_RI.mono (fun y9 M8 gy9 hM8 H => ?_) H))
      refine r_callV (g := mX10_leaving) ckX10 rfl rfl rfl rfl mkX10_leaving mvX10_leaving ml_X10_222 ⟨by decide, by decide⟩ rfl (Nat.le_of_ble_eq_true rfl) rfl (ok_i g1 (ok_i g2 (ok_i g4 (ok_i gy9 ok_n)))) dX10_laysWays_291 (sl_afterV (sl_RV.mono (fun M10 hM10 H => ?_) H))
      refine r_iload (k := 3) rfl dX10_laysWays_294 ?_
      refine r_iconst dX10_laysWays_296 ?_
      refine r_imul dX10_laysWays_297 ?_
      obtain ⟨c11, H⟩ := H
      refine r_nm (fun y12 fy12 => ?_)
      have H := H y12 fy12
      have gy12 : sl_rg y12 := by rw [fy12]; exact c11
      refine r_istore (ls' := [(4, vI y12), (0, vR 1 0), (1, vI x1), (2, vI x2)]) gy12 (by decide) rfl dX10_laysWays_298 ?_
      refine r_goto (tgt := 233) dX10_laysWays_300 (by decide) ?_
      exact sl_At.sub [1, 2, 3, 0] rfl H
theorem eX10_laysWays {l : Launch} {M : sl_M} {Q : sl_R} {x1 x2 : Int} (k : sl_At l mX10_laysWays 0 [(0, vR 1 0), (1, vI x1), (2, vI x2)] [] M Q) : sl_Runs l mX10_laysWays [vR 1 0, vI x1, vI x2] M Q := sl_Runs.of (ls := [(0, vR 1 0), (1, vI x1), (2, vI x2)]) rfl rfl (fun _ => rfl) (fun _ => Nat.le_of_ble_eq_true rfl) rfl (k)
theorem dX10_laysLive_0 : decode cX10_laysLive 0 = .ok (.aload_n 0, 1) := by decide +kernel
theorem dX10_laysLive_1 : decode cX10_laysLive 1 = .ok (.iload_n 1, 1) := by decide +kernel
theorem dX10_laysLive_2 : decode cX10_laysLive 2 = .ok (.invokevirtual 201, 3) := by decide +kernel
theorem dX10_laysLive_5 : decode cX10_laysLive 5 = .ok (.istore_n 2, 1) := by decide +kernel
theorem dX10_laysLive_6 : decode cX10_laysLive 6 = .ok (.iconst 0, 1) := by decide +kernel
theorem dX10_laysLive_7 : decode cX10_laysLive 7 = .ok (.istore_n 3, 1) := by decide +kernel
theorem dX10_laysLive_8 : decode cX10_laysLive 8 = .ok (.iload_n 3, 1) := by decide +kernel
theorem dX10_laysLive_9 : decode cX10_laysLive 9 = .ok (.iload_n 2, 1) := by decide +kernel
theorem dX10_laysLive_10 : decode cX10_laysLive 10 = .ok (.if_icmp .gt 37, 3) := by decide +kernel
theorem dX10_laysLive_13 : decode cX10_laysLive 13 = .ok (.aload_n 0, 1) := by decide +kernel
theorem dX10_laysLive_14 : decode cX10_laysLive 14 = .ok (.getfield 70, 3) := by decide +kernel
theorem dX10_laysLive_17 : decode cX10_laysLive 17 = .ok (.iload_n 1, 1) := by decide +kernel
theorem dX10_laysLive_18 : decode cX10_laysLive 18 = .ok (.iload_n 3, 1) := by decide +kernel
theorem dX10_laysLive_19 : decode cX10_laysLive 19 = .ok (.iadd, 1) := by decide +kernel
theorem dX10_laysLive_20 : decode cX10_laysLive 20 = .ok (.iconst 0, 1) := by decide +kernel
theorem dX10_laysLive_21 : decode cX10_laysLive 21 = .ok (.iastore, 1) := by decide +kernel
theorem dX10_laysLive_22 : decode cX10_laysLive 22 = .ok (.aload_n 0, 1) := by decide +kernel
theorem dX10_laysLive_23 : decode cX10_laysLive 23 = .ok (.getfield 73, 3) := by decide +kernel
theorem dX10_laysLive_26 : decode cX10_laysLive 26 = .ok (.iload_n 1, 1) := by decide +kernel
theorem dX10_laysLive_27 : decode cX10_laysLive 27 = .ok (.iload_n 3, 1) := by decide +kernel
theorem dX10_laysLive_28 : decode cX10_laysLive 28 = .ok (.iadd, 1) := by decide +kernel
theorem dX10_laysLive_29 : decode cX10_laysLive 29 = .ok (.iload_n 3, 1) := by decide +kernel
theorem dX10_laysLive_30 : decode cX10_laysLive 30 = .ok (.ifCond .ne 7, 3) := by decide +kernel
theorem dX10_laysLive_33 : decode cX10_laysLive 33 = .ok (.iconst 3, 1) := by decide +kernel
theorem dX10_laysLive_34 : decode cX10_laysLive 34 = .ok (.goto 6, 3) := by decide +kernel
theorem dX10_laysLive_37 : decode cX10_laysLive 37 = .ok (.sipush 255, 3) := by decide +kernel
theorem dX10_laysLive_40 : decode cX10_laysLive 40 = .ok (.iastore, 1) := by decide +kernel
theorem dX10_laysLive_41 : decode cX10_laysLive 41 = .ok (.iinc 3 1, 3) := by decide +kernel
theorem dX10_laysLive_44 : decode cX10_laysLive 44 = .ok (.goto (-36), 3) := by decide +kernel
theorem dX10_laysLive_47 : decode cX10_laysLive 47 = .ok (.iconst 1, 1) := by decide +kernel
theorem dX10_laysLive_48 : decode cX10_laysLive 48 = .ok (.istore_n 3, 1) := by decide +kernel
theorem dX10_laysLive_49 : decode cX10_laysLive 49 = .ok (.iload_n 3, 1) := by decide +kernel
theorem dX10_laysLive_50 : decode cX10_laysLive 50 = .ok (.ifCond .eq 213, 3) := by decide +kernel
theorem dX10_laysLive_53 : decode cX10_laysLive 53 = .ok (.iconst 0, 1) := by decide +kernel
theorem dX10_laysLive_54 : decode cX10_laysLive 54 = .ok (.istore_n 3, 1) := by decide +kernel
theorem dX10_laysLive_55 : decode cX10_laysLive 55 = .ok (.iload_n 2, 1) := by decide +kernel
theorem dX10_laysLive_56 : decode cX10_laysLive 56 = .ok (.iconst 1, 1) := by decide +kernel
theorem dX10_laysLive_57 : decode cX10_laysLive 57 = .ok (.isub, 1) := by decide +kernel
theorem dX10_laysLive_58 : decode cX10_laysLive 58 = .ok (.istore 4, 2) := by decide +kernel
theorem dX10_laysLive_60 : decode cX10_laysLive 60 = .ok (.iload 4, 2) := by decide +kernel
theorem dX10_laysLive_62 : decode cX10_laysLive 62 = .ok (.ifCond .lt 198, 3) := by decide +kernel
theorem dX10_laysLive_65 : decode cX10_laysLive 65 = .ok (.aload_n 0, 1) := by decide +kernel
theorem dX10_laysLive_66 : decode cX10_laysLive 66 = .ok (.getfield 52, 3) := by decide +kernel
theorem dX10_laysLive_69 : decode cX10_laysLive 69 = .ok (.iload_n 1, 1) := by decide +kernel
theorem dX10_laysLive_70 : decode cX10_laysLive 70 = .ok (.iload 4, 2) := by decide +kernel
theorem dX10_laysLive_72 : decode cX10_laysLive 72 = .ok (.iadd, 1) := by decide +kernel
theorem dX10_laysLive_73 : decode cX10_laysLive 73 = .ok (.iaload, 1) := by decide +kernel
theorem dX10_laysLive_74 : decode cX10_laysLive 74 = .ok (.istore 5, 2) := by decide +kernel
theorem dX10_laysLive_76 : decode cX10_laysLive 76 = .ok (.iconst 4, 1) := by decide +kernel
theorem dX10_laysLive_77 : decode cX10_laysLive 77 = .ok (.iload_n 1, 1) := by decide +kernel
theorem dX10_laysLive_78 : decode cX10_laysLive 78 = .ok (.iload 4, 2) := by decide +kernel
theorem dX10_laysLive_80 : decode cX10_laysLive 80 = .ok (.iadd, 1) := by decide +kernel
theorem dX10_laysLive_81 : decode cX10_laysLive 81 = .ok (.imul, 1) := by decide +kernel
theorem dX10_laysLive_82 : decode cX10_laysLive 82 = .ok (.istore 6, 2) := by decide +kernel
theorem dX10_laysLive_84 : decode cX10_laysLive 84 = .ok (.iload 6, 2) := by decide +kernel
theorem dX10_laysLive_86 : decode cX10_laysLive 86 = .ok (.iconst 4, 1) := by decide +kernel
theorem dX10_laysLive_87 : decode cX10_laysLive 87 = .ok (.iload_n 1, 1) := by decide +kernel
theorem dX10_laysLive_88 : decode cX10_laysLive 88 = .ok (.iload 4, 2) := by decide +kernel
theorem dX10_laysLive_90 : decode cX10_laysLive 90 = .ok (.iadd, 1) := by decide +kernel
theorem dX10_laysLive_91 : decode cX10_laysLive 91 = .ok (.imul, 1) := by decide +kernel
theorem dX10_laysLive_92 : decode cX10_laysLive 92 = .ok (.aload_n 0, 1) := by decide +kernel
theorem dX10_laysLive_93 : decode cX10_laysLive 93 = .ok (.getfield 55, 3) := by decide +kernel
theorem dX10_laysLive_96 : decode cX10_laysLive 96 = .ok (.iload_n 1, 1) := by decide +kernel
theorem dX10_laysLive_97 : decode cX10_laysLive 97 = .ok (.iload 4, 2) := by decide +kernel
theorem dX10_laysLive_99 : decode cX10_laysLive 99 = .ok (.iadd, 1) := by decide +kernel
theorem dX10_laysLive_100 : decode cX10_laysLive 100 = .ok (.iaload, 1) := by decide +kernel
theorem dX10_laysLive_101 : decode cX10_laysLive 101 = .ok (.iadd, 1) := by decide +kernel
theorem dX10_laysLive_102 : decode cX10_laysLive 102 = .ok (.if_icmp .ge 117, 3) := by decide +kernel
theorem dX10_laysLive_105 : decode cX10_laysLive 105 = .ok (.iload 5, 2) := by decide +kernel
theorem dX10_laysLive_107 : decode cX10_laysLive 107 = .ok (.aload_n 0, 1) := by decide +kernel
theorem dX10_laysLive_108 : decode cX10_laysLive 108 = .ok (.getfield 70, 3) := by decide +kernel
theorem dX10_laysLive_111 : decode cX10_laysLive 111 = .ok (.iload_n 1, 1) := by decide +kernel
theorem dX10_laysLive_112 : decode cX10_laysLive 112 = .ok (.aload_n 0, 1) := by decide +kernel
theorem dX10_laysLive_113 : decode cX10_laysLive 113 = .ok (.getfield 58, 3) := by decide +kernel
theorem dX10_laysLive_116 : decode cX10_laysLive 116 = .ok (.iload 6, 2) := by decide +kernel
theorem dX10_laysLive_118 : decode cX10_laysLive 118 = .ok (.iaload, 1) := by decide +kernel
theorem dX10_laysLive_119 : decode cX10_laysLive 119 = .ok (.iadd, 1) := by decide +kernel
theorem dX10_laysLive_120 : decode cX10_laysLive 120 = .ok (.iaload, 1) := by decide +kernel
theorem dX10_laysLive_121 : decode cX10_laysLive 121 = .ok (.aload_n 0, 1) := by decide +kernel
theorem dX10_laysLive_122 : decode cX10_laysLive 122 = .ok (.getfield 61, 3) := by decide +kernel
theorem dX10_laysLive_125 : decode cX10_laysLive 125 = .ok (.iload 6, 2) := by decide +kernel
theorem dX10_laysLive_127 : decode cX10_laysLive 127 = .ok (.iaload, 1) := by decide +kernel
theorem dX10_laysLive_128 : decode cX10_laysLive 128 = .ok (.iconst (-1), 1) := by decide +kernel
theorem dX10_laysLive_129 : decode cX10_laysLive 129 = .ok (.ixor, 1) := by decide +kernel
theorem dX10_laysLive_130 : decode cX10_laysLive 130 = .ok (.iand, 1) := by decide +kernel
theorem dX10_laysLive_131 : decode cX10_laysLive 131 = .ok (.ior, 1) := by decide +kernel
theorem dX10_laysLive_132 : decode cX10_laysLive 132 = .ok (.istore 5, 2) := by decide +kernel
theorem dX10_laysLive_134 : decode cX10_laysLive 134 = .ok (.aload_n 0, 1) := by decide +kernel
theorem dX10_laysLive_135 : decode cX10_laysLive 135 = .ok (.getfield 73, 3) := by decide +kernel
theorem dX10_laysLive_138 : decode cX10_laysLive 138 = .ok (.iload_n 1, 1) := by decide +kernel
theorem dX10_laysLive_139 : decode cX10_laysLive 139 = .ok (.aload_n 0, 1) := by decide +kernel
theorem dX10_laysLive_140 : decode cX10_laysLive 140 = .ok (.getfield 58, 3) := by decide +kernel
theorem dX10_laysLive_143 : decode cX10_laysLive 143 = .ok (.iload 6, 2) := by decide +kernel
theorem dX10_laysLive_145 : decode cX10_laysLive 145 = .ok (.iaload, 1) := by decide +kernel
theorem dX10_laysLive_146 : decode cX10_laysLive 146 = .ok (.iadd, 1) := by decide +kernel
theorem dX10_laysLive_147 : decode cX10_laysLive 147 = .ok (.iaload, 1) := by decide +kernel
theorem dX10_laysLive_148 : decode cX10_laysLive 148 = .ok (.aload_n 0, 1) := by decide +kernel
theorem dX10_laysLive_149 : decode cX10_laysLive 149 = .ok (.getfield 73, 3) := by decide +kernel
theorem dX10_laysLive_152 : decode cX10_laysLive 152 = .ok (.iload_n 1, 1) := by decide +kernel
theorem dX10_laysLive_153 : decode cX10_laysLive 153 = .ok (.iload 4, 2) := by decide +kernel
theorem dX10_laysLive_155 : decode cX10_laysLive 155 = .ok (.iadd, 1) := by decide +kernel
theorem dX10_laysLive_156 : decode cX10_laysLive 156 = .ok (.iaload, 1) := by decide +kernel
theorem dX10_laysLive_157 : decode cX10_laysLive 157 = .ok (.aload_n 0, 1) := by decide +kernel
theorem dX10_laysLive_158 : decode cX10_laysLive 158 = .ok (.getfield 61, 3) := by decide +kernel
theorem dX10_laysLive_161 : decode cX10_laysLive 161 = .ok (.iload 6, 2) := by decide +kernel
theorem dX10_laysLive_163 : decode cX10_laysLive 163 = .ok (.iaload, 1) := by decide +kernel
theorem dX10_laysLive_164 : decode cX10_laysLive 164 = .ok (.ior, 1) := by decide +kernel
theorem dX10_laysLive_165 : decode cX10_laysLive 165 = .ok (.iand, 1) := by decide +kernel
theorem dX10_laysLive_166 : decode cX10_laysLive 166 = .ok (.istore 7, 2) := by decide +kernel
theorem dX10_laysLive_168 : decode cX10_laysLive 168 = .ok (.iload_n 3, 1) := by decide +kernel
theorem dX10_laysLive_169 : decode cX10_laysLive 169 = .ok (.ifCond .ne 22, 3) := by decide +kernel
theorem dX10_laysLive_172 : decode cX10_laysLive 172 = .ok (.iload 7, 2) := by decide +kernel
theorem dX10_laysLive_174 : decode cX10_laysLive 174 = .ok (.aload_n 0, 1) := by decide +kernel
theorem dX10_laysLive_175 : decode cX10_laysLive 175 = .ok (.getfield 73, 3) := by decide +kernel
theorem dX10_laysLive_178 : decode cX10_laysLive 178 = .ok (.iload_n 1, 1) := by decide +kernel
theorem dX10_laysLive_179 : decode cX10_laysLive 179 = .ok (.aload_n 0, 1) := by decide +kernel
theorem dX10_laysLive_180 : decode cX10_laysLive 180 = .ok (.getfield 58, 3) := by decide +kernel
theorem dX10_laysLive_183 : decode cX10_laysLive 183 = .ok (.iload 6, 2) := by decide +kernel
theorem dX10_laysLive_185 : decode cX10_laysLive 185 = .ok (.iaload, 1) := by decide +kernel
theorem dX10_laysLive_186 : decode cX10_laysLive 186 = .ok (.iadd, 1) := by decide +kernel
theorem dX10_laysLive_187 : decode cX10_laysLive 187 = .ok (.iaload, 1) := by decide +kernel
theorem dX10_laysLive_188 : decode cX10_laysLive 188 = .ok (.if_icmp .eq 7, 3) := by decide +kernel
theorem dX10_laysLive_191 : decode cX10_laysLive 191 = .ok (.iconst 1, 1) := by decide +kernel
theorem dX10_laysLive_192 : decode cX10_laysLive 192 = .ok (.goto 4, 3) := by decide +kernel
theorem dX10_laysLive_195 : decode cX10_laysLive 195 = .ok (.iconst 0, 1) := by decide +kernel
theorem dX10_laysLive_196 : decode cX10_laysLive 196 = .ok (.istore_n 3, 1) := by decide +kernel
theorem dX10_laysLive_197 : decode cX10_laysLive 197 = .ok (.aload_n 0, 1) := by decide +kernel
theorem dX10_laysLive_198 : decode cX10_laysLive 198 = .ok (.getfield 73, 3) := by decide +kernel
theorem dX10_laysLive_201 : decode cX10_laysLive 201 = .ok (.iload_n 1, 1) := by decide +kernel
theorem dX10_laysLive_202 : decode cX10_laysLive 202 = .ok (.aload_n 0, 1) := by decide +kernel
theorem dX10_laysLive_203 : decode cX10_laysLive 203 = .ok (.getfield 58, 3) := by decide +kernel
theorem dX10_laysLive_206 : decode cX10_laysLive 206 = .ok (.iload 6, 2) := by decide +kernel
theorem dX10_laysLive_208 : decode cX10_laysLive 208 = .ok (.iaload, 1) := by decide +kernel
theorem dX10_laysLive_209 : decode cX10_laysLive 209 = .ok (.iadd, 1) := by decide +kernel
theorem dX10_laysLive_210 : decode cX10_laysLive 210 = .ok (.iload 7, 2) := by decide +kernel
theorem dX10_laysLive_212 : decode cX10_laysLive 212 = .ok (.iastore, 1) := by decide +kernel
theorem dX10_laysLive_213 : decode cX10_laysLive 213 = .ok (.iinc 6 1, 3) := by decide +kernel
theorem dX10_laysLive_216 : decode cX10_laysLive 216 = .ok (.goto (-132), 3) := by decide +kernel
theorem dX10_laysLive_219 : decode cX10_laysLive 219 = .ok (.iload_n 3, 1) := by decide +kernel
theorem dX10_laysLive_220 : decode cX10_laysLive 220 = .ok (.ifCond .ne 17, 3) := by decide +kernel
theorem dX10_laysLive_223 : decode cX10_laysLive 223 = .ok (.iload 5, 2) := by decide +kernel
theorem dX10_laysLive_225 : decode cX10_laysLive 225 = .ok (.aload_n 0, 1) := by decide +kernel
theorem dX10_laysLive_226 : decode cX10_laysLive 226 = .ok (.getfield 70, 3) := by decide +kernel
theorem dX10_laysLive_229 : decode cX10_laysLive 229 = .ok (.iload_n 1, 1) := by decide +kernel
theorem dX10_laysLive_230 : decode cX10_laysLive 230 = .ok (.iload 4, 2) := by decide +kernel
theorem dX10_laysLive_232 : decode cX10_laysLive 232 = .ok (.iadd, 1) := by decide +kernel
theorem dX10_laysLive_233 : decode cX10_laysLive 233 = .ok (.iaload, 1) := by decide +kernel
theorem dX10_laysLive_234 : decode cX10_laysLive 234 = .ok (.if_icmp .eq 7, 3) := by decide +kernel
theorem dX10_laysLive_237 : decode cX10_laysLive 237 = .ok (.iconst 1, 1) := by decide +kernel
theorem dX10_laysLive_238 : decode cX10_laysLive 238 = .ok (.goto 4, 3) := by decide +kernel
theorem dX10_laysLive_241 : decode cX10_laysLive 241 = .ok (.iconst 0, 1) := by decide +kernel
theorem dX10_laysLive_242 : decode cX10_laysLive 242 = .ok (.istore_n 3, 1) := by decide +kernel
theorem dX10_laysLive_243 : decode cX10_laysLive 243 = .ok (.aload_n 0, 1) := by decide +kernel
theorem dX10_laysLive_244 : decode cX10_laysLive 244 = .ok (.getfield 70, 3) := by decide +kernel
theorem dX10_laysLive_247 : decode cX10_laysLive 247 = .ok (.iload_n 1, 1) := by decide +kernel
theorem dX10_laysLive_248 : decode cX10_laysLive 248 = .ok (.iload 4, 2) := by decide +kernel
theorem dX10_laysLive_250 : decode cX10_laysLive 250 = .ok (.iadd, 1) := by decide +kernel
theorem dX10_laysLive_251 : decode cX10_laysLive 251 = .ok (.iload 5, 2) := by decide +kernel
theorem dX10_laysLive_253 : decode cX10_laysLive 253 = .ok (.iastore, 1) := by decide +kernel
theorem dX10_laysLive_254 : decode cX10_laysLive 254 = .ok (.iinc 4 (-1), 3) := by decide +kernel
theorem dX10_laysLive_257 : decode cX10_laysLive 257 = .ok (.goto (-197), 3) := by decide +kernel
theorem dX10_laysLive_260 : decode cX10_laysLive 260 = .ok (.goto (-211), 3) := by decide +kernel
theorem dX10_laysLive_263 : decode cX10_laysLive 263 = .ok (.return_, 1) := by decide +kernel
set_option maxHeartbeats 4000000 in
set_option maxRecDepth 10000 in
theorem vX10_laysLive_0 {l : Launch} {M : sl_M} {Q : sl_R} {x1 : Int} (H : sl_RM M → sl_rg x1 → sl_RI l mX10_manyOf [vR 1 0, vI x1] M (fun y2 M1 => sl_At l mX10_laysLive 8 [(0, vR 1 0), (1, vI x1), (2, vI y2), (3, vI 0)] [] M1 Q)) : sl_At l mX10_laysLive 0 [(0, vR 1 0), (1, vI x1)] [] M Q := by
  refine sl_At.in (fun hM hls => ?_)
  have g1 : sl_rg x1 := hls _ (List.mem_of_getElem? (i := 1) rfl)
  have H := H hM g1
  refine r_aload_n (k := 0) rfl rfl dX10_laysLive_0 ?_
  refine r_iload_n (k := 1) rfl rfl dX10_laysLive_1 ?_
  refine r_callV (g := mX10_manyOf) ckX10 rfl rfl rfl rfl mkX10_manyOf mvX10_manyOf ml_X10_201 ⟨by decide, by decide⟩ rfl (Nat.le_of_ble_eq_true rfl) rfl (ok_i g1 ok_n) dX10_laysLive_2 (sl_afterI (sl_RI.mono (fun y2 M1 gy2 hM1 H => ?_) H))
  refine r_istore_n (ls' := [(2, vI y2), (0, vR 1 0), (1, vI x1)]) gy2 rfl (by decide) rfl dX10_laysLive_5 ?_
  refine r_iconst dX10_laysLive_6 ?_
  refine r_istore_n (ls' := [(3, vI 0), (2, vI y2), (0, vR 1 0), (1, vI x1)]) ⟨by decide, by decide⟩ rfl (by decide) rfl dX10_laysLive_7 ?_
  exact sl_At.sub [2, 3, 1, 0] rfl H
set_option maxHeartbeats 4000000 in
set_option maxRecDepth 10000 in
theorem vX10_laysLive_8 {l : Launch} {M : sl_M} {Q : sl_R} {x1 x2 x3 : Int} (H : sl_RM M → sl_rg x1 → sl_rg x2 → sl_rg x3 → ((x2 < x3) → sl_At l mX10_laysLive 49 [(0, vR 1 0), (1, vI x1), (2, vI x2), (3, vI 1)] [] M Q) ∧ ((¬ (x2 < x3)) → (0 ≤ x1 + x3 ∧ x1 + x3 < 82) ∧ (∀ M3, M3 = sl_wr M 1 30 (x1 + x3) 0 → (∀ M5, M5 = sl_wr M3 1 31 (x1 + x3) (if x3 ≠ 0 then 255 else 3) → (sl_rg (x3 + 1)) ∧ sl_At l mX10_laysLive 8 [(0, vR 1 0), (1, vI x1), (2, vI x2), (3, vI (x3 + 1))] [] M5 Q)))) : sl_At l mX10_laysLive 8 [(0, vR 1 0), (1, vI x1), (2, vI x2), (3, vI x3)] [] M Q := by
  refine sl_At.in (fun hM hls => ?_)
  have g1 : sl_rg x1 := hls _ (List.mem_of_getElem? (i := 1) rfl)
  have g2 : sl_rg x2 := hls _ (List.mem_of_getElem? (i := 2) rfl)
  have g3 : sl_rg x3 := hls _ (List.mem_of_getElem? (i := 3) rfl)
  have H := H hM g1 g2 g3
  refine r_iload_n (k := 3) rfl rfl dX10_laysLive_8 ?_
  refine r_iload_n (k := 2) rfl rfl dX10_laysLive_9 ?_
  refine r_icmp_gt (tgt := 47) g3 g2 dX10_laysLive_10 (by decide) (fun h1 => ?_) (fun h1 => ?_)
  · have H := H.1 h1
    refine r_iconst dX10_laysLive_47 ?_
    refine r_istore_n (ls' := [(3, vI 1), (0, vR 1 0), (1, vI x1), (2, vI x2)]) ⟨by decide, by decide⟩ rfl (by decide) rfl dX10_laysLive_48 ?_
    exact sl_At.sub [1, 2, 3, 0] rfl H
  · have H := H.2 h1
    refine r_aload_n (k := 0) rfl rfl dX10_laysLive_13 ?_
    refine r_getR (k := 29) (o' := 1) (i' := 30) ckX10 rfl rfl (by decide) rfl rfl rfl fl_X10_70 dX10_laysLive_14 ?_
    refine r_iload_n (k := 1) rfl rfl dX10_laysLive_17 ?_
    refine r_iload_n (k := 3) rfl rfl dX10_laysLive_18 ?_
    refine r_iadd dX10_laysLive_19 ?_
    refine r_iconst dX10_laysLive_20 ?_
    obtain ⟨c2, H⟩ := H
    refine r_iast rfl rfl rfl c2 ⟨by decide, by decide⟩ dX10_laysLive_21 ?_
    refine r_mm (fun M3 e3 => ?_)
    have H := H M3 e3
    have hM3 : sl_RM M3 := by rw [e3]; exact sl_wr_RM hM ⟨by decide, by decide⟩
    refine r_aload_n (k := 0) rfl rfl dX10_laysLive_22 ?_
    refine r_getR (k := 30) (o' := 1) (i' := 31) ckX10 rfl rfl (by decide) rfl rfl rfl fl_X10_73 dX10_laysLive_23 ?_
    refine r_iload_n (k := 1) rfl rfl dX10_laysLive_26 ?_
    refine r_iload_n (k := 3) rfl rfl dX10_laysLive_27 ?_
    refine r_iadd dX10_laysLive_28 ?_
    refine r_iload_n (k := 3) rfl rfl dX10_laysLive_29 ?_
    have J : sl_At l mX10_laysLive 40 [(0, vR 1 0), (1, vI x1), (2, vI x2), (3, vI x3)] [vI (if x3 ≠ 0 then 255 else 3), vI (x1 + x3), vR 1 31] M3 Q := by
      refine r_iast rfl rfl rfl c2 (sl_rgite ⟨by decide, by decide⟩ ⟨by decide, by decide⟩) dX10_laysLive_40 ?_
      refine r_mm (fun M5 e5 => ?_)
      have H := H M5 e5
      have hM5 : sl_RM M5 := by rw [e5]; exact sl_wr_RM hM3 (sl_rgite ⟨by decide, by decide⟩ ⟨by decide, by decide⟩)
      obtain ⟨c6, H⟩ := H
      refine r_iinc (k := 3) (ls' := [(3, vI (x3 + 1)), (0, vR 1 0), (1, vI x1), (2, vI x2)]) rfl c6 (by decide) rfl dX10_laysLive_41 ?_
      refine r_goto (tgt := 8) dX10_laysLive_44 (by decide) ?_
      exact sl_At.sub [1, 2, 3, 0] rfl H
    refine r_if_ne (tgt := 37) g3 dX10_laysLive_30 (by decide) (fun h4 => ?_) (fun h4 => ?_)
    · refine r_sipush dX10_laysLive_37 (by decide) ?_
      rw [if_pos h4] at J
      exact J
    · refine r_iconst dX10_laysLive_33 ?_
      refine r_goto (tgt := 40) dX10_laysLive_34 (by decide) ?_
      rw [if_neg h4] at J
      exact J
set_option maxHeartbeats 4000000 in
set_option maxRecDepth 10000 in
theorem vX10_laysLive_49 {l : Launch} {M : sl_M} {Q : sl_R} {x1 x2 x3 : Int} (H : sl_RM M → sl_rg x1 → sl_rg x2 → sl_rg x3 → ((x3 = 0) → Q none M) ∧ ((¬ (x3 = 0)) → (sl_rg (x2 - 1)) ∧ (∀ y3 : Int, y3 = x2 - 1 → sl_At l mX10_laysLive 60 [(0, vR 1 0), (1, vI x1), (2, vI x2), (3, vI 0), (4, vI y3)] [] M Q))) : sl_At l mX10_laysLive 49 [(0, vR 1 0), (1, vI x1), (2, vI x2), (3, vI x3)] [] M Q := by
  refine sl_At.in (fun hM hls => ?_)
  have g1 : sl_rg x1 := hls _ (List.mem_of_getElem? (i := 1) rfl)
  have g2 : sl_rg x2 := hls _ (List.mem_of_getElem? (i := 2) rfl)
  have g3 : sl_rg x3 := hls _ (List.mem_of_getElem? (i := 3) rfl)
  have H := H hM g1 g2 g3
  refine r_iload_n (k := 3) rfl rfl dX10_laysLive_49 ?_
  refine r_if_eq (tgt := 263) g3 dX10_laysLive_50 (by decide) (fun h1 => ?_) (fun h1 => ?_)
  · have H := H.1 h1
    refine r_vret rfl dX10_laysLive_263 ?_
    exact H
  · have H := H.2 h1
    refine r_iconst dX10_laysLive_53 ?_
    refine r_istore_n (ls' := [(3, vI 0), (0, vR 1 0), (1, vI x1), (2, vI x2)]) ⟨by decide, by decide⟩ rfl (by decide) rfl dX10_laysLive_54 ?_
    refine r_iload_n (k := 3) rfl rfl dX10_laysLive_55 ?_
    refine r_iconst dX10_laysLive_56 ?_
    refine r_isub dX10_laysLive_57 ?_
    obtain ⟨c2, H⟩ := H
    refine r_nm (fun y3 fy3 => ?_)
    have H := H y3 fy3
    have gy3 : sl_rg y3 := by rw [fy3]; exact c2
    refine r_istore (ls' := [(4, vI y3), (3, vI 0), (0, vR 1 0), (1, vI x1), (2, vI x2)]) gy3 (by decide) rfl dX10_laysLive_58 ?_
    exact sl_At.sub [2, 3, 4, 1, 0] rfl H
set_option maxHeartbeats 4000000 in
set_option maxRecDepth 10000 in
theorem vX10_laysLive_60 {l : Launch} {M : sl_M} {Q : sl_R} {x1 x2 x3 x4 : Int} (H : sl_RM M → sl_rg x1 → sl_rg x2 → sl_rg x3 → sl_rg x4 → ((x4 < 0) → sl_At l mX10_laysLive 49 [(0, vR 1 0), (1, vI x1), (2, vI x2), (3, vI x3)] [] M Q) ∧ ((¬ (x4 < 0)) → (0 ≤ x1 + x4 ∧ x1 + x4 < 82) ∧ (sl_rg (4 * (x1 + x4))) ∧ (∀ y4 : Int, y4 = 4 * (x1 + x4) → sl_At l mX10_laysLive 84 [(0, vR 1 0), (1, vI x1), (2, vI x2), (3, vI x3), (4, vI x4), (5, vI (M 1 24 (x1 + x4))), (6, vI y4)] [] M Q))) : sl_At l mX10_laysLive 60 [(0, vR 1 0), (1, vI x1), (2, vI x2), (3, vI x3), (4, vI x4)] [] M Q := by
  refine sl_At.in (fun hM hls => ?_)
  have g1 : sl_rg x1 := hls _ (List.mem_of_getElem? (i := 1) rfl)
  have g2 : sl_rg x2 := hls _ (List.mem_of_getElem? (i := 2) rfl)
  have g3 : sl_rg x3 := hls _ (List.mem_of_getElem? (i := 3) rfl)
  have g4 : sl_rg x4 := hls _ (List.mem_of_getElem? (i := 4) rfl)
  have H := H hM g1 g2 g3 g4
  refine r_iload (k := 4) rfl dX10_laysLive_60 ?_
  refine r_if_lt (tgt := 260) g4 dX10_laysLive_62 (by decide) (fun h1 => ?_) (fun h1 => ?_)
  · have H := H.1 h1
    refine r_goto (tgt := 49) dX10_laysLive_260 (by decide) ?_
    exact sl_At.sub [0, 1, 2, 3] rfl H
  · have H := H.2 h1
    refine r_aload_n (k := 0) rfl rfl dX10_laysLive_65 ?_
    refine r_getR (k := 23) (o' := 1) (i' := 24) ckX10 rfl rfl (by decide) rfl rfl rfl fl_X10_52 dX10_laysLive_66 ?_
    refine r_iload_n (k := 1) rfl rfl dX10_laysLive_69 ?_
    refine r_iload (k := 4) rfl dX10_laysLive_70 ?_
    refine r_iadd dX10_laysLive_72 ?_
    obtain ⟨c2, H⟩ := H
    refine r_iald rfl rfl rfl c2 dX10_laysLive_73 ?_
    refine r_istore (ls' := [(5, vI (M 1 24 (x1 + x4))), (0, vR 1 0), (1, vI x1), (2, vI x2), (3, vI x3), (4, vI x4)]) (hM _ _ _) (by decide) rfl dX10_laysLive_74 ?_
    refine r_iconst dX10_laysLive_76 ?_
    refine r_iload_n (k := 2) rfl rfl dX10_laysLive_77 ?_
    refine r_iload (k := 5) rfl dX10_laysLive_78 ?_
    refine r_iadd dX10_laysLive_80 ?_
    refine r_imul dX10_laysLive_81 ?_
    obtain ⟨c3, H⟩ := H
    refine r_nm (fun y4 fy4 => ?_)
    have H := H y4 fy4
    have gy4 : sl_rg y4 := by rw [fy4]; exact c3
    refine r_istore (ls' := [(6, vI y4), (5, vI (M 1 24 (x1 + x4))), (0, vR 1 0), (1, vI x1), (2, vI x2), (3, vI x3), (4, vI x4)]) gy4 (by decide) rfl dX10_laysLive_82 ?_
    exact sl_At.sub [2, 3, 4, 5, 6, 1, 0] rfl H
set_option maxHeartbeats 4000000 in
set_option maxRecDepth 10000 in
theorem vX10_laysLive_84 {l : Launch} {M : sl_M} {Q : sl_R} {x1 x2 x3 x4 x5 x6 : Int} (H : sl_RM M → sl_rg x1 → sl_rg x2 → sl_rg x3 → sl_rg x4 → sl_rg x5 → sl_rg x6 → (0 ≤ x1 + x4 ∧ x1 + x4 < 82) ∧ (sl_rg ((4 * (x1 + x4)) + (M 1 25 (x1 + x4)))) ∧ (((4 * (x1 + x4)) + (M 1 25 (x1 + x4)) ≤ x6) → (∀ y6 : Int, y6 = (if (x3 ≠ 0) ∨ (¬ (x5 = M 1 30 (x1 + x4))) then 1 else 0) → (∀ M7, M7 = sl_wr M 1 30 (x1 + x4) x5 → (sl_rg (x4 + (-1))) ∧ sl_At l mX10_laysLive 60 [(0, vR 1 0), (1, vI x1), (2, vI x2), (3, vI y6), (4, vI (x4 + (-1)))] [] M7 Q))) ∧ ((¬ ((4 * (x1 + x4)) + (M 1 25 (x1 + x4)) ≤ x6)) → (0 ≤ x6 ∧ x6 < 328) ∧ (0 ≤ x1 + (M 1 26 x6) ∧ x1 + (M 1 26 x6) < 82) ∧ (∀ y11 : Int, y11 = ior x5 (iand (M 1 30 (x1 + (M 1 26 x6))) (ixor (M 1 27 x6) (-1))) → (∀ y12 : Int, y12 = iand (M 1 31 (x1 + (M 1 26 x6))) (ior (M 1 31 (x1 + x4)) (M 1 27 x6)) → (∀ y15 : Int, y15 = (if (x3 ≠ 0) ∨ (¬ (y12 = M 1 31 (x1 + (M 1 26 x6)))) then 1 else 0) → (∀ M16, M16 = sl_wr M 1 31 (x1 + (M 1 26 x6)) y12 → (sl_rg (x6 + 1)) ∧ sl_At l mX10_laysLive 84 [(0, vR 1 0), (1, vI x1), (2, vI x2), (3, vI y15), (4, vI x4), (5, vI y11), (6, vI (x6 + 1))] [] M16 Q)))))) : sl_At l mX10_laysLive 84 [(0, vR 1 0), (1, vI x1), (2, vI x2), (3, vI x3), (4, vI x4), (5, vI x5), (6, vI x6)] [] M Q := by
  refine sl_At.in (fun hM hls => ?_)
  have g1 : sl_rg x1 := hls _ (List.mem_of_getElem? (i := 1) rfl)
  have g2 : sl_rg x2 := hls _ (List.mem_of_getElem? (i := 2) rfl)
  have g3 : sl_rg x3 := hls _ (List.mem_of_getElem? (i := 3) rfl)
  have g4 : sl_rg x4 := hls _ (List.mem_of_getElem? (i := 4) rfl)
  have g5 : sl_rg x5 := hls _ (List.mem_of_getElem? (i := 5) rfl)
  have g6 : sl_rg x6 := hls _ (List.mem_of_getElem? (i := 6) rfl)
  have H := H hM g1 g2 g3 g4 g5 g6
  refine r_iload (k := 6) rfl dX10_laysLive_84 ?_
  refine r_iconst dX10_laysLive_86 ?_
  refine r_iload_n (k := 1) rfl rfl dX10_laysLive_87 ?_
  refine r_iload (k := 4) rfl dX10_laysLive_88 ?_
  refine r_iadd dX10_laysLive_90 ?_
  refine r_imul dX10_laysLive_91 ?_
  refine r_aload_n (k := 0) rfl rfl dX10_laysLive_92 ?_
  refine r_getR (k := 24) (o' := 1) (i' := 25) ckX10 rfl rfl (by decide) rfl rfl rfl fl_X10_55 dX10_laysLive_93 ?_
  refine r_iload_n (k := 1) rfl rfl dX10_laysLive_96 ?_
  refine r_iload (k := 4) rfl dX10_laysLive_97 ?_
  refine r_iadd dX10_laysLive_99 ?_
  obtain ⟨c1, H⟩ := H
  refine r_iald rfl rfl rfl c1 dX10_laysLive_100 ?_
  refine r_iadd dX10_laysLive_101 ?_
  obtain ⟨c2, H⟩ := H
  refine r_icmp_ge (tgt := 219) g6 c2 dX10_laysLive_102 (by decide) (fun h3 => ?_) (fun h3 => ?_)
  · have H := H.1 h3
    refine r_iload_n (k := 3) rfl rfl dX10_laysLive_219 ?_
    have J : sl_At l mX10_laysLive 242 [(0, vR 1 0), (1, vI x1), (2, vI x2), (3, vI x3), (4, vI x4), (5, vI x5), (6, vI x6)] [vI (if (x3 ≠ 0) ∨ (¬ (x5 = M 1 30 (x1 + x4))) then 1 else 0)] M Q := by
      refine r_nm (fun y6 fy6 => ?_)
      have H := H y6 fy6
      have gy6 : sl_rg y6 := by rw [fy6]; exact rg_b
      refine r_istore_n (ls' := [(3, vI y6), (0, vR 1 0), (1, vI x1), (2, vI x2), (4, vI x4), (5, vI x5), (6, vI x6)]) gy6 rfl (by decide) rfl dX10_laysLive_242 ?_
      refine r_aload_n (k := 1) rfl rfl dX10_laysLive_243 ?_
      refine r_getR (k := 29) (o' := 1) (i' := 30) ckX10 rfl rfl (by decide) rfl rfl rfl fl_X10_70 dX10_laysLive_244 ?_
      refine r_iload_n (k := 2) rfl rfl dX10_laysLive_247 ?_
      refine r_iload (k := 4) rfl dX10_laysLive_248 ?_
      refine r_iadd dX10_laysLive_250 ?_
      refine r_iload (k := 5) rfl dX10_laysLive_251 ?_
      refine r_iast rfl rfl rfl c1 g5 dX10_laysLive_253 ?_
      refine r_mm (fun M7 e7 => ?_)
      have H := H M7 e7
      have hM7 : sl_RM M7 := by rw [e7]; exact sl_wr_RM hM g5
      obtain ⟨c8, H⟩ := H
      refine r_iinc (k := 4) (ls' := [(4, vI (x4 + (-1))), (3, vI y6), (0, vR 1 0), (1, vI x1), (2, vI x2), (5, vI x5), (6, vI x6)]) rfl c8 (by decide) rfl dX10_laysLive_254 ?_
      refine r_goto (tgt := 60) dX10_laysLive_257 (by decide) ?_
      exact sl_At.sub [2, 3, 4, 1, 0] rfl H
    refine r_if_ne (tgt := 237) g3 dX10_laysLive_220 (by decide) (fun h4 => ?_) (fun h4 => ?_)
    · refine r_iconst dX10_laysLive_237 ?_
      refine r_goto (tgt := 242) dX10_laysLive_238 (by decide) ?_
      rw [if_pos (show (x3 ≠ 0) ∨ (¬ (x5 = M 1 30 (x1 + x4))) by omega)] at J
      exact J
    · refine r_iload (k := 5) rfl dX10_laysLive_223 ?_
      refine r_aload_n (k := 0) rfl rfl dX10_laysLive_225 ?_
      refine r_getR (k := 29) (o' := 1) (i' := 30) ckX10 rfl rfl (by decide) rfl rfl rfl fl_X10_70 dX10_laysLive_226 ?_
      refine r_iload_n (k := 1) rfl rfl dX10_laysLive_229 ?_
      refine r_iload (k := 4) rfl dX10_laysLive_230 ?_
      refine r_iadd dX10_laysLive_232 ?_
      refine r_iald rfl rfl rfl c1 dX10_laysLive_233 ?_
      refine r_icmp_eq (tgt := 241) g5 (hM _ _ _) dX10_laysLive_234 (by decide) (fun h5 => ?_) (fun h5 => ?_)
      · refine r_iconst dX10_laysLive_241 ?_
        rw [if_neg (show ¬ ((x3 ≠ 0) ∨ (¬ (x5 = M 1 30 (x1 + x4)))) by omega)] at J
        exact J
      · refine r_iconst dX10_laysLive_237 ?_
        refine r_goto (tgt := 242) dX10_laysLive_238 (by decide) ?_
        rw [if_pos (show (x3 ≠ 0) ∨ (¬ (x5 = M 1 30 (x1 + x4))) by omega)] at J
        exact J
  · have H := H.2 h3
    refine r_iload (k := 5) rfl dX10_laysLive_105 ?_
    refine r_aload_n (k := 0) rfl rfl dX10_laysLive_107 ?_
    refine r_getR (k := 29) (o' := 1) (i' := 30) ckX10 rfl rfl (by decide) rfl rfl rfl fl_X10_70 dX10_laysLive_108 ?_
    refine r_iload_n (k := 1) rfl rfl dX10_laysLive_111 ?_
    refine r_aload_n (k := 0) rfl rfl dX10_laysLive_112 ?_
    refine r_getR (k := 25) (o' := 1) (i' := 26) ckX10 rfl rfl (by decide) rfl rfl rfl fl_X10_58 dX10_laysLive_113 ?_
    refine r_iload (k := 6) rfl dX10_laysLive_116 ?_
    obtain ⟨c9, H⟩ := H
    refine r_iald rfl rfl rfl c9 dX10_laysLive_118 ?_
    refine r_iadd dX10_laysLive_119 ?_
    obtain ⟨c10, H⟩ := H
    refine r_iald rfl rfl rfl c10 dX10_laysLive_120 ?_
    refine r_aload_n (k := 0) rfl rfl dX10_laysLive_121 ?_
    refine r_getR (k := 26) (o' := 1) (i' := 27) ckX10 rfl rfl (by decide) rfl rfl rfl fl_X10_61 dX10_laysLive_122 ?_
    refine r_iload (k := 6) rfl dX10_laysLive_125 ?_
    refine r_iald rfl rfl rfl c9 dX10_laysLive_127 ?_
    refine r_iconst dX10_laysLive_128 ?_
    refine r_ixor dX10_laysLive_129 ?_
    refine r_iand dX10_laysLive_130 ?_
    refine r_ior dX10_laysLive_131 ?_
    refine r_nm (fun y11 fy11 => ?_)
    have H := H y11 fy11
    have gy11 : sl_rg y11 := by rw [fy11]; exact (rg_ior _ _)
    refine r_istore (ls' := [(5, vI y11), (0, vR 1 0), (1, vI x1), (2, vI x2), (3, vI x3), (4, vI x4), (6, vI x6)]) gy11 (by decide) rfl dX10_laysLive_132 ?_
    refine r_aload_n (k := 1) rfl rfl dX10_laysLive_134 ?_
    refine r_getR (k := 30) (o' := 1) (i' := 31) ckX10 rfl rfl (by decide) rfl rfl rfl fl_X10_73 dX10_laysLive_135 ?_
    refine r_iload_n (k := 2) rfl rfl dX10_laysLive_138 ?_
    refine r_aload_n (k := 1) rfl rfl dX10_laysLive_139 ?_
    refine r_getR (k := 25) (o' := 1) (i' := 26) ckX10 rfl rfl (by decide) rfl rfl rfl fl_X10_58 dX10_laysLive_140 ?_
    refine r_iload (k := 6) rfl dX10_laysLive_143 ?_
    refine r_iald rfl rfl rfl c9 dX10_laysLive_145 ?_
    refine r_iadd dX10_laysLive_146 ?_
    refine r_iald rfl rfl rfl c10 dX10_laysLive_147 ?_
    refine r_aload_n (k := 1) rfl rfl dX10_laysLive_148 ?_
    refine r_getR (k := 30) (o' := 1) (i' := 31) ckX10 rfl rfl (by decide) rfl rfl rfl fl_X10_73 dX10_laysLive_149 ?_
    refine r_iload_n (k := 2) rfl rfl dX10_laysLive_152 ?_
    refine r_iload (k := 5) rfl dX10_laysLive_153 ?_
    refine r_iadd dX10_laysLive_155 ?_
    refine r_iald rfl rfl rfl c1 dX10_laysLive_156 ?_
    refine r_aload_n (k := 1) rfl rfl dX10_laysLive_157 ?_
    refine r_getR (k := 26) (o' := 1) (i' := 27) ckX10 rfl rfl (by decide) rfl rfl rfl fl_X10_61 dX10_laysLive_158 ?_
    refine r_iload (k := 6) rfl dX10_laysLive_161 ?_
    refine r_iald rfl rfl rfl c9 dX10_laysLive_163 ?_
    refine r_ior dX10_laysLive_164 ?_
    refine r_iand dX10_laysLive_165 ?_
    refine r_nm (fun y12 fy12 => ?_)
    have H := H y12 fy12
    have gy12 : sl_rg y12 := by rw [fy12]; exact (rg_iand _ _)
    refine r_istore (ls' := [(7, vI y12), (5, vI y11), (0, vR 1 0), (1, vI x1), (2, vI x2), (3, vI x3), (4, vI x4), (6, vI x6)]) gy12 (by decide) rfl dX10_laysLive_166 ?_
    refine r_iload_n (k := 5) rfl rfl dX10_laysLive_168 ?_
    have J : sl_At l mX10_laysLive 196 [(7, vI y12), (5, vI y11), (0, vR 1 0), (1, vI x1), (2, vI x2), (3, vI x3), (4, vI x4), (6, vI x6)] [vI (if (x3 ≠ 0) ∨ (¬ (y12 = M 1 31 (x1 + (M 1 26 x6)))) then 1 else 0)] M Q := by
      refine r_nm (fun y15 fy15 => ?_)
      have H := H y15 fy15
      have gy15 : sl_rg y15 := by rw [fy15]; exact rg_b
      refine r_istore_n (ls' := [(3, vI y15), (7, vI y12), (5, vI y11), (0, vR 1 0), (1, vI x1), (2, vI x2), (4, vI x4), (6, vI x6)]) gy15 rfl (by decide) rfl dX10_laysLive_196 ?_
      refine r_aload_n (k := 3) rfl rfl dX10_laysLive_197 ?_
      refine r_getR (k := 30) (o' := 1) (i' := 31) ckX10 rfl rfl (by decide) rfl rfl rfl fl_X10_73 dX10_laysLive_198 ?_
      refine r_iload_n (k := 4) rfl rfl dX10_laysLive_201 ?_
      refine r_aload_n (k := 3) rfl rfl dX10_laysLive_202 ?_
      refine r_getR (k := 25) (o' := 1) (i' := 26) ckX10 rfl rfl (by decide) rfl rfl rfl fl_X10_58 dX10_laysLive_203 ?_
      refine r_iload (k := 7) rfl dX10_laysLive_206 ?_
      refine r_iald rfl rfl rfl c9 dX10_laysLive_208 ?_
      refine r_iadd dX10_laysLive_209 ?_
      refine r_iload (k := 1) rfl dX10_laysLive_210 ?_
      refine r_iast rfl rfl rfl c10 gy12 dX10_laysLive_212 ?_
      refine r_mm (fun M16 e16 => ?_)
      have H := H M16 e16
      have hM16 : sl_RM M16 := by rw [e16]; exact sl_wr_RM hM gy12
      obtain ⟨c17, H⟩ := H
      refine r_iinc (k := 7) (ls' := [(6, vI (x6 + 1)), (3, vI y15), (7, vI y12), (5, vI y11), (0, vR 1 0), (1, vI x1), (2, vI x2), (4, vI x4)]) rfl c17 (by decide) rfl dX10_laysLive_213 ?_
      refine r_goto (tgt := 84) dX10_laysLive_216 (by decide) ?_
      exact sl_At.sub [4, 5, 6, 1, 7, 3, 0] rfl H
    refine r_if_ne (tgt := 191) g3 dX10_laysLive_169 (by decide) (fun h13 => ?_) (fun h13 => ?_)
    · refine r_iconst dX10_laysLive_191 ?_
      refine r_goto (tgt := 196) dX10_laysLive_192 (by decide) ?_
      rw [if_pos (show (x3 ≠ 0) ∨ (¬ (y12 = M 1 31 (x1 + (M 1 26 x6)))) by omega)] at J
      exact J
    · refine r_iload (k := 0) rfl dX10_laysLive_172 ?_
      refine r_aload_n (k := 2) rfl rfl dX10_laysLive_174 ?_
      refine r_getR (k := 30) (o' := 1) (i' := 31) ckX10 rfl rfl (by decide) rfl rfl rfl fl_X10_73 dX10_laysLive_175 ?_
      refine r_iload_n (k := 3) rfl rfl dX10_laysLive_178 ?_
      refine r_aload_n (k := 2) rfl rfl dX10_laysLive_179 ?_
      refine r_getR (k := 25) (o' := 1) (i' := 26) ckX10 rfl rfl (by decide) rfl rfl rfl fl_X10_58 dX10_laysLive_180 ?_
      refine r_iload (k := 7) rfl dX10_laysLive_183 ?_
      refine r_iald rfl rfl rfl c9 dX10_laysLive_185 ?_
      refine r_iadd dX10_laysLive_186 ?_
      refine r_iald rfl rfl rfl c10 dX10_laysLive_187 ?_
      refine r_icmp_eq (tgt := 195) gy12 (hM _ _ _) dX10_laysLive_188 (by decide) (fun h14 => ?_) (fun h14 => ?_)
      · refine r_iconst dX10_laysLive_195 ?_
        rw [if_neg (show ¬ ((x3 ≠ 0) ∨ (¬ (y12 = M 1 31 (x1 + (M 1 26 x6))))) by omega)] at J
        exact J
      · refine r_iconst dX10_laysLive_191 ?_
        refine r_goto (tgt := 196) dX10_laysLive_192 (by decide) ?_
        rw [if_pos (show (x3 ≠ 0) ∨ (¬ (y12 = M 1 31 (x1 + (M 1 26 x6)))) by omega)] at J
        exact J
set_option maxHeartbeats 4000000 in
set_option maxRecDepth 10000 in
theorem vX10_laysLive_191 {l : Launch} {M : sl_M} {Q : sl_R} {x1 x2 x4 x5 x6 x7 : Int} (H : sl_RM M → sl_rg x1 → sl_rg x2 → sl_rg x4 → sl_rg x5 → sl_rg x6 → sl_rg x7 → (0 ≤ x6 ∧ x6 < 328) ∧ (0 ≤ x1 + (M 1 26 x6) ∧ x1 + (M 1 26 x6) < 82) ∧ (∀ M3, M3 = sl_wr M 1 31 (x1 + (M 1 26 x6)) x7 → (sl_rg (x6 + 1)) ∧ sl_At l mX10_laysLive 84 [(0, vR 1 0), (1, vI x1), (2, vI x2), (3, vI 1), (4, vI x4), (5, vI x5), (6, vI (x6 + 1))] [] M3 Q)) : sl_At l mX10_laysLive 191 [(0, vR 1 0), (1, vI x1), (2, vI x2), (4, vI x4), (5, vI x5), (6, vI x6), (7, vI x7)] [] M Q := by
  refine sl_At.in (fun hM hls => ?_)
  have g1 : sl_rg x1 := hls _ (List.mem_of_getElem? (i := 1) rfl)
  have g2 : sl_rg x2 := hls _ (List.mem_of_getElem? (i := 2) rfl)
  have g4 : sl_rg x4 := hls _ (List.mem_of_getElem? (i := 3) rfl)
  have g5 : sl_rg x5 := hls _ (List.mem_of_getElem? (i := 4) rfl)
  have g6 : sl_rg x6 := hls _ (List.mem_of_getElem? (i := 5) rfl)
  have g7 : sl_rg x7 := hls _ (List.mem_of_getElem? (i := 6) rfl)
  have H := H hM g1 g2 g4 g5 g6 g7
  refine r_iconst dX10_laysLive_191 ?_
  refine r_goto (tgt := 196) dX10_laysLive_192 (by decide) ?_
  refine r_istore_n (ls' := [(3, vI 1), (0, vR 1 0), (1, vI x1), (2, vI x2), (4, vI x4), (5, vI x5), (6, vI x6), (7, vI x7)]) ⟨by decide, by decide⟩ rfl (by decide) rfl dX10_laysLive_196 ?_
  refine r_aload_n (k := 1) rfl rfl dX10_laysLive_197 ?_
  refine r_getR (k := 30) (o' := 1) (i' := 31) ckX10 rfl rfl (by decide) rfl rfl rfl fl_X10_73 dX10_laysLive_198 ?_
  refine r_iload_n (k := 2) rfl rfl dX10_laysLive_201 ?_
  refine r_aload_n (k := 1) rfl rfl dX10_laysLive_202 ?_
  refine r_getR (k := 25) (o' := 1) (i' := 26) ckX10 rfl rfl (by decide) rfl rfl rfl fl_X10_58 dX10_laysLive_203 ?_
  refine r_iload (k := 6) rfl dX10_laysLive_206 ?_
  obtain ⟨c1, H⟩ := H
  refine r_iald rfl rfl rfl c1 dX10_laysLive_208 ?_
  refine r_iadd dX10_laysLive_209 ?_
  refine r_iload (k := 7) rfl dX10_laysLive_210 ?_
  obtain ⟨c2, H⟩ := H
  refine r_iast rfl rfl rfl c2 g7 dX10_laysLive_212 ?_
  refine r_mm (fun M3 e3 => ?_)
  have H := H M3 e3
  have hM3 : sl_RM M3 := by rw [e3]; exact sl_wr_RM hM g7
  obtain ⟨c4, H⟩ := H
  refine r_iinc (k := 6) (ls' := [(6, vI (x6 + 1)), (3, vI 1), (0, vR 1 0), (1, vI x1), (2, vI x2), (4, vI x4), (5, vI x5), (7, vI x7)]) rfl c4 (by decide) rfl dX10_laysLive_213 ?_
  refine r_goto (tgt := 84) dX10_laysLive_216 (by decide) ?_
  exact sl_At.sub [2, 3, 4, 1, 5, 6, 0] rfl H
theorem eX10_laysLive {l : Launch} {M : sl_M} {Q : sl_R} {x1 : Int} (k : sl_At l mX10_laysLive 0 [(0, vR 1 0), (1, vI x1)] [] M Q) : sl_Runs l mX10_laysLive [vR 1 0, vI x1] M Q := sl_Runs.of (ls := [(0, vR 1 0), (1, vI x1)]) rfl rfl (fun _ => rfl) (fun _ => Nat.le_of_ble_eq_true rfl) rfl (k)
theorem dX10_lays_0 : decode cX10_lays 0 = .ok (.iconst 0, 1) := by decide +kernel
theorem dX10_lays_1 : decode cX10_lays 1 = .ok (.istore_n 1, 1) := by decide +kernel
theorem dX10_lays_2 : decode cX10_lays 2 = .ok (.iload_n 1, 1) := by decide +kernel
theorem dX10_lays_3 : decode cX10_lays 3 = .ok (.bipush 41, 2) := by decide +kernel
theorem dX10_lays_5 : decode cX10_lays 5 = .ok (.if_icmp .gt 42, 3) := by decide +kernel
theorem dX10_lays_8 : decode cX10_lays 8 = .ok (.aload_n 0, 1) := by decide +kernel
theorem dX10_lays_9 : decode cX10_lays 9 = .ok (.iload_n 1, 1) := by decide +kernel
theorem dX10_lays_10 : decode cX10_lays 10 = .ok (.invokevirtual 233, 3) := by decide +kernel
theorem dX10_lays_13 : decode cX10_lays 13 = .ok (.iconst 0, 1) := by decide +kernel
theorem dX10_lays_14 : decode cX10_lays 14 = .ok (.istore_n 2, 1) := by decide +kernel
theorem dX10_lays_15 : decode cX10_lays 15 = .ok (.iload_n 2, 1) := by decide +kernel
theorem dX10_lays_16 : decode cX10_lays 16 = .ok (.aload_n 0, 1) := by decide +kernel
theorem dX10_lays_17 : decode cX10_lays 17 = .ok (.iload_n 1, 1) := by decide +kernel
theorem dX10_lays_18 : decode cX10_lays 18 = .ok (.invokevirtual 201, 3) := by decide +kernel
theorem dX10_lays_21 : decode cX10_lays 21 = .ok (.if_icmp .ge 15, 3) := by decide +kernel
theorem dX10_lays_24 : decode cX10_lays 24 = .ok (.aload_n 0, 1) := by decide +kernel
theorem dX10_lays_25 : decode cX10_lays 25 = .ok (.iload_n 1, 1) := by decide +kernel
theorem dX10_lays_26 : decode cX10_lays 26 = .ok (.iload_n 2, 1) := by decide +kernel
theorem dX10_lays_27 : decode cX10_lays 27 = .ok (.invokevirtual 237, 3) := by decide +kernel
theorem dX10_lays_30 : decode cX10_lays 30 = .ok (.iinc 2 1, 3) := by decide +kernel
theorem dX10_lays_33 : decode cX10_lays 33 = .ok (.goto (-18), 3) := by decide +kernel
theorem dX10_lays_36 : decode cX10_lays 36 = .ok (.aload_n 0, 1) := by decide +kernel
theorem dX10_lays_37 : decode cX10_lays 37 = .ok (.iload_n 1, 1) := by decide +kernel
theorem dX10_lays_38 : decode cX10_lays 38 = .ok (.invokevirtual 240, 3) := by decide +kernel
theorem dX10_lays_41 : decode cX10_lays 41 = .ok (.iinc 1 41, 3) := by decide +kernel
theorem dX10_lays_44 : decode cX10_lays 44 = .ok (.goto (-42), 3) := by decide +kernel
theorem dX10_lays_47 : decode cX10_lays 47 = .ok (.return_, 1) := by decide +kernel
set_option maxHeartbeats 4000000 in
set_option maxRecDepth 10000 in
theorem vX10_lays_0 {l : Launch} {M : sl_M} {Q : sl_R} (H : sl_RM M → sl_At l mX10_lays 2 [(0, vR 1 0), (1, vI 0)] [] M Q) : sl_At l mX10_lays 0 [(0, vR 1 0)] [] M Q := by
  refine sl_At.in (fun hM hls => ?_)
  have H := H hM
  refine r_iconst dX10_lays_0 ?_
  refine r_istore_n (ls' := [(1, vI 0), (0, vR 1 0)]) ⟨by decide, by decide⟩ rfl (by decide) rfl dX10_lays_1 ?_
  exact sl_At.sub [1, 0] rfl H
set_option maxHeartbeats 4000000 in
set_option maxRecDepth 10000 in
theorem vX10_lays_2 {l : Launch} {M : sl_M} {Q : sl_R} {x1 : Int} (H : sl_RM M → sl_rg x1 → ((41 < x1) → Q none M) ∧ ((¬ (41 < x1)) → sl_RV l mX10_laysStatements [vR 1 0, vI x1] M (fun M2 => sl_At l mX10_lays 15 [(0, vR 1 0), (1, vI x1), (2, vI 0)] [] M2 Q))) : sl_At l mX10_lays 2 [(0, vR 1 0), (1, vI x1)] [] M Q := by
  refine sl_At.in (fun hM hls => ?_)
  have g1 : sl_rg x1 := hls _ (List.mem_of_getElem? (i := 1) rfl)
  have H := H hM g1
  refine r_iload_n (k := 1) rfl rfl dX10_lays_2 ?_
  refine r_bipush dX10_lays_3 (by decide) ?_
  refine r_icmp_gt (tgt := 47) g1 ⟨by decide, by decide⟩ dX10_lays_5 (by decide) (fun h1 => ?_) (fun h1 => ?_)
  · have H := H.1 h1
    refine r_vret rfl dX10_lays_47 ?_
    exact H
  · have H := H.2 h1
    refine r_aload_n (k := 0) rfl rfl dX10_lays_8 ?_
    refine r_iload_n (k := 1) rfl rfl dX10_lays_9 ?_
    refine r_callV (g := mX10_laysStatements) ckX10 rfl rfl rfl rfl mkX10_laysStatements mvX10_laysStatements ml_X10_233 ⟨by decide, by decide⟩ rfl (Nat.le_of_ble_eq_true rfl) rfl (ok_i g1 ok_n) dX10_lays_10 (sl_afterV (sl_RV.mono (fun M2 hM2 H => ?_) H))
    refine r_iconst dX10_lays_13 ?_
    refine r_istore_n (ls' := [(2, vI 0), (0, vR 1 0), (1, vI x1)]) ⟨by decide, by decide⟩ rfl (by decide) rfl dX10_lays_14 ?_
    exact sl_At.sub [1, 2, 0] rfl H
set_option maxHeartbeats 4000000 in
set_option maxRecDepth 10000 in
theorem vX10_lays_15 {l : Launch} {M : sl_M} {Q : sl_R} {x1 x2 : Int} (H : sl_RM M → sl_rg x1 → sl_rg x2 → sl_RI l mX10_manyOf [vR 1 0, vI x1] M (fun y2 M1 => ((y2 ≤ x2) → sl_RV l mX10_laysLive [vR 1 0, vI x1] M1 (fun M4 => (sl_rg (x1 + 41)) ∧ sl_At l mX10_lays 2 [(0, vR 1 0), (1, vI (x1 + 41))] [] M4 Q)) ∧ ((¬ (y2 ≤ x2)) → sl_RV l mX10_laysWays [vR 1 0, vI x1, vI x2] M1 (fun M6 => (sl_rg (x2 + 1)) ∧ sl_At l mX10_lays 15 [(0, vR 1 0), (1, vI x1), (2, vI (x2 + 1))] [] M6 Q)))) : sl_At l mX10_lays 15 [(0, vR 1 0), (1, vI x1), (2, vI x2)] [] M Q := by
  refine sl_At.in (fun hM hls => ?_)
  have g1 : sl_rg x1 := hls _ (List.mem_of_getElem? (i := 1) rfl)
  have g2 : sl_rg x2 := hls _ (List.mem_of_getElem? (i := 2) rfl)
  have H := H hM g1 g2
  refine r_iload_n (k := 2) rfl rfl dX10_lays_15 ?_
  refine r_aload_n (k := 0) rfl rfl dX10_lays_16 ?_
  refine r_iload_n (k := 1) rfl rfl dX10_lays_17 ?_
  refine r_callV (g := mX10_manyOf) ckX10 rfl rfl rfl rfl mkX10_manyOf mvX10_manyOf ml_X10_201 ⟨by decide, by decide⟩ rfl (Nat.le_of_ble_eq_true rfl) rfl (ok_i g1 ok_n) dX10_lays_18 (sl_afterI (sl_RI.mono (fun y2 M1 gy2 hM1 H => ?_) H))
  refine r_icmp_ge (tgt := 36) g2 gy2 dX10_lays_21 (by decide) (fun h3 => ?_) (fun h3 => ?_)
  · have H := H.1 h3
    refine r_aload_n (k := 0) rfl rfl dX10_lays_36 ?_
    refine r_iload_n (k := 1) rfl rfl dX10_lays_37 ?_
    refine r_callV (g := mX10_laysLive) ckX10 rfl rfl rfl rfl mkX10_laysLive mvX10_laysLive ml_X10_240 ⟨by decide, by decide⟩ rfl (Nat.le_of_ble_eq_true rfl) rfl (ok_i g1 ok_n) dX10_lays_38 (sl_afterV (sl_RV.mono (fun M4 hM4 H => ?_) H))
    obtain ⟨c5, H⟩ := H
    refine r_iinc (k := 1) (ls' := [(1, vI (x1 + 41)), (0, vR 1 0), (2, vI x2)]) rfl c5 (by decide) rfl dX10_lays_41 ?_
    refine r_goto (tgt := 2) dX10_lays_44 (by decide) ?_
    exact sl_At.sub [1, 0] rfl H
  · have H := H.2 h3
    refine r_aload_n (k := 0) rfl rfl dX10_lays_24 ?_
    refine r_iload_n (k := 1) rfl rfl dX10_lays_25 ?_
    refine r_iload_n (k := 2) rfl rfl dX10_lays_26 ?_
    refine r_callV (g := mX10_laysWays) ckX10 rfl rfl rfl rfl mkX10_laysWays mvX10_laysWays ml_X10_237 ⟨by decide, by decide⟩ rfl (Nat.le_of_ble_eq_true rfl) rfl (ok_i g1 (ok_i g2 ok_n)) dX10_lays_27 (sl_afterV (sl_RV.mono (fun M6 hM6 H => ?_) H))
    obtain ⟨c7, H⟩ := H
    refine r_iinc (k := 2) (ls' := [(2, vI (x2 + 1)), (0, vR 1 0), (1, vI x1)]) rfl c7 (by decide) rfl dX10_lays_30 ?_
    refine r_goto (tgt := 15) dX10_lays_33 (by decide) ?_
    exact sl_At.sub [1, 2, 0] rfl H
theorem eX10_lays {l : Launch} {M : sl_M} {Q : sl_R}  (k : sl_At l mX10_lays 0 [(0, vR 1 0)] [] M Q) : sl_Runs l mX10_lays [vR 1 0] M Q := sl_Runs.of (ls := [(0, vR 1 0)]) rfl rfl (fun _ => rfl) (fun _ => Nat.le_of_ble_eq_true rfl) rfl (k)
theorem dX10_isStatement_0 : decode cX10_isStatement 0 = .ok (.iload_n 1, 1) := by decide +kernel
theorem dX10_isStatement_1 : decode cX10_isStatement 1 = .ok (.iconst 0, 1) := by decide +kernel
theorem dX10_isStatement_2 : decode cX10_isStatement 2 = .ok (.aload_n 0, 1) := by decide +kernel
theorem dX10_isStatement_3 : decode cX10_isStatement 3 = .ok (.iconst 0, 1) := by decide +kernel
theorem dX10_isStatement_4 : decode cX10_isStatement 4 = .ok (.invokevirtual 201, 3) := by decide +kernel
theorem dX10_isStatement_7 : decode cX10_isStatement 7 = .ok (.iconst 1, 1) := by decide +kernel
theorem dX10_isStatement_8 : decode cX10_isStatement 8 = .ok (.isub, 1) := by decide +kernel
theorem dX10_isStatement_9 : decode cX10_isStatement 9 = .ok (.invokestatic 135, 3) := by decide +kernel
theorem dX10_isStatement_12 : decode cX10_isStatement 12 = .ok (.ireturn, 1) := by decide +kernel
set_option maxHeartbeats 4000000 in
set_option maxRecDepth 10000 in
theorem vX10_isStatement_0 {l : Launch} {M : sl_M} {Q : sl_R} {x1 : Int} (H : sl_RM M → sl_rg x1 → sl_RI l mX10_manyOf [vR 1 0, vI 0] M (fun y2 M1 => (sl_rg (y2 - 1)) ∧ Q (some (vI (if 0 ≤ x1 ∧ x1 ≤ (y2 - 1) then 1 else 0))) M1)) : sl_At l mX10_isStatement 0 [(0, vR 1 0), (1, vI x1)] [] M Q := by
  refine sl_At.in (fun hM hls => ?_)
  have g1 : sl_rg x1 := hls _ (List.mem_of_getElem? (i := 1) rfl)
  have H := H hM g1
  refine r_iload_n (k := 1) rfl rfl dX10_isStatement_0 ?_
  refine r_iconst dX10_isStatement_1 ?_
  refine r_aload_n (k := 0) rfl rfl dX10_isStatement_2 ?_
  refine r_iconst dX10_isStatement_3 ?_
  refine r_callV (g := mX10_manyOf) ckX10 rfl rfl rfl rfl mkX10_manyOf mvX10_manyOf ml_X10_201 ⟨by decide, by decide⟩ rfl (Nat.le_of_ble_eq_true rfl) rfl (ok_i ⟨by decide, by decide⟩ ok_n) dX10_isStatement_4 (sl_afterI (sl_RI.mono (fun y2 M1 gy2 hM1 H => ?_) H))
  refine r_iconst dX10_isStatement_7 ?_
  refine r_isub dX10_isStatement_8 ?_
  obtain ⟨c3, H⟩ := H
  refine r_callS (g := mX10_in) rfl mkX10_in msX10_in ml_X10_135 ⟨by decide, by decide⟩ rfl (Nat.le_of_ble_eq_true rfl) rfl (ok_i g1 (ok_i ⟨by decide, by decide⟩ (ok_i c3 ok_n))) dX10_isStatement_9 (sl_afterI (sl_RI.by kX10_in ?_))
  refine r_zret rfl b_01 dX10_isStatement_12 ?_
  exact H
theorem eX10_isStatement {l : Launch} {M : sl_M} {Q : sl_R} {x1 : Int} (k : sl_At l mX10_isStatement 0 [(0, vR 1 0), (1, vI x1)] [] M Q) : sl_Runs l mX10_isStatement [vR 1 0, vI x1] M Q := sl_Runs.of (ls := [(0, vR 1 0), (1, vI x1)]) rfl rfl (fun _ => rfl) (fun _ => Nat.le_of_ble_eq_true rfl) rfl (k)
theorem dX10_isSpan_0 : decode cX10_isSpan 0 = .ok (.aload_n 0, 1) := by decide +kernel
theorem dX10_isSpan_1 : decode cX10_isSpan 1 = .ok (.iload_n 1, 1) := by decide +kernel
theorem dX10_isSpan_2 : decode cX10_isSpan 2 = .ok (.invokevirtual 243, 3) := by decide +kernel
theorem dX10_isSpan_5 : decode cX10_isSpan 5 = .ok (.ifCond .eq 30, 3) := by decide +kernel
theorem dX10_isSpan_8 : decode cX10_isSpan 8 = .ok (.aload_n 0, 1) := by decide +kernel
theorem dX10_isSpan_9 : decode cX10_isSpan 9 = .ok (.iload_n 2, 1) := by decide +kernel
theorem dX10_isSpan_10 : decode cX10_isSpan 10 = .ok (.invokevirtual 243, 3) := by decide +kernel
theorem dX10_isSpan_13 : decode cX10_isSpan 13 = .ok (.ifCond .eq 22, 3) := by decide +kernel
theorem dX10_isSpan_16 : decode cX10_isSpan 16 = .ok (.iload_n 1, 1) := by decide +kernel
theorem dX10_isSpan_17 : decode cX10_isSpan 17 = .ok (.iload_n 2, 1) := by decide +kernel
theorem dX10_isSpan_18 : decode cX10_isSpan 18 = .ok (.if_icmp .gt 17, 3) := by decide +kernel
theorem dX10_isSpan_21 : decode cX10_isSpan 21 = .ok (.aload_n 0, 1) := by decide +kernel
theorem dX10_isSpan_22 : decode cX10_isSpan 22 = .ok (.iconst 0, 1) := by decide +kernel
theorem dX10_isSpan_23 : decode cX10_isSpan 23 = .ok (.iload_n 1, 1) := by decide +kernel
theorem dX10_isSpan_24 : decode cX10_isSpan 24 = .ok (.iload_n 2, 1) := by decide +kernel
theorem dX10_isSpan_25 : decode cX10_isSpan 25 = .ok (.invokevirtual 204, 3) := by decide +kernel
theorem dX10_isSpan_28 : decode cX10_isSpan 28 = .ok (.ifCond .eq 7, 3) := by decide +kernel
theorem dX10_isSpan_31 : decode cX10_isSpan 31 = .ok (.iconst 1, 1) := by decide +kernel
theorem dX10_isSpan_32 : decode cX10_isSpan 32 = .ok (.goto 4, 3) := by decide +kernel
theorem dX10_isSpan_35 : decode cX10_isSpan 35 = .ok (.iconst 0, 1) := by decide +kernel
theorem dX10_isSpan_36 : decode cX10_isSpan 36 = .ok (.ireturn, 1) := by decide +kernel
set_option maxHeartbeats 4000000 in
set_option maxRecDepth 10000 in
theorem vX10_isSpan_0 {l : Launch} {M : sl_M} {Q : sl_R} {x1 x2 : Int} (H : sl_RM M → sl_rg x1 → sl_rg x2 → sl_RI l mX10_isStatement [vR 1 0, vI x1] M (fun y2 M1 => ((y2 = 0) → Q (some (vI 0)) M1) ∧ ((¬ (y2 = 0)) → sl_RI l mX10_isStatement [vR 1 0, vI x2] M1 (fun y5 M4 => ((y5 = 0) → Q (some (vI 0)) M4) ∧ ((¬ (y5 = 0)) → ((x2 < x1) → Q (some (vI 0)) M4) ∧ ((¬ (x2 < x1)) → sl_RI l mX10_areOfBlock [vR 1 0, vI 0, vI x1, vI x2] M4 (fun y9 M8 => Q (some (vI (if ¬ (y9 = 0) then 1 else 0))) M8))))))) : sl_At l mX10_isSpan 0 [(0, vR 1 0), (1, vI x1), (2, vI x2)] [] M Q := by
  refine sl_At.in (fun hM hls => ?_)
  have g1 : sl_rg x1 := hls _ (List.mem_of_getElem? (i := 1) rfl)
  have g2 : sl_rg x2 := hls _ (List.mem_of_getElem? (i := 2) rfl)
  have H := H hM g1 g2
  refine r_aload_n (k := 0) rfl rfl dX10_isSpan_0 ?_
  refine r_iload_n (k := 1) rfl rfl dX10_isSpan_1 ?_
  refine r_callV (g := mX10_isStatement) ckX10 rfl rfl rfl rfl mkX10_isStatement mvX10_isStatement ml_X10_243 ⟨by decide, by decide⟩ rfl (Nat.le_of_ble_eq_true rfl) rfl (ok_i g1 ok_n) dX10_isSpan_2 (sl_afterI (sl_RI.mono (fun y2 M1 gy2 hM1 H => ?_) H))
  refine r_if_eq (tgt := 35) gy2 dX10_isSpan_5 (by decide) (fun h3 => ?_) (fun h3 => ?_)
  · have H := H.1 h3
    refine r_iconst dX10_isSpan_35 ?_
    refine r_zret rfl (Or.inl rfl) dX10_isSpan_36 ?_
    exact H
  · have H := H.2 h3
    refine r_aload_n (k := 0) rfl rfl dX10_isSpan_8 ?_
    refine r_iload_n (k := 2) rfl rfl dX10_isSpan_9 ?_
    refine r_callV (g := mX10_isStatement) ckX10 rfl rfl rfl rfl mkX10_isStatement mvX10_isStatement ml_X10_243 ⟨by decide, by decide⟩ rfl (Nat.le_of_ble_eq_true rfl) rfl (ok_i g2 ok_n) dX10_isSpan_10 (sl_afterI (sl_RI.mono (fun y5 M4 gy5 hM4 H => ?_) H))
    refine r_if_eq (tgt := 35) gy5 dX10_isSpan_13 (by decide) (fun h6 => ?_) (fun h6 => ?_)
    · have H := H.1 h6
      refine r_iconst dX10_isSpan_35 ?_
      refine r_zret rfl (Or.inl rfl) dX10_isSpan_36 ?_
      exact H
    · have H := H.2 h6
      refine r_iload_n (k := 1) rfl rfl dX10_isSpan_16 ?_
      refine r_iload_n (k := 2) rfl rfl dX10_isSpan_17 ?_
      refine r_icmp_gt (tgt := 35) g1 g2 dX10_isSpan_18 (by decide) (fun h7 => ?_) (fun h7 => ?_)
      · have H := H.1 h7
        refine r_iconst dX10_isSpan_35 ?_
        refine r_zret rfl (Or.inl rfl) dX10_isSpan_36 ?_
        exact H
      · have H := H.2 h7
        refine r_aload_n (k := 0) rfl rfl dX10_isSpan_21 ?_
        refine r_iconst dX10_isSpan_22 ?_
        refine r_iload_n (k := 1) rfl rfl dX10_isSpan_23 ?_
        refine r_iload_n (k := 2) rfl rfl dX10_isSpan_24 ?_
        refine r_callV (g := mX10_areOfBlock) ckX10 rfl rfl rfl rfl mkX10_areOfBlock mvX10_areOfBlock ml_X10_204 ⟨by decide, by decide⟩ rfl (Nat.le_of_ble_eq_true rfl) rfl (ok_i ⟨by decide, by decide⟩ (ok_i g1 (ok_i g2 ok_n))) dX10_isSpan_25 (sl_afterI (sl_RI.mono (fun y9 M8 gy9 hM8 H => ?_) H))
        have J : sl_At l mX10_isSpan 36 [(0, vR 1 0), (1, vI x1), (2, vI x2)] [vI (if ¬ (y9 = 0) then 1 else 0)] M8 Q := by
          refine r_zret rfl b_01 dX10_isSpan_36 ?_
          exact H
        refine r_if_eq (tgt := 35) gy9 dX10_isSpan_28 (by decide) (fun h10 => ?_) (fun h10 => ?_)
        · refine r_iconst dX10_isSpan_35 ?_
          rw [if_neg (show ¬ (¬ (y9 = 0)) by omega)] at J
          exact J
        · refine r_iconst dX10_isSpan_31 ?_
          refine r_goto (tgt := 36) dX10_isSpan_32 (by decide) ?_
          rw [if_pos (show ¬ (y9 = 0) by omega)] at J
          exact J
theorem eX10_isSpan {l : Launch} {M : sl_M} {Q : sl_R} {x1 x2 : Int} (k : sl_At l mX10_isSpan 0 [(0, vR 1 0), (1, vI x1), (2, vI x2)] [] M Q) : sl_Runs l mX10_isSpan [vR 1 0, vI x1, vI x2] M Q := sl_Runs.of (ls := [(0, vR 1 0), (1, vI x1), (2, vI x2)]) rfl rfl (fun _ => rfl) (fun _ => Nat.le_of_ble_eq_true rfl) rfl (k)
theorem dX10_leavesBy_0 : decode cX10_leavesBy 0 = .ok (.aload_n 0, 1) := by decide +kernel
theorem dX10_leavesBy_1 : decode cX10_leavesBy 1 = .ok (.getfield 58, 3) := by decide +kernel
theorem dX10_leavesBy_4 : decode cX10_leavesBy 4 = .ok (.iload_n 2, 1) := by decide +kernel
theorem dX10_leavesBy_5 : decode cX10_leavesBy 5 = .ok (.iaload, 1) := by decide +kernel
theorem dX10_leavesBy_6 : decode cX10_leavesBy 6 = .ok (.istore_n 3, 1) := by decide +kernel
theorem dX10_leavesBy_7 : decode cX10_leavesBy 7 = .ok (.aload_n 0, 1) := by decide +kernel
theorem dX10_leavesBy_8 : decode cX10_leavesBy 8 = .ok (.getfield 67, 3) := by decide +kernel
theorem dX10_leavesBy_11 : decode cX10_leavesBy 11 = .ok (.iload_n 2, 1) := by decide +kernel
theorem dX10_leavesBy_12 : decode cX10_leavesBy 12 = .ok (.iaload, 1) := by decide +kernel
theorem dX10_leavesBy_13 : decode cX10_leavesBy 13 = .ok (.iconst (-1), 1) := by decide +kernel
theorem dX10_leavesBy_14 : decode cX10_leavesBy 14 = .ok (.if_icmp .eq 29, 3) := by decide +kernel
theorem dX10_leavesBy_17 : decode cX10_leavesBy 17 = .ok (.aload_n 0, 1) := by decide +kernel
theorem dX10_leavesBy_18 : decode cX10_leavesBy 18 = .ok (.getfield 67, 3) := by decide +kernel
theorem dX10_leavesBy_21 : decode cX10_leavesBy 21 = .ok (.iload_n 2, 1) := by decide +kernel
theorem dX10_leavesBy_22 : decode cX10_leavesBy 22 = .ok (.iaload, 1) := by decide +kernel
theorem dX10_leavesBy_23 : decode cX10_leavesBy 23 = .ok (.aload_n 0, 1) := by decide +kernel
theorem dX10_leavesBy_24 : decode cX10_leavesBy 24 = .ok (.getfield 246, 3) := by decide +kernel
theorem dX10_leavesBy_27 : decode cX10_leavesBy 27 = .ok (.aload_n 0, 1) := by decide +kernel
theorem dX10_leavesBy_28 : decode cX10_leavesBy 28 = .ok (.getfield 249, 3) := by decide +kernel
theorem dX10_leavesBy_31 : decode cX10_leavesBy 31 = .ok (.iconst 1, 1) := by decide +kernel
theorem dX10_leavesBy_32 : decode cX10_leavesBy 32 = .ok (.isub, 1) := by decide +kernel
theorem dX10_leavesBy_33 : decode cX10_leavesBy 33 = .ok (.invokestatic 135, 3) := by decide +kernel
theorem dX10_leavesBy_36 : decode cX10_leavesBy 36 = .ok (.ifCond .eq 7, 3) := by decide +kernel
theorem dX10_leavesBy_39 : decode cX10_leavesBy 39 = .ok (.iconst 1, 1) := by decide +kernel
theorem dX10_leavesBy_40 : decode cX10_leavesBy 40 = .ok (.goto 4, 3) := by decide +kernel
theorem dX10_leavesBy_43 : decode cX10_leavesBy 43 = .ok (.iconst 0, 1) := by decide +kernel
theorem dX10_leavesBy_44 : decode cX10_leavesBy 44 = .ok (.istore 4, 2) := by decide +kernel
theorem dX10_leavesBy_46 : decode cX10_leavesBy 46 = .ok (.aload_n 0, 1) := by decide +kernel
theorem dX10_leavesBy_47 : decode cX10_leavesBy 47 = .ok (.getfield 64, 3) := by decide +kernel
theorem dX10_leavesBy_50 : decode cX10_leavesBy 50 = .ok (.iload_n 2, 1) := by decide +kernel
theorem dX10_leavesBy_51 : decode cX10_leavesBy 51 = .ok (.iaload, 1) := by decide +kernel
theorem dX10_leavesBy_52 : decode cX10_leavesBy 52 = .ok (.iconst 1, 1) := by decide +kernel
theorem dX10_leavesBy_53 : decode cX10_leavesBy 53 = .ok (.if_icmp .eq 15, 3) := by decide +kernel
theorem dX10_leavesBy_56 : decode cX10_leavesBy 56 = .ok (.iload 4, 2) := by decide +kernel
theorem dX10_leavesBy_58 : decode cX10_leavesBy 58 = .ok (.ifCond .ne 10, 3) := by decide +kernel
theorem dX10_leavesBy_61 : decode cX10_leavesBy 61 = .ok (.aload_n 0, 1) := by decide +kernel
theorem dX10_leavesBy_62 : decode cX10_leavesBy 62 = .ok (.getfield 64, 3) := by decide +kernel
theorem dX10_leavesBy_65 : decode cX10_leavesBy 65 = .ok (.iload_n 2, 1) := by decide +kernel
theorem dX10_leavesBy_66 : decode cX10_leavesBy 66 = .ok (.iaload, 1) := by decide +kernel
theorem dX10_leavesBy_67 : decode cX10_leavesBy 67 = .ok (.ireturn, 1) := by decide +kernel
theorem dX10_leavesBy_68 : decode cX10_leavesBy 68 = .ok (.iload_n 3, 1) := by decide +kernel
theorem dX10_leavesBy_69 : decode cX10_leavesBy 69 = .ok (.aload_n 0, 1) := by decide +kernel
theorem dX10_leavesBy_70 : decode cX10_leavesBy 70 = .ok (.getfield 246, 3) := by decide +kernel
theorem dX10_leavesBy_73 : decode cX10_leavesBy 73 = .ok (.aload_n 0, 1) := by decide +kernel
theorem dX10_leavesBy_74 : decode cX10_leavesBy 74 = .ok (.getfield 249, 3) := by decide +kernel
theorem dX10_leavesBy_77 : decode cX10_leavesBy 77 = .ok (.iconst 1, 1) := by decide +kernel
theorem dX10_leavesBy_78 : decode cX10_leavesBy 78 = .ok (.isub, 1) := by decide +kernel
theorem dX10_leavesBy_79 : decode cX10_leavesBy 79 = .ok (.invokestatic 135, 3) := by decide +kernel
theorem dX10_leavesBy_82 : decode cX10_leavesBy 82 = .ok (.ifCond .eq 7, 3) := by decide +kernel
theorem dX10_leavesBy_85 : decode cX10_leavesBy 85 = .ok (.iconst 0, 1) := by decide +kernel
theorem dX10_leavesBy_86 : decode cX10_leavesBy 86 = .ok (.goto 4, 3) := by decide +kernel
theorem dX10_leavesBy_89 : decode cX10_leavesBy 89 = .ok (.iconst 1, 1) := by decide +kernel
theorem dX10_leavesBy_90 : decode cX10_leavesBy 90 = .ok (.ireturn, 1) := by decide +kernel
set_option maxHeartbeats 4000000 in
set_option maxRecDepth 10000 in
theorem vX10_leavesBy_0 {l : Launch} {M : sl_M} {Q : sl_R} {x2 : Int} (H : sl_RM M → sl_rg x2 → (0 ≤ x2 ∧ x2 < 328) ∧ ((M 1 29 x2 = (-1)) → sl_At l mX10_leavesBy 43 [(0, vR 1 0), (2, vI x2), (3, vI (M 1 26 x2))] [] M Q) ∧ ((¬ (M 1 29 x2 = (-1))) → (sl_rg (M 1 0 32 - 1)) ∧ (∀ y5 : Int, y5 = (if (M 1 0 31) ≤ (M 1 29 x2) ∧ (M 1 29 x2) ≤ (M 1 0 32 - 1) then 1 else 0) → ((M 1 28 x2 = 1) → sl_At l mX10_leavesBy 68 [(0, vR 1 0), (3, vI (M 1 26 x2))] [] M Q) ∧ ((¬ (M 1 28 x2 = 1)) → (((M 1 0 31) ≤ (M 1 29 x2) ∧ (M 1 29 x2) ≤ (M 1 0 32 - 1)) → sl_At l mX10_leavesBy 68 [(0, vR 1 0), (3, vI (M 1 26 x2))] [] M Q) ∧ ((¬ ((M 1 0 31) ≤ (M 1 29 x2) ∧ (M 1 29 x2) ≤ (M 1 0 32 - 1))) → Q (some (vI (M 1 28 x2))) M))))) : sl_At l mX10_leavesBy 0 [(0, vR 1 0), (2, vI x2)] [] M Q := by
  refine sl_At.in (fun hM hls => ?_)
  have g2 : sl_rg x2 := hls _ (List.mem_of_getElem? (i := 1) rfl)
  have H := H hM g2
  refine r_aload_n (k := 0) rfl rfl dX10_leavesBy_0 ?_
  refine r_getR (k := 25) (o' := 1) (i' := 26) ckX10 rfl rfl (by decide) rfl rfl rfl fl_X10_58 dX10_leavesBy_1 ?_
  refine r_iload_n (k := 1) rfl rfl dX10_leavesBy_4 ?_
  obtain ⟨c1, H⟩ := H
  refine r_iald rfl rfl rfl c1 dX10_leavesBy_5 ?_
  refine r_istore_n (ls' := [(3, vI (M 1 26 x2)), (0, vR 1 0), (2, vI x2)]) (hM _ _ _) rfl (by decide) rfl dX10_leavesBy_6 ?_
  refine r_aload_n (k := 1) rfl rfl dX10_leavesBy_7 ?_
  refine r_getR (k := 28) (o' := 1) (i' := 29) ckX10 rfl rfl (by decide) rfl rfl rfl fl_X10_67 dX10_leavesBy_8 ?_
  refine r_iload_n (k := 2) rfl rfl dX10_leavesBy_11 ?_
  refine r_iald rfl rfl rfl c1 dX10_leavesBy_12 ?_
  refine r_iconst dX10_leavesBy_13 ?_
  refine r_icmp_eq (tgt := 43) (hM _ _ _) ⟨by decide, by decide⟩ dX10_leavesBy_14 (by decide) (fun h2 => ?_) (fun h2 => ?_)
  · have H := H.1 h2
    exact sl_At.sub [1, 2, 0] rfl H
  · have H := H.2 h2
    refine r_aload_n (k := 1) rfl rfl dX10_leavesBy_17 ?_
    refine r_getR (k := 28) (o' := 1) (i' := 29) ckX10 rfl rfl (by decide) rfl rfl rfl fl_X10_67 dX10_leavesBy_18 ?_
    refine r_iload_n (k := 2) rfl rfl dX10_leavesBy_21 ?_
    refine r_iald rfl rfl rfl c1 dX10_leavesBy_22 ?_
    refine r_aload_n (k := 1) rfl rfl dX10_leavesBy_23 ?_
    refine r_gI (k := 31) (kz := 31) rfl ckX10 rfl rfl (by decide) rfl rfl fl_X10_246 dX10_leavesBy_24 ?_
    refine r_aload_n (k := 1) rfl rfl dX10_leavesBy_27 ?_
    refine r_gI (k := 32) (kz := 32) rfl ckX10 rfl rfl (by decide) rfl rfl fl_X10_249 dX10_leavesBy_28 ?_
    refine r_iconst dX10_leavesBy_31 ?_
    refine r_isub dX10_leavesBy_32 ?_
    obtain ⟨c3, H⟩ := H
    refine r_callS (g := mX10_in) rfl mkX10_in msX10_in ml_X10_135 ⟨by decide, by decide⟩ rfl (Nat.le_of_ble_eq_true rfl) rfl (ok_i (hM _ _ _) (ok_i (hM _ _ _) (ok_i c3 ok_n))) dX10_leavesBy_33 (sl_afterI (sl_RI.by kX10_in ?_))
    have J : sl_At l mX10_leavesBy 44 [(3, vI (M 1 26 x2)), (0, vR 1 0), (2, vI x2)] [vI (if (M 1 0 31) ≤ (M 1 29 x2) ∧ (M 1 29 x2) ≤ (M 1 0 32 - 1) then 1 else 0)] M Q := by
      refine r_nm (fun y5 fy5 => ?_)
      have H := H y5 fy5
      have gy5 : sl_rg y5 := by rw [fy5]; exact rg_b
      refine r_istore (ls' := [(4, vI y5), (3, vI (M 1 26 x2)), (0, vR 1 0), (2, vI x2)]) gy5 (by decide) rfl dX10_leavesBy_44 ?_
      refine r_aload_n (k := 2) rfl rfl dX10_leavesBy_46 ?_
      refine r_getR (k := 27) (o' := 1) (i' := 28) ckX10 rfl rfl (by decide) rfl rfl rfl fl_X10_64 dX10_leavesBy_47 ?_
      refine r_iload_n (k := 3) rfl rfl dX10_leavesBy_50 ?_
      refine r_iald rfl rfl rfl c1 dX10_leavesBy_51 ?_
      refine r_iconst dX10_leavesBy_52 ?_
      refine r_icmp_eq (tgt := 68) (hM _ _ _) ⟨by decide, by decide⟩ dX10_leavesBy_53 (by decide) (fun h6 => ?_) (fun h6 => ?_)
      · have H := H.1 h6
        exact sl_At.sub [2, 1] rfl H
      · have H := H.2 h6
        refine r_iload (k := 0) rfl dX10_leavesBy_56 ?_
        refine r_if_ne (tgt := 68) gy5 dX10_leavesBy_58 (by decide) (fun h7 => ?_) (fun h7 => ?_)
        · have H := H.1 (b_ne0.mp (fun q => h7 (fy5.trans q)))
          exact sl_At.sub [2, 1] rfl H
        · have H := H.2 (b_eq0.mp (fy5.symm.trans (Decidable.of_not_not h7)))
          refine r_aload_n (k := 2) rfl rfl dX10_leavesBy_61 ?_
          refine r_getR (k := 27) (o' := 1) (i' := 28) ckX10 rfl rfl (by decide) rfl rfl rfl fl_X10_64 dX10_leavesBy_62 ?_
          refine r_iload_n (k := 3) rfl rfl dX10_leavesBy_65 ?_
          refine r_iald rfl rfl rfl c1 dX10_leavesBy_66 ?_
          refine r_iret rfl (hM _ _ _) dX10_leavesBy_67 ?_
          exact H
    refine r_if_eq (tgt := 43) rg_b dX10_leavesBy_36 (by decide) (fun h4 => ?_) (fun h4 => ?_)
    · replace h4 := (b_eq0.mp h4)
      refine r_iconst dX10_leavesBy_43 ?_
      rw [if_neg (show ¬ ((M 1 0 31) ≤ (M 1 29 x2) ∧ (M 1 29 x2) ≤ (M 1 0 32 - 1)) by omega)] at J
      exact J
    · replace h4 := (b_ne0.mp h4)
      refine r_iconst dX10_leavesBy_39 ?_
      refine r_goto (tgt := 44) dX10_leavesBy_40 (by decide) ?_
      rw [if_pos (show (M 1 0 31) ≤ (M 1 29 x2) ∧ (M 1 29 x2) ≤ (M 1 0 32 - 1) by omega)] at J
      exact J
set_option maxHeartbeats 4000000 in
set_option maxRecDepth 10000 in
theorem vX10_leavesBy_43 {l : Launch} {M : sl_M} {Q : sl_R} {x2 x3 : Int} (H : sl_RM M → sl_rg x2 → sl_rg x3 → (0 ≤ x2 ∧ x2 < 328) ∧ ((M 1 28 x2 = 1) → sl_At l mX10_leavesBy 68 [(0, vR 1 0), (3, vI x3)] [] M Q) ∧ ((¬ (M 1 28 x2 = 1)) → (((0 : Int) ≠ 0) → sl_At l mX10_leavesBy 68 [(0, vR 1 0), (3, vI x3)] [] M Q) ∧ ((¬ ((0 : Int) ≠ 0)) → Q (some (vI (M 1 28 x2))) M))) : sl_At l mX10_leavesBy 43 [(0, vR 1 0), (2, vI x2), (3, vI x3)] [] M Q := by
  refine sl_At.in (fun hM hls => ?_)
  have g2 : sl_rg x2 := hls _ (List.mem_of_getElem? (i := 1) rfl)
  have g3 : sl_rg x3 := hls _ (List.mem_of_getElem? (i := 2) rfl)
  have H := H hM g2 g3
  refine r_iconst dX10_leavesBy_43 ?_
  refine r_istore (ls' := [(4, vI 0), (0, vR 1 0), (2, vI x2), (3, vI x3)]) ⟨by decide, by decide⟩ (by decide) rfl dX10_leavesBy_44 ?_
  refine r_aload_n (k := 1) rfl rfl dX10_leavesBy_46 ?_
  refine r_getR (k := 27) (o' := 1) (i' := 28) ckX10 rfl rfl (by decide) rfl rfl rfl fl_X10_64 dX10_leavesBy_47 ?_
  refine r_iload_n (k := 2) rfl rfl dX10_leavesBy_50 ?_
  obtain ⟨c1, H⟩ := H
  refine r_iald rfl rfl rfl c1 dX10_leavesBy_51 ?_
  refine r_iconst dX10_leavesBy_52 ?_
  refine r_icmp_eq (tgt := 68) (hM _ _ _) ⟨by decide, by decide⟩ dX10_leavesBy_53 (by decide) (fun h2 => ?_) (fun h2 => ?_)
  · have H := H.1 h2
    exact sl_At.sub [1, 3] rfl H
  · have H := H.2 h2
    refine r_iload (k := 0) rfl dX10_leavesBy_56 ?_
    refine r_if_ne (tgt := 68) ⟨by decide, by decide⟩ dX10_leavesBy_58 (by decide) (fun h3 => ?_) (fun h3 => ?_)
    · have H := H.1 h3
      exact sl_At.sub [1, 3] rfl H
    · have H := H.2 h3
      refine r_aload_n (k := 1) rfl rfl dX10_leavesBy_61 ?_
      refine r_getR (k := 27) (o' := 1) (i' := 28) ckX10 rfl rfl (by decide) rfl rfl rfl fl_X10_64 dX10_leavesBy_62 ?_
      refine r_iload_n (k := 2) rfl rfl dX10_leavesBy_65 ?_
      refine r_iald rfl rfl rfl c1 dX10_leavesBy_66 ?_
      refine r_iret rfl (hM _ _ _) dX10_leavesBy_67 ?_
      exact H
set_option maxHeartbeats 4000000 in
set_option maxRecDepth 10000 in
theorem vX10_leavesBy_68 {l : Launch} {M : sl_M} {Q : sl_R} {x3 : Int} (H : sl_RM M → sl_rg x3 → (sl_rg (M 1 0 32 - 1)) ∧ Q (some (vI (if ¬ ((M 1 0 31) ≤ x3 ∧ x3 ≤ (M 1 0 32 - 1)) then 1 else 0))) M) : sl_At l mX10_leavesBy 68 [(0, vR 1 0), (3, vI x3)] [] M Q := by
  refine sl_At.in (fun hM hls => ?_)
  have g3 : sl_rg x3 := hls _ (List.mem_of_getElem? (i := 1) rfl)
  have H := H hM g3
  refine r_iload_n (k := 1) rfl rfl dX10_leavesBy_68 ?_
  refine r_aload_n (k := 0) rfl rfl dX10_leavesBy_69 ?_
  refine r_gI (k := 31) (kz := 31) rfl ckX10 rfl rfl (by decide) rfl rfl fl_X10_246 dX10_leavesBy_70 ?_
  refine r_aload_n (k := 0) rfl rfl dX10_leavesBy_73 ?_
  refine r_gI (k := 32) (kz := 32) rfl ckX10 rfl rfl (by decide) rfl rfl fl_X10_249 dX10_leavesBy_74 ?_
  refine r_iconst dX10_leavesBy_77 ?_
  refine r_isub dX10_leavesBy_78 ?_
  obtain ⟨c1, H⟩ := H
  refine r_callS (g := mX10_in) rfl mkX10_in msX10_in ml_X10_135 ⟨by decide, by decide⟩ rfl (Nat.le_of_ble_eq_true rfl) rfl (ok_i g3 (ok_i (hM _ _ _) (ok_i c1 ok_n))) dX10_leavesBy_79 (sl_afterI (sl_RI.by kX10_in ?_))
  have J : sl_At l mX10_leavesBy 90 [(0, vR 1 0), (3, vI x3)] [vI (if ¬ ((M 1 0 31) ≤ x3 ∧ x3 ≤ (M 1 0 32 - 1)) then 1 else 0)] M Q := by
    refine r_iret rfl rg_b dX10_leavesBy_90 ?_
    exact H
  refine r_if_eq (tgt := 89) rg_b dX10_leavesBy_82 (by decide) (fun h2 => ?_) (fun h2 => ?_)
  · replace h2 := (b_eq0.mp h2)
    refine r_iconst dX10_leavesBy_89 ?_
    rw [if_pos (show ¬ ((M 1 0 31) ≤ x3 ∧ x3 ≤ (M 1 0 32 - 1)) by omega)] at J
    exact J
  · replace h2 := (b_ne0.mp h2)
    refine r_iconst dX10_leavesBy_85 ?_
    refine r_goto (tgt := 90) dX10_leavesBy_86 (by decide) ?_
    rw [if_neg (show ¬ (¬ ((M 1 0 31) ≤ x3 ∧ x3 ≤ (M 1 0 32 - 1))) by omega)] at J
    exact J
theorem eX10_leavesBy {l : Launch} {M : sl_M} {Q : sl_R} {x1 x2 : Int} (k : sl_At l mX10_leavesBy 0 [(0, vR 1 0), (2, vI x2)] [] M Q) : sl_Runs l mX10_leavesBy [vR 1 0, vI x1, vI x2] M Q := sl_Runs.of (ls := [(0, vR 1 0), (1, vI x1), (2, vI x2)]) rfl rfl (fun _ => rfl) (fun _ => Nat.le_of_ble_eq_true rfl) rfl (sl_At.sub [0, 2] rfl k)
