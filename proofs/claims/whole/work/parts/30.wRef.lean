theorem dX10_bad_0 : decode cX10_bad 0 = .ok (.aload_n 0, 1) := by decide +kernel
theorem dX10_bad_1 : decode cX10_bad 1 = .ok (.dup, 1) := by decide +kernel
theorem dX10_bad_2 : decode cX10_bad 2 = .ok (.getfield 119, 3) := by decide +kernel
theorem dX10_bad_5 : decode cX10_bad 5 = .ok (.iconst 1, 1) := by decide +kernel
theorem dX10_bad_6 : decode cX10_bad 6 = .ok (.iadd, 1) := by decide +kernel
theorem dX10_bad_7 : decode cX10_bad 7 = .ok (.putfield 119, 3) := by decide +kernel
theorem dX10_bad_10 : decode cX10_bad 10 = .ok (.bipush (-2), 2) := by decide +kernel
theorem dX10_bad_12 : decode cX10_bad 12 = .ok (.ireturn, 1) := by decide +kernel
set_option maxHeartbeats 4000000 in
set_option maxRecDepth 10000 in
theorem vX10_bad_0 {l : Launch} {M : sl_M} {Q : sl_R} (H : sl_RM M → (sl_rg (M 1 0 4 + 1)) ∧ (∀ M2, M2 = sl_wr M 1 0 4 (M 1 0 4 + 1) → Q (some (vI (-2))) M2)) : sl_At l mX10_bad 0 [(0, vR 1 0)] [] M Q := by
  refine sl_At.in (fun hM hls => ?_)
  have H := H hM
  refine r_aload_n (k := 0) rfl rfl dX10_bad_0 ?_
  refine r_dup rfl dX10_bad_1 ?_
  refine r_gI (k := 4) (kz := 4) rfl ckX10 rfl rfl (by decide) rfl rfl fl_X10_119 dX10_bad_2 ?_
  refine r_iconst dX10_bad_5 ?_
  refine r_iadd dX10_bad_6 ?_
  obtain ⟨c1, H⟩ := H
  refine r_pI (k := 4) (kz := 4) rfl ckX10 rfl rfl (by decide) rfl rfl rfl rfl fl_X10_119 c1 dX10_bad_7 ?_
  refine r_mm (fun M2 e2 => ?_)
  have H := H M2 e2
  have hM2 : sl_RM M2 := by rw [e2]; exact sl_wr_RM hM c1
  refine r_bipush dX10_bad_10 (by decide) ?_
  refine r_iret rfl ⟨by decide, by decide⟩ dX10_bad_12 ?_
  exact H
theorem eX10_bad {l : Launch} {M : sl_M} {Q : sl_R}  (k : sl_At l mX10_bad 0 [(0, vR 1 0)] [] M Q) : sl_Runs l mX10_bad [vR 1 0] M Q := sl_Runs.of (ls := [(0, vR 1 0)]) rfl rfl (fun _ => rfl) (fun _ => Nat.le_of_ble_eq_true rfl) rfl (k)
theorem dX10_no_0 : decode cX10_no 0 = .ok (.aload_n 0, 1) := by decide +kernel
theorem dX10_no_1 : decode cX10_no 1 = .ok (.dup, 1) := by decide +kernel
theorem dX10_no_2 : decode cX10_no 2 = .ok (.getfield 123, 3) := by decide +kernel
theorem dX10_no_5 : decode cX10_no 5 = .ok (.iconst 1, 1) := by decide +kernel
theorem dX10_no_6 : decode cX10_no 6 = .ok (.iadd, 1) := by decide +kernel
theorem dX10_no_7 : decode cX10_no 7 = .ok (.putfield 123, 3) := by decide +kernel
theorem dX10_no_10 : decode cX10_no 10 = .ok (.bipush (-3), 2) := by decide +kernel
theorem dX10_no_12 : decode cX10_no 12 = .ok (.ireturn, 1) := by decide +kernel
set_option maxHeartbeats 4000000 in
set_option maxRecDepth 10000 in
theorem vX10_no_0 {l : Launch} {M : sl_M} {Q : sl_R} (H : sl_RM M → (sl_rg (M 1 0 5 + 1)) ∧ (∀ M2, M2 = sl_wr M 1 0 5 (M 1 0 5 + 1) → Q (some (vI (-3))) M2)) : sl_At l mX10_no 0 [(0, vR 1 0)] [] M Q := by
  refine sl_At.in (fun hM hls => ?_)
  have H := H hM
  refine r_aload_n (k := 0) rfl rfl dX10_no_0 ?_
  refine r_dup rfl dX10_no_1 ?_
  refine r_gI (k := 5) (kz := 5) rfl ckX10 rfl rfl (by decide) rfl rfl fl_X10_123 dX10_no_2 ?_
  refine r_iconst dX10_no_5 ?_
  refine r_iadd dX10_no_6 ?_
  obtain ⟨c1, H⟩ := H
  refine r_pI (k := 5) (kz := 5) rfl ckX10 rfl rfl (by decide) rfl rfl rfl rfl fl_X10_123 c1 dX10_no_7 ?_
  refine r_mm (fun M2 e2 => ?_)
  have H := H M2 e2
  have hM2 : sl_RM M2 := by rw [e2]; exact sl_wr_RM hM c1
  refine r_bipush dX10_no_10 (by decide) ?_
  refine r_iret rfl ⟨by decide, by decide⟩ dX10_no_12 ?_
  exact H
theorem eX10_no {l : Launch} {M : sl_M} {Q : sl_R}  (k : sl_At l mX10_no 0 [(0, vR 1 0)] [] M Q) : sl_Runs l mX10_no [vR 1 0] M Q := sl_Runs.of (ls := [(0, vR 1 0)]) rfl rfl (fun _ => rfl) (fun _ => Nat.le_of_ble_eq_true rfl) rfl (k)
theorem dX10_full_0 : decode cX10_full 0 = .ok (.aload_n 0, 1) := by decide +kernel
theorem dX10_full_1 : decode cX10_full 1 = .ok (.dup, 1) := by decide +kernel
theorem dX10_full_2 : decode cX10_full 2 = .ok (.getfield 126, 3) := by decide +kernel
theorem dX10_full_5 : decode cX10_full 5 = .ok (.iconst 1, 1) := by decide +kernel
theorem dX10_full_6 : decode cX10_full 6 = .ok (.iadd, 1) := by decide +kernel
theorem dX10_full_7 : decode cX10_full 7 = .ok (.putfield 126, 3) := by decide +kernel
theorem dX10_full_10 : decode cX10_full 10 = .ok (.bipush (-4), 2) := by decide +kernel
theorem dX10_full_12 : decode cX10_full 12 = .ok (.ireturn, 1) := by decide +kernel
set_option maxHeartbeats 4000000 in
set_option maxRecDepth 10000 in
theorem vX10_full_0 {l : Launch} {M : sl_M} {Q : sl_R} (H : sl_RM M → (sl_rg (M 1 0 6 + 1)) ∧ (∀ M2, M2 = sl_wr M 1 0 6 (M 1 0 6 + 1) → Q (some (vI (-4))) M2)) : sl_At l mX10_full 0 [(0, vR 1 0)] [] M Q := by
  refine sl_At.in (fun hM hls => ?_)
  have H := H hM
  refine r_aload_n (k := 0) rfl rfl dX10_full_0 ?_
  refine r_dup rfl dX10_full_1 ?_
  refine r_gI (k := 6) (kz := 6) rfl ckX10 rfl rfl (by decide) rfl rfl fl_X10_126 dX10_full_2 ?_
  refine r_iconst dX10_full_5 ?_
  refine r_iadd dX10_full_6 ?_
  obtain ⟨c1, H⟩ := H
  refine r_pI (k := 6) (kz := 6) rfl ckX10 rfl rfl (by decide) rfl rfl rfl rfl fl_X10_126 c1 dX10_full_7 ?_
  refine r_mm (fun M2 e2 => ?_)
  have H := H M2 e2
  have hM2 : sl_RM M2 := by rw [e2]; exact sl_wr_RM hM c1
  refine r_bipush dX10_full_10 (by decide) ?_
  refine r_iret rfl ⟨by decide, by decide⟩ dX10_full_12 ?_
  exact H
theorem eX10_full {l : Launch} {M : sl_M} {Q : sl_R}  (k : sl_At l mX10_full 0 [(0, vR 1 0)] [] M Q) : sl_Runs l mX10_full [vR 1 0] M Q := sl_Runs.of (ls := [(0, vR 1 0)]) rfl rfl (fun _ => rfl) (fun _ => Nat.le_of_ble_eq_true rfl) rfl (k)
theorem dX10_keepsState_0 : decode cX10_keepsState 0 = .ok (.iconst 0, 1) := by decide +kernel
theorem dX10_keepsState_1 : decode cX10_keepsState 1 = .ok (.istore_n 1, 1) := by decide +kernel
theorem dX10_keepsState_2 : decode cX10_keepsState 2 = .ok (.iload_n 1, 1) := by decide +kernel
theorem dX10_keepsState_3 : decode cX10_keepsState 3 = .ok (.sipush 990, 3) := by decide +kernel
theorem dX10_keepsState_6 : decode cX10_keepsState 6 = .ok (.if_icmp .ge 30, 3) := by decide +kernel
theorem dX10_keepsState_9 : decode cX10_keepsState 9 = .ok (.aload_n 0, 1) := by decide +kernel
theorem dX10_keepsState_10 : decode cX10_keepsState 10 = .ok (.getfield 13, 3) := by decide +kernel
theorem dX10_keepsState_13 : decode cX10_keepsState 13 = .ok (.sipush 990, 3) := by decide +kernel
theorem dX10_keepsState_16 : decode cX10_keepsState 16 = .ok (.aload_n 0, 1) := by decide +kernel
theorem dX10_keepsState_17 : decode cX10_keepsState 17 = .ok (.getfield 129, 3) := by decide +kernel
theorem dX10_keepsState_20 : decode cX10_keepsState 20 = .ok (.imul, 1) := by decide +kernel
theorem dX10_keepsState_21 : decode cX10_keepsState 21 = .ok (.iload_n 1, 1) := by decide +kernel
theorem dX10_keepsState_22 : decode cX10_keepsState 22 = .ok (.iadd, 1) := by decide +kernel
theorem dX10_keepsState_23 : decode cX10_keepsState 23 = .ok (.aload_n 0, 1) := by decide +kernel
theorem dX10_keepsState_24 : decode cX10_keepsState 24 = .ok (.getfield 7, 3) := by decide +kernel
theorem dX10_keepsState_27 : decode cX10_keepsState 27 = .ok (.iload_n 1, 1) := by decide +kernel
theorem dX10_keepsState_28 : decode cX10_keepsState 28 = .ok (.iaload, 1) := by decide +kernel
theorem dX10_keepsState_29 : decode cX10_keepsState 29 = .ok (.iastore, 1) := by decide +kernel
theorem dX10_keepsState_30 : decode cX10_keepsState 30 = .ok (.iinc 1 1, 3) := by decide +kernel
theorem dX10_keepsState_33 : decode cX10_keepsState 33 = .ok (.goto (-31), 3) := by decide +kernel
theorem dX10_keepsState_36 : decode cX10_keepsState 36 = .ok (.aload_n 0, 1) := by decide +kernel
theorem dX10_keepsState_37 : decode cX10_keepsState 37 = .ok (.aload_n 0, 1) := by decide +kernel
theorem dX10_keepsState_38 : decode cX10_keepsState 38 = .ok (.getfield 129, 3) := by decide +kernel
theorem dX10_keepsState_41 : decode cX10_keepsState 41 = .ok (.iconst 1, 1) := by decide +kernel
theorem dX10_keepsState_42 : decode cX10_keepsState 42 = .ok (.iadd, 1) := by decide +kernel
theorem dX10_keepsState_43 : decode cX10_keepsState 43 = .ok (.bipush 6, 2) := by decide +kernel
theorem dX10_keepsState_45 : decode cX10_keepsState 45 = .ok (.irem, 1) := by decide +kernel
theorem dX10_keepsState_46 : decode cX10_keepsState 46 = .ok (.putfield 129, 3) := by decide +kernel
theorem dX10_keepsState_49 : decode cX10_keepsState 49 = .ok (.aload_n 0, 1) := by decide +kernel
theorem dX10_keepsState_50 : decode cX10_keepsState 50 = .ok (.dup, 1) := by decide +kernel
theorem dX10_keepsState_51 : decode cX10_keepsState 51 = .ok (.getfield 132, 3) := by decide +kernel
theorem dX10_keepsState_54 : decode cX10_keepsState 54 = .ok (.aload_n 0, 1) := by decide +kernel
theorem dX10_keepsState_55 : decode cX10_keepsState 55 = .ok (.getfield 132, 3) := by decide +kernel
theorem dX10_keepsState_58 : decode cX10_keepsState 58 = .ok (.bipush 6, 2) := by decide +kernel
theorem dX10_keepsState_60 : decode cX10_keepsState 60 = .ok (.if_icmp .ge 7, 3) := by decide +kernel
theorem dX10_keepsState_63 : decode cX10_keepsState 63 = .ok (.iconst 1, 1) := by decide +kernel
theorem dX10_keepsState_64 : decode cX10_keepsState 64 = .ok (.goto 4, 3) := by decide +kernel
theorem dX10_keepsState_67 : decode cX10_keepsState 67 = .ok (.iconst 0, 1) := by decide +kernel
theorem dX10_keepsState_68 : decode cX10_keepsState 68 = .ok (.iadd, 1) := by decide +kernel
theorem dX10_keepsState_69 : decode cX10_keepsState 69 = .ok (.putfield 132, 3) := by decide +kernel
theorem dX10_keepsState_72 : decode cX10_keepsState 72 = .ok (.return_, 1) := by decide +kernel
set_option maxHeartbeats 4000000 in
set_option maxRecDepth 10000 in
theorem vX10_keepsState_0 {l : Launch} {M : sl_M} {Q : sl_R} (H : sl_RM M → sl_At l mX10_keepsState 2 [(0, vR 1 0), (1, vI 0)] [] M Q) : sl_At l mX10_keepsState 0 [(0, vR 1 0)] [] M Q := by
  refine sl_At.in (fun hM hls => ?_)
  have H := H hM
  refine r_iconst dX10_keepsState_0 ?_
  refine r_istore_n (ls' := [(1, vI 0), (0, vR 1 0)]) ⟨by decide, by decide⟩ rfl (by decide) rfl dX10_keepsState_1 ?_
  exact sl_At.sub [1, 0] rfl H
set_option maxHeartbeats 4000000 in
set_option maxRecDepth 10000 in
theorem vX10_keepsState_2 {l : Launch} {M : sl_M} {Q : sl_R} {x1 : Int} (H : sl_RM M → sl_rg x1 → ((990 ≤ x1) → (∀ M2, M2 = sl_wr M 1 0 3 (irem (M 1 0 3 + 1) 6) → (sl_rg (M2 1 0 2 + (if ¬ (6 ≤ M2 1 0 2) then 1 else 0))) ∧ (∀ M5, M5 = sl_wr M2 1 0 2 (M2 1 0 2 + (if ¬ (6 ≤ M2 1 0 2) then 1 else 0)) → Q none M5))) ∧ ((¬ (990 ≤ x1)) → (0 ≤ x1 ∧ x1 < 990) ∧ (0 ≤ (990 * (M 1 0 3)) + x1 ∧ (990 * (M 1 0 3)) + x1 < 5940) ∧ (∀ M8, M8 = sl_wr M 1 2 ((990 * (M 1 0 3)) + x1) (M 1 1 x1) → (sl_rg (x1 + 1)) ∧ sl_At l mX10_keepsState 2 [(0, vR 1 0), (1, vI (x1 + 1))] [] M8 Q))) : sl_At l mX10_keepsState 2 [(0, vR 1 0), (1, vI x1)] [] M Q := by
  refine sl_At.in (fun hM hls => ?_)
  have g1 : sl_rg x1 := hls _ (List.mem_of_getElem? (i := 1) rfl)
  have H := H hM g1
  refine r_iload_n (k := 1) rfl rfl dX10_keepsState_2 ?_
  refine r_sipush dX10_keepsState_3 (by decide) ?_
  refine r_icmp_ge (tgt := 36) g1 ⟨by decide, by decide⟩ dX10_keepsState_6 (by decide) (fun h1 => ?_) (fun h1 => ?_)
  · have H := H.1 h1
    refine r_aload_n (k := 0) rfl rfl dX10_keepsState_36 ?_
    refine r_aload_n (k := 0) rfl rfl dX10_keepsState_37 ?_
    refine r_gI (k := 3) (kz := 3) rfl ckX10 rfl rfl (by decide) rfl rfl fl_X10_129 dX10_keepsState_38 ?_
    refine r_iconst dX10_keepsState_41 ?_
    refine r_iadd dX10_keepsState_42 ?_
    refine r_bipush dX10_keepsState_43 (by decide) ?_
    refine r_irem ⟨by decide, by decide⟩ (by decide) dX10_keepsState_45 ?_
    refine r_pI (k := 3) (kz := 3) rfl ckX10 rfl rfl (by decide) rfl rfl rfl rfl fl_X10_129 (rg_irem _ _) dX10_keepsState_46 ?_
    refine r_mm (fun M2 e2 => ?_)
    have H := H M2 e2
    have hM2 : sl_RM M2 := by rw [e2]; exact sl_wr_RM hM (rg_irem _ _)
    refine r_aload_n (k := 0) rfl rfl dX10_keepsState_49 ?_
    refine r_dup rfl dX10_keepsState_50 ?_
    refine r_gI (k := 2) (kz := 2) rfl ckX10 rfl rfl (by decide) rfl rfl fl_X10_132 dX10_keepsState_51 ?_
    refine r_aload_n (k := 0) rfl rfl dX10_keepsState_54 ?_
    refine r_gI (k := 2) (kz := 2) rfl ckX10 rfl rfl (by decide) rfl rfl fl_X10_132 dX10_keepsState_55 ?_
    refine r_bipush dX10_keepsState_58 (by decide) ?_
    have J : sl_At l mX10_keepsState 68 [(0, vR 1 0), (1, vI x1)] [vI (if ¬ (6 ≤ M2 1 0 2) then 1 else 0), vI (M2 1 0 2), vR 1 0] M2 Q := by
      refine r_iadd dX10_keepsState_68 ?_
      obtain ⟨c4, H⟩ := H
      refine r_pI (k := 2) (kz := 2) rfl ckX10 rfl rfl (by decide) rfl rfl rfl rfl fl_X10_132 c4 dX10_keepsState_69 ?_
      refine r_mm (fun M5 e5 => ?_)
      have H := H M5 e5
      have hM5 : sl_RM M5 := by rw [e5]; exact sl_wr_RM hM2 c4
      refine r_vret rfl dX10_keepsState_72 ?_
      exact H
    refine r_icmp_ge (tgt := 67) (hM2 _ _ _) ⟨by decide, by decide⟩ dX10_keepsState_60 (by decide) (fun h3 => ?_) (fun h3 => ?_)
    · refine r_iconst dX10_keepsState_67 ?_
      rw [if_neg (show ¬ (¬ (6 ≤ M2 1 0 2)) by omega)] at J
      exact J
    · refine r_iconst dX10_keepsState_63 ?_
      refine r_goto (tgt := 68) dX10_keepsState_64 (by decide) ?_
      rw [if_pos (show ¬ (6 ≤ M2 1 0 2) by omega)] at J
      exact J
  · have H := H.2 h1
    refine r_aload_n (k := 0) rfl rfl dX10_keepsState_9 ?_
    refine r_getR (k := 1) (o' := 1) (i' := 2) ckX10 rfl rfl (by decide) rfl rfl rfl fl_X10_13 dX10_keepsState_10 ?_
    refine r_sipush dX10_keepsState_13 (by decide) ?_
    refine r_aload_n (k := 0) rfl rfl dX10_keepsState_16 ?_
    refine r_gI (k := 3) (kz := 3) rfl ckX10 rfl rfl (by decide) rfl rfl fl_X10_129 dX10_keepsState_17 ?_
    refine r_imul dX10_keepsState_20 ?_
    refine r_iload_n (k := 1) rfl rfl dX10_keepsState_21 ?_
    refine r_iadd dX10_keepsState_22 ?_
    refine r_aload_n (k := 0) rfl rfl dX10_keepsState_23 ?_
    refine r_getR (k := 0) (o' := 1) (i' := 1) ckX10 rfl rfl (by decide) rfl rfl rfl fl_X10_7 dX10_keepsState_24 ?_
    refine r_iload_n (k := 1) rfl rfl dX10_keepsState_27 ?_
    obtain ⟨c6, H⟩ := H
    refine r_iald rfl rfl rfl c6 dX10_keepsState_28 ?_
    obtain ⟨c7, H⟩ := H
    refine r_iast rfl rfl rfl c7 (hM _ _ _) dX10_keepsState_29 ?_
    refine r_mm (fun M8 e8 => ?_)
    have H := H M8 e8
    have hM8 : sl_RM M8 := by rw [e8]; exact sl_wr_RM hM (hM _ _ _)
    obtain ⟨c9, H⟩ := H
    refine r_iinc (k := 1) (ls' := [(1, vI (x1 + 1)), (0, vR 1 0)]) rfl c9 (by decide) rfl dX10_keepsState_30 ?_
    refine r_goto (tgt := 2) dX10_keepsState_33 (by decide) ?_
    exact sl_At.sub [1, 0] rfl H
theorem eX10_keepsState {l : Launch} {M : sl_M} {Q : sl_R}  (k : sl_At l mX10_keepsState 0 [(0, vR 1 0)] [] M Q) : sl_Runs l mX10_keepsState [vR 1 0] M Q := sl_Runs.of (ls := [(0, vR 1 0)]) rfl rfl (fun _ => rfl) (fun _ => Nat.le_of_ble_eq_true rfl) rfl (k)
theorem dX10_type_0 : decode cX10_type 0 = .ok (.iload_n 1, 1) := by decide +kernel
theorem dX10_type_1 : decode cX10_type 1 = .ok (.iconst 0, 1) := by decide +kernel
theorem dX10_type_2 : decode cX10_type 2 = .ok (.bipush 127, 2) := by decide +kernel
theorem dX10_type_4 : decode cX10_type 4 = .ok (.invokestatic 135, 3) := by decide +kernel
theorem dX10_type_7 : decode cX10_type 7 = .ok (.ifCond .ne 8, 3) := by decide +kernel
theorem dX10_type_10 : decode cX10_type 10 = .ok (.aload_n 0, 1) := by decide +kernel
theorem dX10_type_11 : decode cX10_type 11 = .ok (.invokevirtual 139, 3) := by decide +kernel
theorem dX10_type_14 : decode cX10_type 14 = .ok (.ireturn, 1) := by decide +kernel
theorem dX10_type_15 : decode cX10_type 15 = .ok (.aload_n 0, 1) := by decide +kernel
theorem dX10_type_16 : decode cX10_type 16 = .ok (.getfield 143, 3) := by decide +kernel
theorem dX10_type_19 : decode cX10_type 19 = .ok (.sipush 160, 3) := by decide +kernel
theorem dX10_type_22 : decode cX10_type 22 = .ok (.if_icmp .ne 8, 3) := by decide +kernel
theorem dX10_type_25 : decode cX10_type 25 = .ok (.aload_n 0, 1) := by decide +kernel
theorem dX10_type_26 : decode cX10_type 26 = .ok (.invokevirtual 146, 3) := by decide +kernel
theorem dX10_type_29 : decode cX10_type 29 = .ok (.ireturn, 1) := by decide +kernel
theorem dX10_type_30 : decode cX10_type 30 = .ok (.aload_n 0, 1) := by decide +kernel
theorem dX10_type_31 : decode cX10_type 31 = .ok (.getfield 16, 3) := by decide +kernel
theorem dX10_type_34 : decode cX10_type 34 = .ok (.aload_n 0, 1) := by decide +kernel
theorem dX10_type_35 : decode cX10_type 35 = .ok (.getfield 143, 3) := by decide +kernel
theorem dX10_type_38 : decode cX10_type 38 = .ok (.iload_n 1, 1) := by decide +kernel
theorem dX10_type_39 : decode cX10_type 39 = .ok (.iastore, 1) := by decide +kernel
theorem dX10_type_40 : decode cX10_type 40 = .ok (.aload_n 0, 1) := by decide +kernel
theorem dX10_type_41 : decode cX10_type 41 = .ok (.dup, 1) := by decide +kernel
theorem dX10_type_42 : decode cX10_type 42 = .ok (.getfield 143, 3) := by decide +kernel
theorem dX10_type_45 : decode cX10_type 45 = .ok (.iconst 1, 1) := by decide +kernel
theorem dX10_type_46 : decode cX10_type 46 = .ok (.iadd, 1) := by decide +kernel
theorem dX10_type_47 : decode cX10_type 47 = .ok (.putfield 143, 3) := by decide +kernel
theorem dX10_type_50 : decode cX10_type 50 = .ok (.aload_n 0, 1) := by decide +kernel
theorem dX10_type_51 : decode cX10_type 51 = .ok (.getfield 143, 3) := by decide +kernel
theorem dX10_type_54 : decode cX10_type 54 = .ok (.ireturn, 1) := by decide +kernel
set_option maxHeartbeats 4000000 in
set_option maxRecDepth 10000 in
theorem vX10_type_0 {l : Launch} {M : sl_M} {Q : sl_R} {x1 : Int} (H : sl_RM M → sl_rg x1 → ((0 ≤ x1 ∧ x1 ≤ 127) → ((M 1 0 7 ≠ 160) → (0 ≤ M 1 0 7 ∧ M 1 0 7 < 160) ∧ (∀ M4, M4 = sl_wr M 1 9 (M 1 0 7) x1 → (sl_rg (M4 1 0 7 + 1)) ∧ (∀ M6, M6 = sl_wr M4 1 0 7 (M4 1 0 7 + 1) → Q (some (vI (M6 1 0 7))) M6))) ∧ ((¬ (M 1 0 7 ≠ 160)) → sl_RI l mX10_full [vR 1 0] M (fun y8 M7 => Q (some (vI y8)) M7))) ∧ ((¬ (0 ≤ x1 ∧ x1 ≤ 127)) → sl_RI l mX10_bad [vR 1 0] M (fun y10 M9 => Q (some (vI y10)) M9))) : sl_At l mX10_type 0 [(0, vR 1 0), (1, vI x1)] [] M Q := by
  refine sl_At.in (fun hM hls => ?_)
  have g1 : sl_rg x1 := hls _ (List.mem_of_getElem? (i := 1) rfl)
  have H := H hM g1
  refine r_iload_n (k := 1) rfl rfl dX10_type_0 ?_
  refine r_iconst dX10_type_1 ?_
  refine r_bipush dX10_type_2 (by decide) ?_
  refine r_callS (g := mX10_in) rfl mkX10_in msX10_in ml_X10_135 ⟨by decide, by decide⟩ rfl (Nat.le_of_ble_eq_true rfl) rfl (ok_i g1 (ok_i ⟨by decide, by decide⟩ (ok_i ⟨by decide, by decide⟩ ok_n))) dX10_type_4 (sl_afterI (sl_RI.by kX10_in ?_))
  refine r_if_ne (tgt := 15) rg_b dX10_type_7 (by decide) (fun h1 => ?_) (fun h1 => ?_)
  · have H := H.1 (b_ne0.mp h1)
    refine r_aload_n (k := 0) rfl rfl dX10_type_15 ?_
    refine r_gI (k := 7) (kz := 7) rfl ckX10 rfl rfl (by decide) rfl rfl fl_X10_143 dX10_type_16 ?_
    refine r_sipush dX10_type_19 (by decide) ?_
    refine r_icmp_ne (tgt := 30) (hM _ _ _) ⟨by decide, by decide⟩ dX10_type_22 (by decide) (fun h2 => ?_) (fun h2 => ?_)
    · have H := H.1 h2
      refine r_aload_n (k := 0) rfl rfl dX10_type_30 ?_
      refine r_getR (k := 8) (o' := 1) (i' := 9) ckX10 rfl rfl (by decide) rfl rfl rfl fl_X10_16 dX10_type_31 ?_
      refine r_aload_n (k := 0) rfl rfl dX10_type_34 ?_
      refine r_gI (k := 7) (kz := 7) rfl ckX10 rfl rfl (by decide) rfl rfl fl_X10_143 dX10_type_35 ?_
      refine r_iload_n (k := 1) rfl rfl dX10_type_38 ?_
      obtain ⟨c3, H⟩ := H
      refine r_iast rfl rfl rfl c3 g1 dX10_type_39 ?_
      refine r_mm (fun M4 e4 => ?_)
      have H := H M4 e4
      have hM4 : sl_RM M4 := by rw [e4]; exact sl_wr_RM hM g1
      refine r_aload_n (k := 0) rfl rfl dX10_type_40 ?_
      refine r_dup rfl dX10_type_41 ?_
      refine r_gI (k := 7) (kz := 7) rfl ckX10 rfl rfl (by decide) rfl rfl fl_X10_143 dX10_type_42 ?_
      refine r_iconst dX10_type_45 ?_
      refine r_iadd dX10_type_46 ?_
      obtain ⟨c5, H⟩ := H
      refine r_pI (k := 7) (kz := 7) rfl ckX10 rfl rfl (by decide) rfl rfl rfl rfl fl_X10_143 c5 dX10_type_47 ?_
      refine r_mm (fun M6 e6 => ?_)
      have H := H M6 e6
      have hM6 : sl_RM M6 := by rw [e6]; exact sl_wr_RM hM4 c5
      refine r_aload_n (k := 0) rfl rfl dX10_type_50 ?_
      refine r_gI (k := 7) (kz := 7) rfl ckX10 rfl rfl (by decide) rfl rfl fl_X10_143 dX10_type_51 ?_
      refine r_iret rfl (hM6 _ _ _) dX10_type_54 ?_
      exact H
    · have H := H.2 h2
      refine r_aload_n (k := 0) rfl rfl dX10_type_25 ?_
      refine r_callV (g := mX10_full) ckX10 rfl rfl rfl rfl mkX10_full mvX10_full ml_X10_146 ⟨by decide, by decide⟩ rfl (Nat.le_of_ble_eq_true rfl) rfl ok_n dX10_type_26 (sl_afterI (sl_RI.mono (fun y8 M7 gy8 hM7 H => ?_) H))
      refine r_iret rfl gy8 dX10_type_29 ?_
      exact H
  · have H := H.2 (b_eq0.mp (Decidable.of_not_not h1))
    refine r_aload_n (k := 0) rfl rfl dX10_type_10 ?_
    refine r_callV (g := mX10_bad) ckX10 rfl rfl rfl rfl mkX10_bad mvX10_bad ml_X10_139 ⟨by decide, by decide⟩ rfl (Nat.le_of_ble_eq_true rfl) rfl ok_n dX10_type_11 (sl_afterI (sl_RI.mono (fun y10 M9 gy10 hM9 H => ?_) H))
    refine r_iret rfl gy10 dX10_type_14 ?_
    exact H
theorem eX10_type {l : Launch} {M : sl_M} {Q : sl_R} {x1 : Int} (k : sl_At l mX10_type 0 [(0, vR 1 0), (1, vI x1)] [] M Q) : sl_Runs l mX10_type [vR 1 0, vI x1] M Q := sl_Runs.of (ls := [(0, vR 1 0), (1, vI x1)]) rfl rfl (fun _ => rfl) (fun _ => Nat.le_of_ble_eq_true rfl) rfl (k)
theorem dX10_clear_0 : decode cX10_clear 0 = .ok (.aload_n 0, 1) := by decide +kernel
theorem dX10_clear_1 : decode cX10_clear 1 = .ok (.getfield 143, 3) := by decide +kernel
theorem dX10_clear_4 : decode cX10_clear 4 = .ok (.istore_n 1, 1) := by decide +kernel
theorem dX10_clear_5 : decode cX10_clear 5 = .ok (.aload_n 0, 1) := by decide +kernel
theorem dX10_clear_6 : decode cX10_clear 6 = .ok (.iconst 0, 1) := by decide +kernel
theorem dX10_clear_7 : decode cX10_clear 7 = .ok (.putfield 143, 3) := by decide +kernel
theorem dX10_clear_10 : decode cX10_clear 10 = .ok (.iload_n 1, 1) := by decide +kernel
theorem dX10_clear_11 : decode cX10_clear 11 = .ok (.ireturn, 1) := by decide +kernel
set_option maxHeartbeats 4000000 in
set_option maxRecDepth 10000 in
theorem vX10_clear_0 {l : Launch} {M : sl_M} {Q : sl_R} (H : sl_RM M → (∀ M1, M1 = sl_wr M 1 0 7 0 → Q (some (vI (M 1 0 7))) M1)) : sl_At l mX10_clear 0 [(0, vR 1 0)] [] M Q := by
  refine sl_At.in (fun hM hls => ?_)
  have H := H hM
  refine r_aload_n (k := 0) rfl rfl dX10_clear_0 ?_
  refine r_gI (k := 7) (kz := 7) rfl ckX10 rfl rfl (by decide) rfl rfl fl_X10_143 dX10_clear_1 ?_
  refine r_istore_n (ls' := [(1, vI (M 1 0 7)), (0, vR 1 0)]) (hM _ _ _) rfl (by decide) rfl dX10_clear_4 ?_
  refine r_aload_n (k := 1) rfl rfl dX10_clear_5 ?_
  refine r_iconst dX10_clear_6 ?_
  refine r_pI (k := 7) (kz := 7) rfl ckX10 rfl rfl (by decide) rfl rfl rfl rfl fl_X10_143 ⟨by decide, by decide⟩ dX10_clear_7 ?_
  refine r_mm (fun M1 e1 => ?_)
  have H := H M1 e1
  have hM1 : sl_RM M1 := by rw [e1]; exact sl_wr_RM hM ⟨by decide, by decide⟩
  refine r_iload_n (k := 0) rfl rfl dX10_clear_10 ?_
  refine r_iret rfl (hM _ _ _) dX10_clear_11 ?_
  exact H
theorem eX10_clear {l : Launch} {M : sl_M} {Q : sl_R}  (k : sl_At l mX10_clear 0 [(0, vR 1 0)] [] M Q) : sl_Runs l mX10_clear [vR 1 0] M Q := sl_Runs.of (ls := [(0, vR 1 0)]) rfl rfl (fun _ => rfl) (fun _ => Nat.le_of_ble_eq_true rfl) rfl (k)
theorem dX10_look_0 : decode cX10_look 0 = .ok (.aload_n 0, 1) := by decide +kernel
theorem dX10_look_1 : decode cX10_look 1 = .ok (.getfield 149, 3) := by decide +kernel
theorem dX10_look_4 : decode cX10_look 4 = .ok (.aload_n 0, 1) := by decide +kernel
theorem dX10_look_5 : decode cX10_look 5 = .ok (.getfield 143, 3) := by decide +kernel
theorem dX10_look_8 : decode cX10_look 8 = .ok (.if_icmp .ge 30, 3) := by decide +kernel
theorem dX10_look_11 : decode cX10_look 11 = .ok (.aload_n 0, 1) := by decide +kernel
theorem dX10_look_12 : decode cX10_look 12 = .ok (.getfield 16, 3) := by decide +kernel
theorem dX10_look_15 : decode cX10_look 15 = .ok (.aload_n 0, 1) := by decide +kernel
theorem dX10_look_16 : decode cX10_look 16 = .ok (.getfield 149, 3) := by decide +kernel
theorem dX10_look_19 : decode cX10_look 19 = .ok (.iaload, 1) := by decide +kernel
theorem dX10_look_20 : decode cX10_look 20 = .ok (.bipush 32, 2) := by decide +kernel
theorem dX10_look_22 : decode cX10_look 22 = .ok (.if_icmp .ne 16, 3) := by decide +kernel
theorem dX10_look_25 : decode cX10_look 25 = .ok (.aload_n 0, 1) := by decide +kernel
theorem dX10_look_26 : decode cX10_look 26 = .ok (.dup, 1) := by decide +kernel
theorem dX10_look_27 : decode cX10_look 27 = .ok (.getfield 149, 3) := by decide +kernel
theorem dX10_look_30 : decode cX10_look 30 = .ok (.iconst 1, 1) := by decide +kernel
theorem dX10_look_31 : decode cX10_look 31 = .ok (.iadd, 1) := by decide +kernel
theorem dX10_look_32 : decode cX10_look 32 = .ok (.putfield 149, 3) := by decide +kernel
theorem dX10_look_35 : decode cX10_look 35 = .ok (.goto (-35), 3) := by decide +kernel
theorem dX10_look_38 : decode cX10_look 38 = .ok (.aload_n 0, 1) := by decide +kernel
theorem dX10_look_39 : decode cX10_look 39 = .ok (.aload_n 0, 1) := by decide +kernel
theorem dX10_look_40 : decode cX10_look 40 = .ok (.getfield 149, 3) := by decide +kernel
theorem dX10_look_43 : decode cX10_look 43 = .ok (.putfield 152, 3) := by decide +kernel
theorem dX10_look_46 : decode cX10_look 46 = .ok (.aload_n 0, 1) := by decide +kernel
theorem dX10_look_47 : decode cX10_look 47 = .ok (.getfield 149, 3) := by decide +kernel
theorem dX10_look_50 : decode cX10_look 50 = .ok (.aload_n 0, 1) := by decide +kernel
theorem dX10_look_51 : decode cX10_look 51 = .ok (.getfield 143, 3) := by decide +kernel
theorem dX10_look_54 : decode cX10_look 54 = .ok (.if_icmp .ge 15, 3) := by decide +kernel
theorem dX10_look_57 : decode cX10_look 57 = .ok (.aload_n 0, 1) := by decide +kernel
theorem dX10_look_58 : decode cX10_look 58 = .ok (.getfield 16, 3) := by decide +kernel
theorem dX10_look_61 : decode cX10_look 61 = .ok (.aload_n 0, 1) := by decide +kernel
theorem dX10_look_62 : decode cX10_look 62 = .ok (.getfield 149, 3) := by decide +kernel
theorem dX10_look_65 : decode cX10_look 65 = .ok (.iaload, 1) := by decide +kernel
theorem dX10_look_66 : decode cX10_look 66 = .ok (.goto 4, 3) := by decide +kernel
theorem dX10_look_69 : decode cX10_look 69 = .ok (.iconst (-1), 1) := by decide +kernel
theorem dX10_look_70 : decode cX10_look 70 = .ok (.ireturn, 1) := by decide +kernel
set_option maxHeartbeats 4000000 in
set_option maxRecDepth 10000 in
theorem vX10_look_0 {l : Launch} {M : sl_M} {Q : sl_R} (H : sl_RM M → ((M 1 0 7 ≤ M 1 0 9) → (∀ M2, M2 = sl_wr M 1 0 10 (M 1 0 9) → (((¬ (M2 1 0 7 ≤ M2 1 0 9)) → (0 ≤ M2 1 0 9 ∧ M2 1 0 9 < 160))) ∧ Q (some (vI (if M2 1 0 7 ≤ M2 1 0 9 then (-1) else M2 1 9 (M2 1 0 9)))) M2)) ∧ ((¬ (M 1 0 7 ≤ M 1 0 9)) → (0 ≤ M 1 0 9 ∧ M 1 0 9 < 160) ∧ ((M 1 9 (M 1 0 9) ≠ 32) → (∀ M7, M7 = sl_wr M 1 0 10 (M 1 0 9) → (((¬ (M7 1 0 7 ≤ M7 1 0 9)) → (0 ≤ M7 1 0 9 ∧ M7 1 0 9 < 160))) ∧ Q (some (vI (if M7 1 0 7 ≤ M7 1 0 9 then (-1) else M7 1 9 (M7 1 0 9)))) M7)) ∧ ((¬ (M 1 9 (M 1 0 9) ≠ 32)) → (sl_rg (M 1 0 9 + 1)) ∧ (∀ M11, M11 = sl_wr M 1 0 9 (M 1 0 9 + 1) → sl_At l mX10_look 0 [(0, vR 1 0)] [] M11 Q)))) : sl_At l mX10_look 0 [(0, vR 1 0)] [] M Q := by
  refine sl_At.in (fun hM hls => ?_)
  have H := H hM
  refine r_aload_n (k := 0) rfl rfl dX10_look_0 ?_
  refine r_gI (k := 9) (kz := 9) rfl ckX10 rfl rfl (by decide) rfl rfl fl_X10_149 dX10_look_1 ?_
  refine r_aload_n (k := 0) rfl rfl dX10_look_4 ?_
  refine r_gI (k := 7) (kz := 7) rfl ckX10 rfl rfl (by decide) rfl rfl fl_X10_143 dX10_look_5 ?_
  refine r_icmp_ge (tgt := 38) (hM _ _ _) (hM _ _ _) dX10_look_8 (by decide) (fun h1 => ?_) (fun h1 => ?_)
  · have H := H.1 h1
    refine r_aload_n (k := 0) rfl rfl dX10_look_38 ?_
    refine r_aload_n (k := 0) rfl rfl dX10_look_39 ?_
    refine r_gI (k := 9) (kz := 9) rfl ckX10 rfl rfl (by decide) rfl rfl fl_X10_149 dX10_look_40 ?_
    refine r_pI (k := 10) (kz := 10) rfl ckX10 rfl rfl (by decide) rfl rfl rfl rfl fl_X10_152 (hM _ _ _) dX10_look_43 ?_
    refine r_mm (fun M2 e2 => ?_)
    have H := H M2 e2
    have hM2 : sl_RM M2 := by rw [e2]; exact sl_wr_RM hM (hM _ _ _)
    refine r_aload_n (k := 0) rfl rfl dX10_look_46 ?_
    refine r_gI (k := 9) (kz := 9) rfl ckX10 rfl rfl (by decide) rfl rfl fl_X10_149 dX10_look_47 ?_
    refine r_aload_n (k := 0) rfl rfl dX10_look_50 ?_
    refine r_gI (k := 7) (kz := 7) rfl ckX10 rfl rfl (by decide) rfl rfl fl_X10_143 dX10_look_51 ?_
    obtain ⟨K, H⟩ := H
    have J : sl_At l mX10_look 70 [(0, vR 1 0)] [vI (if M2 1 0 7 ≤ M2 1 0 9 then (-1) else M2 1 9 (M2 1 0 9))] M2 Q := by
      refine r_iret rfl (sl_rgite ⟨by decide, by decide⟩ (hM2 _ _ _)) dX10_look_70 ?_
      exact H
    refine r_icmp_ge (tgt := 69) (hM2 _ _ _) (hM2 _ _ _) dX10_look_54 (by decide) (fun h4 => ?_) (fun h4 => ?_)
    · refine r_iconst dX10_look_69 ?_
      rw [if_pos h4] at J
      exact J
    · replace K := K h4
      have c3 := K
      refine r_aload_n (k := 0) rfl rfl dX10_look_57 ?_
      refine r_getR (k := 8) (o' := 1) (i' := 9) ckX10 rfl rfl (by decide) rfl rfl rfl fl_X10_16 dX10_look_58 ?_
      refine r_aload_n (k := 0) rfl rfl dX10_look_61 ?_
      refine r_gI (k := 9) (kz := 9) rfl ckX10 rfl rfl (by decide) rfl rfl fl_X10_149 dX10_look_62 ?_
      refine r_iald rfl rfl rfl c3 dX10_look_65 ?_
      refine r_goto (tgt := 70) dX10_look_66 (by decide) ?_
      rw [if_neg h4] at J
      exact J
  · have H := H.2 h1
    refine r_aload_n (k := 0) rfl rfl dX10_look_11 ?_
    refine r_getR (k := 8) (o' := 1) (i' := 9) ckX10 rfl rfl (by decide) rfl rfl rfl fl_X10_16 dX10_look_12 ?_
    refine r_aload_n (k := 0) rfl rfl dX10_look_15 ?_
    refine r_gI (k := 9) (kz := 9) rfl ckX10 rfl rfl (by decide) rfl rfl fl_X10_149 dX10_look_16 ?_
    obtain ⟨c5, H⟩ := H
    refine r_iald rfl rfl rfl c5 dX10_look_19 ?_
    refine r_bipush dX10_look_20 (by decide) ?_
    refine r_icmp_ne (tgt := 38) (hM _ _ _) ⟨by decide, by decide⟩ dX10_look_22 (by decide) (fun h6 => ?_) (fun h6 => ?_)
    · have H := H.1 h6
      refine r_aload_n (k := 0) rfl rfl dX10_look_38 ?_
      refine r_aload_n (k := 0) rfl rfl dX10_look_39 ?_
      refine r_gI (k := 9) (kz := 9) rfl ckX10 rfl rfl (by decide) rfl rfl fl_X10_149 dX10_look_40 ?_
      refine r_pI (k := 10) (kz := 10) rfl ckX10 rfl rfl (by decide) rfl rfl rfl rfl fl_X10_152 (hM _ _ _) dX10_look_43 ?_
      refine r_mm (fun M7 e7 => ?_)
      have H := H M7 e7
      have hM7 : sl_RM M7 := by rw [e7]; exact sl_wr_RM hM (hM _ _ _)
      refine r_aload_n (k := 0) rfl rfl dX10_look_46 ?_
      refine r_gI (k := 9) (kz := 9) rfl ckX10 rfl rfl (by decide) rfl rfl fl_X10_149 dX10_look_47 ?_
      refine r_aload_n (k := 0) rfl rfl dX10_look_50 ?_
      refine r_gI (k := 7) (kz := 7) rfl ckX10 rfl rfl (by decide) rfl rfl fl_X10_143 dX10_look_51 ?_
      obtain ⟨K, H⟩ := H
      have J : sl_At l mX10_look 70 [(0, vR 1 0)] [vI (if M7 1 0 7 ≤ M7 1 0 9 then (-1) else M7 1 9 (M7 1 0 9))] M7 Q := by
        refine r_iret rfl (sl_rgite ⟨by decide, by decide⟩ (hM7 _ _ _)) dX10_look_70 ?_
        exact H
      refine r_icmp_ge (tgt := 69) (hM7 _ _ _) (hM7 _ _ _) dX10_look_54 (by decide) (fun h9 => ?_) (fun h9 => ?_)
      · refine r_iconst dX10_look_69 ?_
        rw [if_pos h9] at J
        exact J
      · replace K := K h9
        have c8 := K
        refine r_aload_n (k := 0) rfl rfl dX10_look_57 ?_
        refine r_getR (k := 8) (o' := 1) (i' := 9) ckX10 rfl rfl (by decide) rfl rfl rfl fl_X10_16 dX10_look_58 ?_
        refine r_aload_n (k := 0) rfl rfl dX10_look_61 ?_
        refine r_gI (k := 9) (kz := 9) rfl ckX10 rfl rfl (by decide) rfl rfl fl_X10_149 dX10_look_62 ?_
        refine r_iald rfl rfl rfl c8 dX10_look_65 ?_
        refine r_goto (tgt := 70) dX10_look_66 (by decide) ?_
        rw [if_neg h9] at J
        exact J
    · have H := H.2 h6
      refine r_aload_n (k := 0) rfl rfl dX10_look_25 ?_
      refine r_dup rfl dX10_look_26 ?_
      refine r_gI (k := 9) (kz := 9) rfl ckX10 rfl rfl (by decide) rfl rfl fl_X10_149 dX10_look_27 ?_
      refine r_iconst dX10_look_30 ?_
      refine r_iadd dX10_look_31 ?_
      obtain ⟨c10, H⟩ := H
      refine r_pI (k := 9) (kz := 9) rfl ckX10 rfl rfl (by decide) rfl rfl rfl rfl fl_X10_149 c10 dX10_look_32 ?_
      refine r_mm (fun M11 e11 => ?_)
      have H := H M11 e11
      have hM11 : sl_RM M11 := by rw [e11]; exact sl_wr_RM hM c10
      refine r_goto (tgt := 0) dX10_look_35 (by decide) ?_
      exact H
theorem eX10_look {l : Launch} {M : sl_M} {Q : sl_R}  (k : sl_At l mX10_look 0 [(0, vR 1 0)] [] M Q) : sl_Runs l mX10_look [vR 1 0] M Q := sl_Runs.of (ls := [(0, vR 1 0)]) rfl rfl (fun _ => rfl) (fun _ => Nat.le_of_ble_eq_true rfl) rfl (k)
theorem dX10_take_0 : decode cX10_take 0 = .ok (.aload_n 0, 1) := by decide +kernel
theorem dX10_take_1 : decode cX10_take 1 = .ok (.invokevirtual 155, 3) := by decide +kernel
theorem dX10_take_4 : decode cX10_take 4 = .ok (.istore_n 1, 1) := by decide +kernel
theorem dX10_take_5 : decode cX10_take 5 = .ok (.aload_n 0, 1) := by decide +kernel
theorem dX10_take_6 : decode cX10_take 6 = .ok (.dup, 1) := by decide +kernel
theorem dX10_take_7 : decode cX10_take 7 = .ok (.getfield 149, 3) := by decide +kernel
theorem dX10_take_10 : decode cX10_take 10 = .ok (.iload_n 1, 1) := by decide +kernel
theorem dX10_take_11 : decode cX10_take 11 = .ok (.ifCond .ge 7, 3) := by decide +kernel
theorem dX10_take_14 : decode cX10_take 14 = .ok (.iconst 0, 1) := by decide +kernel
theorem dX10_take_15 : decode cX10_take 15 = .ok (.goto 4, 3) := by decide +kernel
theorem dX10_take_18 : decode cX10_take 18 = .ok (.iconst 1, 1) := by decide +kernel
theorem dX10_take_19 : decode cX10_take 19 = .ok (.iadd, 1) := by decide +kernel
theorem dX10_take_20 : decode cX10_take 20 = .ok (.putfield 149, 3) := by decide +kernel
theorem dX10_take_23 : decode cX10_take 23 = .ok (.iload_n 1, 1) := by decide +kernel
theorem dX10_take_24 : decode cX10_take 24 = .ok (.ireturn, 1) := by decide +kernel
set_option maxHeartbeats 4000000 in
set_option maxRecDepth 10000 in
theorem vX10_take_0 {l : Launch} {M : sl_M} {Q : sl_R} (H : sl_RM M → sl_RI l mX10_look [vR 1 0] M (fun y2 M1 => (sl_rg (M1 1 0 9 + (if 0 ≤ y2 then 1 else 0))) ∧ (∀ M5, M5 = sl_wr M1 1 0 9 (M1 1 0 9 + (if 0 ≤ y2 then 1 else 0)) → Q (some (vI y2)) M5))) : sl_At l mX10_take 0 [(0, vR 1 0)] [] M Q := by
  refine sl_At.in (fun hM hls => ?_)
  have H := H hM
  refine r_aload_n (k := 0) rfl rfl dX10_take_0 ?_
  refine r_callV (g := mX10_look) ckX10 rfl rfl rfl rfl mkX10_look mvX10_look ml_X10_155 ⟨by decide, by decide⟩ rfl (Nat.le_of_ble_eq_true rfl) rfl ok_n dX10_take_1 (sl_afterI (sl_RI.mono (fun y2 M1 gy2 hM1 H => ?_) H))
  refine r_istore_n (ls' := [(1, vI y2), (0, vR 1 0)]) gy2 rfl (by decide) rfl dX10_take_4 ?_
  refine r_aload_n (k := 1) rfl rfl dX10_take_5 ?_
  refine r_dup rfl dX10_take_6 ?_
  refine r_gI (k := 9) (kz := 9) rfl ckX10 rfl rfl (by decide) rfl rfl fl_X10_149 dX10_take_7 ?_
  refine r_iload_n (k := 0) rfl rfl dX10_take_10 ?_
  have J : sl_At l mX10_take 19 [(1, vI y2), (0, vR 1 0)] [vI (if 0 ≤ y2 then 1 else 0), vI (M1 1 0 9), vR 1 0] M1 Q := by
    refine r_iadd dX10_take_19 ?_
    obtain ⟨c4, H⟩ := H
    refine r_pI (k := 9) (kz := 9) rfl ckX10 rfl rfl (by decide) rfl rfl rfl rfl fl_X10_149 c4 dX10_take_20 ?_
    refine r_mm (fun M5 e5 => ?_)
    have H := H M5 e5
    have hM5 : sl_RM M5 := by rw [e5]; exact sl_wr_RM hM1 c4
    refine r_iload_n (k := 0) rfl rfl dX10_take_23 ?_
    refine r_iret rfl gy2 dX10_take_24 ?_
    exact H
  refine r_if_ge (tgt := 18) gy2 dX10_take_11 (by decide) (fun h3 => ?_) (fun h3 => ?_)
  · refine r_iconst dX10_take_18 ?_
    rw [if_pos (show 0 ≤ y2 by omega)] at J
    exact J
  · refine r_iconst dX10_take_14 ?_
    refine r_goto (tgt := 19) dX10_take_15 (by decide) ?_
    rw [if_neg (show ¬ (0 ≤ y2) by omega)] at J
    exact J
theorem eX10_take {l : Launch} {M : sl_M} {Q : sl_R}  (k : sl_At l mX10_take 0 [(0, vR 1 0)] [] M Q) : sl_Runs l mX10_take [vR 1 0] M Q := sl_Runs.of (ls := [(0, vR 1 0)]) rfl rfl (fun _ => rfl) (fun _ => Nat.le_of_ble_eq_true rfl) rfl (k)
theorem dX10_readsE_0 : decode cX10_readsE 0 = .ok (.iconst 1, 1) := by decide +kernel
theorem dX10_readsE_1 : decode cX10_readsE 1 = .ok (.istore_n 2, 1) := by decide +kernel
theorem dX10_readsE_2 : decode cX10_readsE 2 = .ok (.iload_n 2, 1) := by decide +kernel
theorem dX10_readsE_3 : decode cX10_readsE 3 = .ok (.ifCond .le 121, 3) := by decide +kernel
theorem dX10_readsE_6 : decode cX10_readsE 6 = .ok (.aload_n 0, 1) := by decide +kernel
theorem dX10_readsE_7 : decode cX10_readsE 7 = .ok (.invokevirtual 158, 3) := by decide +kernel
theorem dX10_readsE_10 : decode cX10_readsE 10 = .ok (.istore_n 3, 1) := by decide +kernel
theorem dX10_readsE_11 : decode cX10_readsE 11 = .ok (.iload_n 3, 1) := by decide +kernel
theorem dX10_readsE_12 : decode cX10_readsE 12 = .ok (.bipush 48, 2) := by decide +kernel
theorem dX10_readsE_14 : decode cX10_readsE 14 = .ok (.bipush 57, 2) := by decide +kernel
theorem dX10_readsE_16 : decode cX10_readsE 16 = .ok (.invokestatic 135, 3) := by decide +kernel
theorem dX10_readsE_19 : decode cX10_readsE 19 = .ok (.ifCond .ne 14, 3) := by decide +kernel
theorem dX10_readsE_22 : decode cX10_readsE 22 = .ok (.iload_n 3, 1) := by decide +kernel
theorem dX10_readsE_23 : decode cX10_readsE 23 = .ok (.bipush 97, 2) := by decide +kernel
theorem dX10_readsE_25 : decode cX10_readsE 25 = .ok (.bipush 104, 2) := by decide +kernel
theorem dX10_readsE_27 : decode cX10_readsE 27 = .ok (.invokestatic 135, 3) := by decide +kernel
theorem dX10_readsE_30 : decode cX10_readsE 30 = .ok (.ifCond .eq 7, 3) := by decide +kernel
theorem dX10_readsE_33 : decode cX10_readsE 33 = .ok (.iconst 1, 1) := by decide +kernel
theorem dX10_readsE_34 : decode cX10_readsE 34 = .ok (.goto 4, 3) := by decide +kernel
theorem dX10_readsE_37 : decode cX10_readsE 37 = .ok (.iconst 0, 1) := by decide +kernel
theorem dX10_readsE_38 : decode cX10_readsE 38 = .ok (.istore 4, 2) := by decide +kernel
theorem dX10_readsE_40 : decode cX10_readsE 40 = .ok (.iload 4, 2) := by decide +kernel
theorem dX10_readsE_42 : decode cX10_readsE 42 = .ok (.ifCond .ne 10, 3) := by decide +kernel
theorem dX10_readsE_45 : decode cX10_readsE 45 = .ok (.iload_n 3, 1) := by decide +kernel
theorem dX10_readsE_46 : decode cX10_readsE 46 = .ok (.invokestatic 161, 3) := by decide +kernel
theorem dX10_readsE_49 : decode cX10_readsE 49 = .ok (.ifCond .eq 18, 3) := by decide +kernel
theorem dX10_readsE_52 : decode cX10_readsE 52 = .ok (.aload_n 0, 1) := by decide +kernel
theorem dX10_readsE_53 : decode cX10_readsE 53 = .ok (.getfield 19, 3) := by decide +kernel
theorem dX10_readsE_56 : decode cX10_readsE 56 = .ok (.sipush 241, 3) := by decide +kernel
theorem dX10_readsE_59 : decode cX10_readsE 59 = .ok (.iload_n 1, 1) := by decide +kernel
theorem dX10_readsE_60 : decode cX10_readsE 60 = .ok (.iadd, 1) := by decide +kernel
theorem dX10_readsE_61 : decode cX10_readsE 61 = .ok (.iaload, 1) := by decide +kernel
theorem dX10_readsE_62 : decode cX10_readsE 62 = .ok (.bipush 12, 2) := by decide +kernel
theorem dX10_readsE_64 : decode cX10_readsE 64 = .ok (.if_icmp .ne 5, 3) := by decide +kernel
theorem dX10_readsE_67 : decode cX10_readsE 67 = .ok (.iconst 0, 1) := by decide +kernel
theorem dX10_readsE_68 : decode cX10_readsE 68 = .ok (.ireturn, 1) := by decide +kernel
theorem dX10_readsE_69 : decode cX10_readsE 69 = .ok (.aload_n 0, 1) := by decide +kernel
theorem dX10_readsE_70 : decode cX10_readsE 70 = .ok (.getfield 19, 3) := by decide +kernel
theorem dX10_readsE_73 : decode cX10_readsE 73 = .ok (.sipush 281, 3) := by decide +kernel
theorem dX10_readsE_76 : decode cX10_readsE 76 = .ok (.bipush 12, 2) := by decide +kernel
theorem dX10_readsE_78 : decode cX10_readsE 78 = .ok (.iload_n 1, 1) := by decide +kernel
theorem dX10_readsE_79 : decode cX10_readsE 79 = .ok (.imul, 1) := by decide +kernel
theorem dX10_readsE_80 : decode cX10_readsE 80 = .ok (.iadd, 1) := by decide +kernel
theorem dX10_readsE_81 : decode cX10_readsE 81 = .ok (.aload_n 0, 1) := by decide +kernel
theorem dX10_readsE_82 : decode cX10_readsE 82 = .ok (.getfield 19, 3) := by decide +kernel
theorem dX10_readsE_85 : decode cX10_readsE 85 = .ok (.sipush 241, 3) := by decide +kernel
theorem dX10_readsE_88 : decode cX10_readsE 88 = .ok (.iload_n 1, 1) := by decide +kernel
theorem dX10_readsE_89 : decode cX10_readsE 89 = .ok (.iadd, 1) := by decide +kernel
theorem dX10_readsE_90 : decode cX10_readsE 90 = .ok (.iaload, 1) := by decide +kernel
theorem dX10_readsE_91 : decode cX10_readsE 91 = .ok (.iadd, 1) := by decide +kernel
theorem dX10_readsE_92 : decode cX10_readsE 92 = .ok (.iload_n 3, 1) := by decide +kernel
theorem dX10_readsE_93 : decode cX10_readsE 93 = .ok (.iastore, 1) := by decide +kernel
theorem dX10_readsE_94 : decode cX10_readsE 94 = .ok (.aload_n 0, 1) := by decide +kernel
theorem dX10_readsE_95 : decode cX10_readsE 95 = .ok (.getfield 19, 3) := by decide +kernel
theorem dX10_readsE_98 : decode cX10_readsE 98 = .ok (.sipush 241, 3) := by decide +kernel
theorem dX10_readsE_101 : decode cX10_readsE 101 = .ok (.iload_n 1, 1) := by decide +kernel
theorem dX10_readsE_102 : decode cX10_readsE 102 = .ok (.iadd, 1) := by decide +kernel
theorem dX10_readsE_103 : decode cX10_readsE 103 = .ok (.dup2, 1) := by decide +kernel
theorem dX10_readsE_104 : decode cX10_readsE 104 = .ok (.iaload, 1) := by decide +kernel
theorem dX10_readsE_105 : decode cX10_readsE 105 = .ok (.iconst 1, 1) := by decide +kernel
theorem dX10_readsE_106 : decode cX10_readsE 106 = .ok (.iadd, 1) := by decide +kernel
theorem dX10_readsE_107 : decode cX10_readsE 107 = .ok (.iastore, 1) := by decide +kernel
theorem dX10_readsE_108 : decode cX10_readsE 108 = .ok (.iload_n 2, 1) := by decide +kernel
theorem dX10_readsE_109 : decode cX10_readsE 109 = .ok (.iload 4, 2) := by decide +kernel
theorem dX10_readsE_111 : decode cX10_readsE 111 = .ok (.ifCond .eq 7, 3) := by decide +kernel
theorem dX10_readsE_114 : decode cX10_readsE 114 = .ok (.iconst (-1), 1) := by decide +kernel
theorem dX10_readsE_115 : decode cX10_readsE 115 = .ok (.goto 4, 3) := by decide +kernel
theorem dX10_readsE_118 : decode cX10_readsE 118 = .ok (.iconst 1, 1) := by decide +kernel
theorem dX10_readsE_119 : decode cX10_readsE 119 = .ok (.iadd, 1) := by decide +kernel
theorem dX10_readsE_120 : decode cX10_readsE 120 = .ok (.istore_n 2, 1) := by decide +kernel
theorem dX10_readsE_121 : decode cX10_readsE 121 = .ok (.goto (-119), 3) := by decide +kernel
theorem dX10_readsE_124 : decode cX10_readsE 124 = .ok (.iconst 1, 1) := by decide +kernel
theorem dX10_readsE_125 : decode cX10_readsE 125 = .ok (.ireturn, 1) := by decide +kernel
set_option maxHeartbeats 4000000 in
set_option maxRecDepth 10000 in
theorem vX10_readsE_0 {l : Launch} {M : sl_M} {Q : sl_R} {x1 : Int} (H : sl_RM M → sl_rg x1 → sl_At l mX10_readsE 2 [(0, vR 1 0), (1, vI x1), (2, vI 1)] [] M Q) : sl_At l mX10_readsE 0 [(0, vR 1 0), (1, vI x1)] [] M Q := by
  refine sl_At.in (fun hM hls => ?_)
  have g1 : sl_rg x1 := hls _ (List.mem_of_getElem? (i := 1) rfl)
  have H := H hM g1
  refine r_iconst dX10_readsE_0 ?_
  refine r_istore_n (ls' := [(2, vI 1), (0, vR 1 0), (1, vI x1)]) ⟨by decide, by decide⟩ rfl (by decide) rfl dX10_readsE_1 ?_
  exact sl_At.sub [1, 2, 0] rfl H
set_option maxHeartbeats 4000000 in
set_option maxRecDepth 10000 in
theorem vX10_readsE_2 {l : Launch} {M : sl_M} {Q : sl_R} {x1 x2 : Int} (H : sl_RM M → sl_rg x1 → sl_rg x2 → ((x2 ≤ 0) → Q (some (vI 1)) M) ∧ ((¬ (x2 ≤ 0)) → sl_RI l mX10_take [vR 1 0] M (fun y3 M2 => ((48 ≤ y3 ∧ y3 ≤ 57) → sl_At l mX10_readsE 33 [(0, vR 1 0), (1, vI x1), (2, vI x2), (3, vI y3)] [] M2 Q) ∧ ((¬ (48 ≤ y3 ∧ y3 ≤ 57)) → (∀ y6 : Int, y6 = (if 97 ≤ y3 ∧ y3 ≤ 104 then 1 else 0) → ((97 ≤ y3 ∧ y3 ≤ 104) → sl_At l mX10_readsE 52 [(0, vR 1 0), (1, vI x1), (2, vI x2), (3, vI y3), (4, vI y6)] [] M2 Q) ∧ ((¬ (97 ≤ y3 ∧ y3 ≤ 104)) → ((¬ (sp_op y3)) → Q (some (vI 0)) M2) ∧ ((sp_op y3) → sl_At l mX10_readsE 52 [(0, vR 1 0), (1, vI x1), (2, vI x2), (3, vI y3), (4, vI y6)] [] M2 Q))))))) : sl_At l mX10_readsE 2 [(0, vR 1 0), (1, vI x1), (2, vI x2)] [] M Q := by
  refine sl_At.in (fun hM hls => ?_)
  have g1 : sl_rg x1 := hls _ (List.mem_of_getElem? (i := 1) rfl)
  have g2 : sl_rg x2 := hls _ (List.mem_of_getElem? (i := 2) rfl)
  have H := H hM g1 g2
  refine r_iload_n (k := 2) rfl rfl dX10_readsE_2 ?_
  refine r_if_le (tgt := 124) g2 dX10_readsE_3 (by decide) (fun h1 => ?_) (fun h1 => ?_)
  · have H := H.1 h1
    refine r_iconst dX10_readsE_124 ?_
    refine r_zret rfl (Or.inr rfl) dX10_readsE_125 ?_
    exact H
  · have H := H.2 h1
    refine r_aload_n (k := 0) rfl rfl dX10_readsE_6 ?_
    refine r_callV (g := mX10_take) ckX10 rfl rfl rfl rfl mkX10_take mvX10_take ml_X10_158 ⟨by decide, by decide⟩ rfl (Nat.le_of_ble_eq_true rfl) rfl ok_n dX10_readsE_7 (sl_afterI (sl_RI.mono (fun y3 M2 gy3 hM2 H => ?_) H))
    refine r_istore_n (ls' := [(3, vI y3), (0, vR 1 0), (1, vI x1), (2, vI x2)]) gy3 rfl (by decide) rfl dX10_readsE_10 ?_
    refine r_iload_n (k := 0) rfl rfl dX10_readsE_11 ?_
    refine r_bipush dX10_readsE_12 (by decide) ?_
    refine r_bipush dX10_readsE_14 (by decide) ?_
    refine r_callS (g := mX10_in) rfl mkX10_in msX10_in ml_X10_135 ⟨by decide, by decide⟩ rfl (Nat.le_of_ble_eq_true rfl) rfl (ok_i gy3 (ok_i ⟨by decide, by decide⟩ (ok_i ⟨by decide, by decide⟩ ok_n))) dX10_readsE_16 (sl_afterI (sl_RI.by kX10_in ?_))
    refine r_if_ne (tgt := 33) rg_b dX10_readsE_19 (by decide) (fun h4 => ?_) (fun h4 => ?_)
    · have H := H.1 (b_ne0.mp h4)
      exact sl_At.sub [1, 2, 3, 0] rfl H
    · have H := H.2 (b_eq0.mp (Decidable.of_not_not h4))
      refine r_iload_n (k := 0) rfl rfl dX10_readsE_22 ?_
      refine r_bipush dX10_readsE_23 (by decide) ?_
      refine r_bipush dX10_readsE_25 (by decide) ?_
      refine r_callS (g := mX10_in) rfl mkX10_in msX10_in ml_X10_135 ⟨by decide, by decide⟩ rfl (Nat.le_of_ble_eq_true rfl) rfl (ok_i gy3 (ok_i ⟨by decide, by decide⟩ (ok_i ⟨by decide, by decide⟩ ok_n))) dX10_readsE_27 (sl_afterI (sl_RI.by kX10_in ?_))
      have J : sl_At l mX10_readsE 38 [(3, vI y3), (0, vR 1 0), (1, vI x1), (2, vI x2)] [vI (if 97 ≤ y3 ∧ y3 ≤ 104 then 1 else 0)] M2 Q := by
        refine r_nm (fun y6 fy6 => ?_)
        have H := H y6 fy6
        have gy6 : sl_rg y6 := by rw [fy6]; exact rg_b
        refine r_istore (ls' := [(4, vI y6), (3, vI y3), (0, vR 1 0), (1, vI x1), (2, vI x2)]) gy6 (by decide) rfl dX10_readsE_38 ?_
        refine r_iload (k := 0) rfl dX10_readsE_40 ?_
        refine r_if_ne (tgt := 52) gy6 dX10_readsE_42 (by decide) (fun h7 => ?_) (fun h7 => ?_)
        · have H := H.1 (b_ne0.mp (fun q => h7 (fy6.trans q)))
          exact sl_At.sub [2, 3, 4, 1, 0] rfl H
        · have H := H.2 (b_eq0.mp (fy6.symm.trans (Decidable.of_not_not h7)))
          refine r_iload_n (k := 1) rfl rfl dX10_readsE_45 ?_
          refine r_callS (g := mX10_isAct) rfl mkX10_isAct msX10_isAct ml_X10_161 ⟨by decide, by decide⟩ rfl (Nat.le_of_ble_eq_true rfl) rfl (ok_i gy3 ok_n) dX10_readsE_46 (sl_afterI (sl_RI.by kX10_isAct ?_))
          refine r_if_eq (tgt := 67) rg_b dX10_readsE_49 (by decide) (fun h8 => ?_) (fun h8 => ?_)
          · have H := H.1 (b_eq0.mp h8)
            refine r_iconst dX10_readsE_67 ?_
            refine r_zret rfl (Or.inl rfl) dX10_readsE_68 ?_
            exact H
          · have H := H.2 (b_ne0.mp h8)
            exact sl_At.sub [2, 3, 4, 1, 0] rfl H
      refine r_if_eq (tgt := 37) rg_b dX10_readsE_30 (by decide) (fun h5 => ?_) (fun h5 => ?_)
      · replace h5 := (b_eq0.mp h5)
        refine r_iconst dX10_readsE_37 ?_
        rw [if_neg (show ¬ (97 ≤ y3 ∧ y3 ≤ 104) by omega)] at J
        exact J
      · replace h5 := (b_ne0.mp h5)
        refine r_iconst dX10_readsE_33 ?_
        refine r_goto (tgt := 38) dX10_readsE_34 (by decide) ?_
        rw [if_pos (show 97 ≤ y3 ∧ y3 ≤ 104 by omega)] at J
        exact J
set_option maxHeartbeats 4000000 in
set_option maxRecDepth 10000 in
theorem vX10_readsE_33 {l : Launch} {M : sl_M} {Q : sl_R} {x1 x2 x3 : Int} (H : sl_RM M → sl_rg x1 → sl_rg x2 → sl_rg x3 → (((1 : Int) ≠ 0) → sl_At l mX10_readsE 52 [(0, vR 1 0), (1, vI x1), (2, vI x2), (3, vI x3), (4, vI 1)] [] M Q) ∧ ((¬ ((1 : Int) ≠ 0)) → ((¬ (sp_op x3)) → Q (some (vI 0)) M) ∧ ((sp_op x3) → sl_At l mX10_readsE 52 [(0, vR 1 0), (1, vI x1), (2, vI x2), (3, vI x3), (4, vI 1)] [] M Q))) : sl_At l mX10_readsE 33 [(0, vR 1 0), (1, vI x1), (2, vI x2), (3, vI x3)] [] M Q := by
  refine sl_At.in (fun hM hls => ?_)
  have g1 : sl_rg x1 := hls _ (List.mem_of_getElem? (i := 1) rfl)
  have g2 : sl_rg x2 := hls _ (List.mem_of_getElem? (i := 2) rfl)
  have g3 : sl_rg x3 := hls _ (List.mem_of_getElem? (i := 3) rfl)
  have H := H hM g1 g2 g3
  refine r_iconst dX10_readsE_33 ?_
  refine r_goto (tgt := 38) dX10_readsE_34 (by decide) ?_
  refine r_istore (ls' := [(4, vI 1), (0, vR 1 0), (1, vI x1), (2, vI x2), (3, vI x3)]) ⟨by decide, by decide⟩ (by decide) rfl dX10_readsE_38 ?_
  refine r_iload (k := 0) rfl dX10_readsE_40 ?_
  refine r_if_ne (tgt := 52) ⟨by decide, by decide⟩ dX10_readsE_42 (by decide) (fun h1 => ?_) (fun h1 => ?_)
  · have H := H.1 h1
    exact sl_At.sub [1, 2, 3, 4, 0] rfl H
  · have H := H.2 h1
    refine r_iload_n (k := 4) rfl rfl dX10_readsE_45 ?_
    refine r_callS (g := mX10_isAct) rfl mkX10_isAct msX10_isAct ml_X10_161 ⟨by decide, by decide⟩ rfl (Nat.le_of_ble_eq_true rfl) rfl (ok_i g3 ok_n) dX10_readsE_46 (sl_afterI (sl_RI.by kX10_isAct ?_))
    refine r_if_eq (tgt := 67) rg_b dX10_readsE_49 (by decide) (fun h2 => ?_) (fun h2 => ?_)
    · have H := H.1 (b_eq0.mp h2)
      refine r_iconst dX10_readsE_67 ?_
      refine r_zret rfl (Or.inl rfl) dX10_readsE_68 ?_
      exact H
    · have H := H.2 (b_ne0.mp h2)
      exact sl_At.sub [1, 2, 3, 4, 0] rfl H
set_option maxHeartbeats 4000000 in
set_option maxRecDepth 10000 in
theorem vX10_readsE_52 {l : Launch} {M : sl_M} {Q : sl_R} {x1 x2 x3 x4 : Int} (H : sl_RM M → sl_rg x1 → sl_rg x2 → sl_rg x3 → sl_rg x4 → (0 ≤ 241 + x1 ∧ 241 + x1 < 990) ∧ ((M 1 12 (241 + x1) ≠ 12) → (0 ≤ (281 + (12 * x1)) + (M 1 12 (241 + x1)) ∧ (281 + (12 * x1)) + (M 1 12 (241 + x1)) < 990) ∧ (∀ M4, M4 = sl_wr M 1 12 ((281 + (12 * x1)) + (M 1 12 (241 + x1))) x3 → (sl_rg (M4 1 12 (241 + x1) + 1)) ∧ (∀ M6, M6 = sl_wr M4 1 12 (241 + x1) (M4 1 12 (241 + x1) + 1) → (sl_rg (x2 + (if x4 = 0 then 1 else (-1)))) ∧ (∀ y9 : Int, y9 = x2 + (if x4 = 0 then 1 else (-1)) → sl_At l mX10_readsE 2 [(0, vR 1 0), (1, vI x1), (2, vI y9)] [] M6 Q)))) ∧ ((¬ (M 1 12 (241 + x1) ≠ 12)) → Q (some (vI 0)) M)) : sl_At l mX10_readsE 52 [(0, vR 1 0), (1, vI x1), (2, vI x2), (3, vI x3), (4, vI x4)] [] M Q := by
  refine sl_At.in (fun hM hls => ?_)
  have g1 : sl_rg x1 := hls _ (List.mem_of_getElem? (i := 1) rfl)
  have g2 : sl_rg x2 := hls _ (List.mem_of_getElem? (i := 2) rfl)
  have g3 : sl_rg x3 := hls _ (List.mem_of_getElem? (i := 3) rfl)
  have g4 : sl_rg x4 := hls _ (List.mem_of_getElem? (i := 4) rfl)
  have H := H hM g1 g2 g3 g4
  refine r_aload_n (k := 0) rfl rfl dX10_readsE_52 ?_
  refine r_getR (k := 11) (o' := 1) (i' := 12) ckX10 rfl rfl (by decide) rfl rfl rfl fl_X10_19 dX10_readsE_53 ?_
  refine r_sipush dX10_readsE_56 (by decide) ?_
  refine r_iload_n (k := 1) rfl rfl dX10_readsE_59 ?_
  refine r_iadd dX10_readsE_60 ?_
  obtain ⟨c1, H⟩ := H
  refine r_iald rfl rfl rfl c1 dX10_readsE_61 ?_
  refine r_bipush dX10_readsE_62 (by decide) ?_
  refine r_icmp_ne (tgt := 69) (hM _ _ _) ⟨by decide, by decide⟩ dX10_readsE_64 (by decide) (fun h2 => ?_) (fun h2 => ?_)
  · have H := H.1 h2
    refine r_aload_n (k := 0) rfl rfl dX10_readsE_69 ?_
    refine r_getR (k := 11) (o' := 1) (i' := 12) ckX10 rfl rfl (by decide) rfl rfl rfl fl_X10_19 dX10_readsE_70 ?_
    refine r_sipush dX10_readsE_73 (by decide) ?_
    refine r_bipush dX10_readsE_76 (by decide) ?_
    refine r_iload_n (k := 1) rfl rfl dX10_readsE_78 ?_
    refine r_imul dX10_readsE_79 ?_
    refine r_iadd dX10_readsE_80 ?_
    refine r_aload_n (k := 0) rfl rfl dX10_readsE_81 ?_
    refine r_getR (k := 11) (o' := 1) (i' := 12) ckX10 rfl rfl (by decide) rfl rfl rfl fl_X10_19 dX10_readsE_82 ?_
    refine r_sipush dX10_readsE_85 (by decide) ?_
    refine r_iload_n (k := 1) rfl rfl dX10_readsE_88 ?_
    refine r_iadd dX10_readsE_89 ?_
    refine r_iald rfl rfl rfl c1 dX10_readsE_90 ?_
    refine r_iadd dX10_readsE_91 ?_
    refine r_iload_n (k := 3) rfl rfl dX10_readsE_92 ?_
    obtain ⟨c3, H⟩ := H
    refine r_iast rfl rfl rfl c3 g3 dX10_readsE_93 ?_
    refine r_mm (fun M4 e4 => ?_)
    have H := H M4 e4
    have hM4 : sl_RM M4 := by rw [e4]; exact sl_wr_RM hM g3
    refine r_aload_n (k := 0) rfl rfl dX10_readsE_94 ?_
    refine r_getR (k := 11) (o' := 1) (i' := 12) ckX10 rfl rfl (by decide) rfl rfl rfl fl_X10_19 dX10_readsE_95 ?_
    refine r_sipush dX10_readsE_98 (by decide) ?_
    refine r_iload_n (k := 1) rfl rfl dX10_readsE_101 ?_
    refine r_iadd dX10_readsE_102 ?_
    refine r_dup2 rfl rfl dX10_readsE_103 ?_
    refine r_iald rfl rfl rfl c1 dX10_readsE_104 ?_
    refine r_iconst dX10_readsE_105 ?_
    refine r_iadd dX10_readsE_106 ?_
    obtain ⟨c5, H⟩ := H
    refine r_iast rfl rfl rfl c1 c5 dX10_readsE_107 ?_
    refine r_mm (fun M6 e6 => ?_)
    have H := H M6 e6
    have hM6 : sl_RM M6 := by rw [e6]; exact sl_wr_RM hM4 c5
    refine r_iload_n (k := 2) rfl rfl dX10_readsE_108 ?_
    refine r_iload (k := 4) rfl dX10_readsE_109 ?_
    have J : sl_At l mX10_readsE 119 [(0, vR 1 0), (1, vI x1), (2, vI x2), (3, vI x3), (4, vI x4)] [vI (if x4 = 0 then 1 else (-1)), vI x2] M6 Q := by
      refine r_iadd dX10_readsE_119 ?_
      obtain ⟨c8, H⟩ := H
      refine r_nm (fun y9 fy9 => ?_)
      have H := H y9 fy9
      have gy9 : sl_rg y9 := by rw [fy9]; exact c8
      refine r_istore_n (ls' := [(2, vI y9), (0, vR 1 0), (1, vI x1), (3, vI x3), (4, vI x4)]) gy9 rfl (by decide) rfl dX10_readsE_120 ?_
      refine r_goto (tgt := 2) dX10_readsE_121 (by decide) ?_
      exact sl_At.sub [1, 2, 0] rfl H
    refine r_if_eq (tgt := 118) g4 dX10_readsE_111 (by decide) (fun h7 => ?_) (fun h7 => ?_)
    · refine r_iconst dX10_readsE_118 ?_
      rw [if_pos h7] at J
      exact J
    · refine r_iconst dX10_readsE_114 ?_
      refine r_goto (tgt := 119) dX10_readsE_115 (by decide) ?_
      rw [if_neg h7] at J
      exact J
  · have H := H.2 h2
    refine r_iconst dX10_readsE_67 ?_
    refine r_zret rfl (Or.inl rfl) dX10_readsE_68 ?_
    exact H
theorem eX10_readsE {l : Launch} {M : sl_M} {Q : sl_R} {x1 : Int} (k : sl_At l mX10_readsE 0 [(0, vR 1 0), (1, vI x1)] [] M Q) : sl_Runs l mX10_readsE [vR 1 0, vI x1] M Q := sl_Runs.of (ls := [(0, vR 1 0), (1, vI x1)]) rfl rfl (fun _ => rfl) (fun _ => Nat.le_of_ble_eq_true rfl) rfl (k)
theorem dX10_isInLoop_0 : decode cX10_isInLoop 0 = .ok (.iconst 0, 1) := by decide +kernel
theorem dX10_isInLoop_1 : decode cX10_isInLoop 1 = .ok (.istore_n 1, 1) := by decide +kernel
theorem dX10_isInLoop_2 : decode cX10_isInLoop 2 = .ok (.iconst 0, 1) := by decide +kernel
theorem dX10_isInLoop_3 : decode cX10_isInLoop 3 = .ok (.istore_n 2, 1) := by decide +kernel
theorem dX10_isInLoop_4 : decode cX10_isInLoop 4 = .ok (.iload_n 2, 1) := by decide +kernel
theorem dX10_isInLoop_5 : decode cX10_isInLoop 5 = .ok (.aload_n 0, 1) := by decide +kernel
theorem dX10_isInLoop_6 : decode cX10_isInLoop 6 = .ok (.getfield 165, 3) := by decide +kernel
theorem dX10_isInLoop_9 : decode cX10_isInLoop 9 = .ok (.if_icmp .ge 37, 3) := by decide +kernel
theorem dX10_isInLoop_12 : decode cX10_isInLoop 12 = .ok (.iload_n 1, 1) := by decide +kernel
theorem dX10_isInLoop_13 : decode cX10_isInLoop 13 = .ok (.ifCond .ne 21, 3) := by decide +kernel
theorem dX10_isInLoop_16 : decode cX10_isInLoop 16 = .ok (.aload_n 0, 1) := by decide +kernel
theorem dX10_isInLoop_17 : decode cX10_isInLoop 17 = .ok (.getfield 19, 3) := by decide +kernel
theorem dX10_isInLoop_20 : decode cX10_isInLoop 20 = .ok (.iconst 1, 1) := by decide +kernel
theorem dX10_isInLoop_21 : decode cX10_isInLoop 21 = .ok (.aload_n 0, 1) := by decide +kernel
theorem dX10_isInLoop_22 : decode cX10_isInLoop 22 = .ok (.getfield 22, 3) := by decide +kernel
theorem dX10_isInLoop_25 : decode cX10_isInLoop 25 = .ok (.iload_n 2, 1) := by decide +kernel
theorem dX10_isInLoop_26 : decode cX10_isInLoop 26 = .ok (.iaload, 1) := by decide +kernel
theorem dX10_isInLoop_27 : decode cX10_isInLoop 27 = .ok (.iadd, 1) := by decide +kernel
theorem dX10_isInLoop_28 : decode cX10_isInLoop 28 = .ok (.iaload, 1) := by decide +kernel
theorem dX10_isInLoop_29 : decode cX10_isInLoop 29 = .ok (.bipush 6, 2) := by decide +kernel
theorem dX10_isInLoop_31 : decode cX10_isInLoop 31 = .ok (.if_icmp .ne 7, 3) := by decide +kernel
theorem dX10_isInLoop_34 : decode cX10_isInLoop 34 = .ok (.iconst 1, 1) := by decide +kernel
theorem dX10_isInLoop_35 : decode cX10_isInLoop 35 = .ok (.goto 4, 3) := by decide +kernel
theorem dX10_isInLoop_38 : decode cX10_isInLoop 38 = .ok (.iconst 0, 1) := by decide +kernel
theorem dX10_isInLoop_39 : decode cX10_isInLoop 39 = .ok (.istore_n 1, 1) := by decide +kernel
theorem dX10_isInLoop_40 : decode cX10_isInLoop 40 = .ok (.iinc 2 1, 3) := by decide +kernel
theorem dX10_isInLoop_43 : decode cX10_isInLoop 43 = .ok (.goto (-39), 3) := by decide +kernel
theorem dX10_isInLoop_46 : decode cX10_isInLoop 46 = .ok (.iload_n 1, 1) := by decide +kernel
theorem dX10_isInLoop_47 : decode cX10_isInLoop 47 = .ok (.ireturn, 1) := by decide +kernel
set_option maxHeartbeats 4000000 in
set_option maxRecDepth 10000 in
theorem vX10_isInLoop_0 {l : Launch} {M : sl_M} {Q : sl_R} (H : sl_RM M → sl_At l mX10_isInLoop 4 [(0, vR 1 0), (1, vI 0), (2, vI 0)] [] M Q) : sl_At l mX10_isInLoop 0 [(0, vR 1 0)] [] M Q := by
  refine sl_At.in (fun hM hls => ?_)
  have H := H hM
  refine r_iconst dX10_isInLoop_0 ?_
  refine r_istore_n (ls' := [(1, vI 0), (0, vR 1 0)]) ⟨by decide, by decide⟩ rfl (by decide) rfl dX10_isInLoop_1 ?_
  refine r_iconst dX10_isInLoop_2 ?_
  refine r_istore_n (ls' := [(2, vI 0), (1, vI 0), (0, vR 1 0)]) ⟨by decide, by decide⟩ rfl (by decide) rfl dX10_isInLoop_3 ?_
  exact sl_At.sub [2, 1, 0] rfl H
set_option maxHeartbeats 4000000 in
set_option maxRecDepth 10000 in
theorem vX10_isInLoop_4 {l : Launch} {M : sl_M} {Q : sl_R} {x1 x2 : Int} (H : sl_RM M → sl_rg x1 → sl_rg x2 → ((M 1 0 12 ≤ x2) → (x1 = 0 ∨ x1 = 1) ∧ Q (some (vI x1)) M) ∧ ((¬ (M 1 0 12 ≤ x2)) → (((¬ (x1 ≠ 0)) → (0 ≤ x2 ∧ x2 < 41) ∧ (0 ≤ 1 + (M 1 14 x2) ∧ 1 + (M 1 14 x2) < 990))) ∧ (∀ y7 : Int, y7 = (if (x1 ≠ 0) ∨ (¬ (M 1 12 (1 + (M 1 14 x2)) ≠ 6)) then 1 else 0) → (sl_rg (x2 + 1)) ∧ sl_At l mX10_isInLoop 4 [(0, vR 1 0), (1, vI y7), (2, vI (x2 + 1))] [] M Q))) : sl_At l mX10_isInLoop 4 [(0, vR 1 0), (1, vI x1), (2, vI x2)] [] M Q := by
  refine sl_At.in (fun hM hls => ?_)
  have g1 : sl_rg x1 := hls _ (List.mem_of_getElem? (i := 1) rfl)
  have g2 : sl_rg x2 := hls _ (List.mem_of_getElem? (i := 2) rfl)
  have H := H hM g1 g2
  refine r_iload_n (k := 2) rfl rfl dX10_isInLoop_4 ?_
  refine r_aload_n (k := 0) rfl rfl dX10_isInLoop_5 ?_
  refine r_gI (k := 12) (kz := 12) rfl ckX10 rfl rfl (by decide) rfl rfl fl_X10_165 dX10_isInLoop_6 ?_
  refine r_icmp_ge (tgt := 46) g2 (hM _ _ _) dX10_isInLoop_9 (by decide) (fun h1 => ?_) (fun h1 => ?_)
  · have H := H.1 h1
    refine r_iload_n (k := 1) rfl rfl dX10_isInLoop_46 ?_
    obtain ⟨c2, H⟩ := H
    refine r_zret rfl c2 dX10_isInLoop_47 ?_
    exact H
  · have H := H.2 h1
    refine r_iload_n (k := 1) rfl rfl dX10_isInLoop_12 ?_
    obtain ⟨K, H⟩ := H
    have J : sl_At l mX10_isInLoop 39 [(0, vR 1 0), (1, vI x1), (2, vI x2)] [vI (if (x1 ≠ 0) ∨ (¬ (M 1 12 (1 + (M 1 14 x2)) ≠ 6)) then 1 else 0)] M Q := by
      refine r_nm (fun y7 fy7 => ?_)
      have H := H y7 fy7
      have gy7 : sl_rg y7 := by rw [fy7]; exact rg_b
      refine r_istore_n (ls' := [(1, vI y7), (0, vR 1 0), (2, vI x2)]) gy7 rfl (by decide) rfl dX10_isInLoop_39 ?_
      obtain ⟨c8, H⟩ := H
      refine r_iinc (k := 2) (ls' := [(2, vI (x2 + 1)), (1, vI y7), (0, vR 1 0)]) rfl c8 (by decide) rfl dX10_isInLoop_40 ?_
      refine r_goto (tgt := 4) dX10_isInLoop_43 (by decide) ?_
      exact sl_At.sub [2, 1, 0] rfl H
    refine r_if_ne (tgt := 34) g1 dX10_isInLoop_13 (by decide) (fun h5 => ?_) (fun h5 => ?_)
    · refine r_iconst dX10_isInLoop_34 ?_
      refine r_goto (tgt := 39) dX10_isInLoop_35 (by decide) ?_
      rw [if_pos (show (x1 ≠ 0) ∨ (¬ (M 1 12 (1 + (M 1 14 x2)) ≠ 6)) by omega)] at J
      exact J
    · replace K := K h5
      obtain ⟨c3, K⟩ := K
      have c4 := K
      refine r_aload_n (k := 0) rfl rfl dX10_isInLoop_16 ?_
      refine r_getR (k := 11) (o' := 1) (i' := 12) ckX10 rfl rfl (by decide) rfl rfl rfl fl_X10_19 dX10_isInLoop_17 ?_
      refine r_iconst dX10_isInLoop_20 ?_
      refine r_aload_n (k := 0) rfl rfl dX10_isInLoop_21 ?_
      refine r_getR (k := 13) (o' := 1) (i' := 14) ckX10 rfl rfl (by decide) rfl rfl rfl fl_X10_22 dX10_isInLoop_22 ?_
      refine r_iload_n (k := 2) rfl rfl dX10_isInLoop_25 ?_
      refine r_iald rfl rfl rfl c3 dX10_isInLoop_26 ?_
      refine r_iadd dX10_isInLoop_27 ?_
      refine r_iald rfl rfl rfl c4 dX10_isInLoop_28 ?_
      refine r_bipush dX10_isInLoop_29 (by decide) ?_
      refine r_icmp_ne (tgt := 38) (hM _ _ _) ⟨by decide, by decide⟩ dX10_isInLoop_31 (by decide) (fun h6 => ?_) (fun h6 => ?_)
      · refine r_iconst dX10_isInLoop_38 ?_
        rw [if_neg (show ¬ ((x1 ≠ 0) ∨ (¬ (M 1 12 (1 + (M 1 14 x2)) ≠ 6))) by omega)] at J
        exact J
      · refine r_iconst dX10_isInLoop_34 ?_
        refine r_goto (tgt := 39) dX10_isInLoop_35 (by decide) ?_
        rw [if_pos (show (x1 ≠ 0) ∨ (¬ (M 1 12 (1 + (M 1 14 x2)) ≠ 6)) by omega)] at J
        exact J
theorem eX10_isInLoop {l : Launch} {M : sl_M} {Q : sl_R}  (k : sl_At l mX10_isInLoop 0 [(0, vR 1 0)] [] M Q) : sl_Runs l mX10_isInLoop [vR 1 0] M Q := sl_Runs.of (ls := [(0, vR 1 0)]) rfl rfl (fun _ => rfl) (fun _ => Nat.le_of_ble_eq_true rfl) rfl (k)
theorem dX10_kindOf_0 : decode cX10_kindOf 0 = .ok (.iload_n 0, 1) := by decide +kernel
theorem dX10_kindOf_1 : decode cX10_kindOf 1 = .ok (.lookupswitch 72 #[(33, 63), (35, 59), (42, 69), (60, 61), (63, 67), (94, 65)], 59) := by decide +kernel
theorem dX10_kindOf_60 : decode cX10_kindOf 60 = .ok (.iconst 1, 1) := by decide +kernel
theorem dX10_kindOf_61 : decode cX10_kindOf 61 = .ok (.ireturn, 1) := by decide +kernel
theorem dX10_kindOf_62 : decode cX10_kindOf 62 = .ok (.iconst 2, 1) := by decide +kernel
theorem dX10_kindOf_63 : decode cX10_kindOf 63 = .ok (.ireturn, 1) := by decide +kernel
theorem dX10_kindOf_64 : decode cX10_kindOf 64 = .ok (.iconst 3, 1) := by decide +kernel
theorem dX10_kindOf_65 : decode cX10_kindOf 65 = .ok (.ireturn, 1) := by decide +kernel
theorem dX10_kindOf_66 : decode cX10_kindOf 66 = .ok (.iconst 4, 1) := by decide +kernel
theorem dX10_kindOf_67 : decode cX10_kindOf 67 = .ok (.ireturn, 1) := by decide +kernel
theorem dX10_kindOf_68 : decode cX10_kindOf 68 = .ok (.iconst 5, 1) := by decide +kernel
theorem dX10_kindOf_69 : decode cX10_kindOf 69 = .ok (.ireturn, 1) := by decide +kernel
theorem dX10_kindOf_70 : decode cX10_kindOf 70 = .ok (.bipush 6, 2) := by decide +kernel
theorem dX10_kindOf_72 : decode cX10_kindOf 72 = .ok (.ireturn, 1) := by decide +kernel
theorem dX10_kindOf_73 : decode cX10_kindOf 73 = .ok (.iload_n 0, 1) := by decide +kernel
theorem dX10_kindOf_74 : decode cX10_kindOf 74 = .ok (.bipush 97, 2) := by decide +kernel
theorem dX10_kindOf_76 : decode cX10_kindOf 76 = .ok (.bipush 104, 2) := by decide +kernel
theorem dX10_kindOf_78 : decode cX10_kindOf 78 = .ok (.invokestatic 135, 3) := by decide +kernel
theorem dX10_kindOf_81 : decode cX10_kindOf 81 = .ok (.ifCond .eq 7, 3) := by decide +kernel
theorem dX10_kindOf_84 : decode cX10_kindOf 84 = .ok (.iconst 0, 1) := by decide +kernel
theorem dX10_kindOf_85 : decode cX10_kindOf 85 = .ok (.goto 4, 3) := by decide +kernel
theorem dX10_kindOf_88 : decode cX10_kindOf 88 = .ok (.iconst (-1), 1) := by decide +kernel
theorem dX10_kindOf_89 : decode cX10_kindOf 89 = .ok (.ireturn, 1) := by decide +kernel
set_option maxHeartbeats 4000000 in
set_option maxRecDepth 10000 in
theorem vX10_kindOf_0 {l : Launch} {M : sl_M} {Q : sl_R} {x0 : Int} (H : sl_RM M → sl_rg x0 → ((x0 = 33) → Q (some (vI 3)) M) ∧ ((x0 = 35) → Q (some (vI 1)) M) ∧ ((x0 = 42) → Q (some (vI 6)) M) ∧ ((x0 = 60) → Q (some (vI 2)) M) ∧ ((x0 = 63) → Q (some (vI 5)) M) ∧ ((x0 = 94) → Q (some (vI 4)) M) ∧ ((¬ (x0 = 33) ∧ ¬ (x0 = 35) ∧ ¬ (x0 = 42) ∧ ¬ (x0 = 60) ∧ ¬ (x0 = 63) ∧ ¬ (x0 = 94)) → Q (some (vI (if ¬ (97 ≤ x0 ∧ x0 ≤ 104) then (-1) else 0))) M)) : sl_At l mX10_kindOf 0 [(0, vI x0)] [] M Q := by
  refine sl_At.in (fun hM hls => ?_)
  have g0 : sl_rg x0 := hls _ (List.mem_of_getElem? (i := 0) rfl)
  have H := H hM g0
  refine r_iload_n (k := 0) rfl rfl dX10_kindOf_0 ?_
  by_cases h1 : x0 = 33
  · refine r_ls (tgt := 64) (off := 63) g0 dX10_kindOf_1 (by decide) (by rw [h1]; decide +kernel) (by decide) ?_
    have H := H.1 h1
    refine r_iconst dX10_kindOf_64 ?_
    refine r_iret rfl ⟨by decide, by decide⟩ dX10_kindOf_65 ?_
    exact H
  replace H := H.2
  by_cases h2 : x0 = 35
  · refine r_ls (tgt := 60) (off := 59) g0 dX10_kindOf_1 (by decide) (by rw [h2]; decide +kernel) (by decide) ?_
    have H := H.1 h2
    refine r_iconst dX10_kindOf_60 ?_
    refine r_iret rfl ⟨by decide, by decide⟩ dX10_kindOf_61 ?_
    exact H
  replace H := H.2
  by_cases h3 : x0 = 42
  · refine r_ls (tgt := 70) (off := 69) g0 dX10_kindOf_1 (by decide) (by rw [h3]; decide +kernel) (by decide) ?_
    have H := H.1 h3
    refine r_bipush dX10_kindOf_70 (by decide) ?_
    refine r_iret rfl ⟨by decide, by decide⟩ dX10_kindOf_72 ?_
    exact H
  replace H := H.2
  by_cases h4 : x0 = 60
  · refine r_ls (tgt := 62) (off := 61) g0 dX10_kindOf_1 (by decide) (by rw [h4]; decide +kernel) (by decide) ?_
    have H := H.1 h4
    refine r_iconst dX10_kindOf_62 ?_
    refine r_iret rfl ⟨by decide, by decide⟩ dX10_kindOf_63 ?_
    exact H
  replace H := H.2
  by_cases h5 : x0 = 63
  · refine r_ls (tgt := 68) (off := 67) g0 dX10_kindOf_1 (by decide) (by rw [h5]; decide +kernel) (by decide) ?_
    have H := H.1 h5
    refine r_iconst dX10_kindOf_68 ?_
    refine r_iret rfl ⟨by decide, by decide⟩ dX10_kindOf_69 ?_
    exact H
  replace H := H.2
  by_cases h6 : x0 = 94
  · refine r_ls (tgt := 66) (off := 65) g0 dX10_kindOf_1 (by decide) (by rw [h6]; decide +kernel) (by decide) ?_
    have H := H.1 h6
    refine r_iconst dX10_kindOf_66 ?_
    refine r_iret rfl ⟨by decide, by decide⟩ dX10_kindOf_67 ?_
    exact H
  replace H := H.2
  refine r_ls (tgt := 73) (off := 72) g0 dX10_kindOf_1 (by decide) ?_ (by decide) ?_
  · show Op.lookupswitch.offset [(33, 63), (35, 59), (42, 69), (60, 61), (63, 67), (94, 65)] _ _ = _
    rw [sl_osw h1, sl_osw h2, sl_osw h3, sl_osw h4, sl_osw h5, sl_osw h6]; rfl
  · have H := H ⟨h1, h2, h3, h4, h5, h6⟩
    refine r_iload_n (k := 0) rfl rfl dX10_kindOf_73 ?_
    refine r_bipush dX10_kindOf_74 (by decide) ?_
    refine r_bipush dX10_kindOf_76 (by decide) ?_
    refine r_callS (g := mX10_in) rfl mkX10_in msX10_in ml_X10_135 ⟨by decide, by decide⟩ rfl (Nat.le_of_ble_eq_true rfl) rfl (ok_i g0 (ok_i ⟨by decide, by decide⟩ (ok_i ⟨by decide, by decide⟩ ok_n))) dX10_kindOf_78 (sl_afterI (sl_RI.by kX10_in ?_))
    have J : sl_At l mX10_kindOf 89 [(0, vI x0)] [vI (if ¬ (97 ≤ x0 ∧ x0 ≤ 104) then (-1) else 0)] M Q := by
      refine r_iret rfl (sl_rgite ⟨by decide, by decide⟩ ⟨by decide, by decide⟩) dX10_kindOf_89 ?_
      exact H
    refine r_if_eq (tgt := 88) rg_b dX10_kindOf_81 (by decide) (fun h7 => ?_) (fun h7 => ?_)
    · replace h7 := (b_eq0.mp h7)
      refine r_iconst dX10_kindOf_88 ?_
      rw [if_pos h7] at J
      exact J
    · replace h7 := (b_ne0.mp h7)
      refine r_iconst dX10_kindOf_84 ?_
      refine r_goto (tgt := 89) dX10_kindOf_85 (by decide) ?_
      rw [if_neg (fun q => q h7)] at J
      exact J
theorem eX10_kindOf {l : Launch} {M : sl_M} {Q : sl_R} {x0 : Int} (k : sl_At l mX10_kindOf 0 [(0, vI x0)] [] M Q) : sl_Runs l mX10_kindOf [vI x0] M Q := sl_Runs.of (ls := [(0, vI x0)]) rfl rfl (fun _ => rfl) (fun _ => Nat.le_of_ble_eq_true rfl) rfl (k)
theorem dX10_opens_0 : decode cX10_opens 0 = .ok (.aload_n 0, 1) := by decide +kernel
theorem dX10_opens_1 : decode cX10_opens 1 = .ok (.getfield 22, 3) := by decide +kernel
theorem dX10_opens_4 : decode cX10_opens 4 = .ok (.aload_n 0, 1) := by decide +kernel
theorem dX10_opens_5 : decode cX10_opens 5 = .ok (.getfield 165, 3) := by decide +kernel
theorem dX10_opens_8 : decode cX10_opens 8 = .ok (.iload_n 1, 1) := by decide +kernel
theorem dX10_opens_9 : decode cX10_opens 9 = .ok (.iastore, 1) := by decide +kernel
theorem dX10_opens_10 : decode cX10_opens 10 = .ok (.aload_n 0, 1) := by decide +kernel
theorem dX10_opens_11 : decode cX10_opens 11 = .ok (.getfield 25, 3) := by decide +kernel
theorem dX10_opens_14 : decode cX10_opens 14 = .ok (.aload_n 0, 1) := by decide +kernel
theorem dX10_opens_15 : decode cX10_opens 15 = .ok (.getfield 165, 3) := by decide +kernel
theorem dX10_opens_18 : decode cX10_opens 18 = .ok (.iload_n 2, 1) := by decide +kernel
theorem dX10_opens_19 : decode cX10_opens 19 = .ok (.iastore, 1) := by decide +kernel
theorem dX10_opens_20 : decode cX10_opens 20 = .ok (.aload_n 0, 1) := by decide +kernel
theorem dX10_opens_21 : decode cX10_opens 21 = .ok (.dup, 1) := by decide +kernel
theorem dX10_opens_22 : decode cX10_opens 22 = .ok (.getfield 165, 3) := by decide +kernel
theorem dX10_opens_25 : decode cX10_opens 25 = .ok (.iconst 1, 1) := by decide +kernel
theorem dX10_opens_26 : decode cX10_opens 26 = .ok (.iadd, 1) := by decide +kernel
theorem dX10_opens_27 : decode cX10_opens 27 = .ok (.putfield 165, 3) := by decide +kernel
theorem dX10_opens_30 : decode cX10_opens 30 = .ok (.return_, 1) := by decide +kernel
set_option maxHeartbeats 4000000 in
set_option maxRecDepth 10000 in
theorem vX10_opens_0 {l : Launch} {M : sl_M} {Q : sl_R} {x1 x2 : Int} (H : sl_RM M → sl_rg x1 → sl_rg x2 → (0 ≤ M 1 0 12 ∧ M 1 0 12 < 41) ∧ (∀ M2, M2 = sl_wr M 1 14 (M 1 0 12) x1 → (0 ≤ M2 1 0 12 ∧ M2 1 0 12 < 41) ∧ (∀ M4, M4 = sl_wr M2 1 15 (M2 1 0 12) x2 → (sl_rg (M4 1 0 12 + 1)) ∧ (∀ M6, M6 = sl_wr M4 1 0 12 (M4 1 0 12 + 1) → Q none M6)))) : sl_At l mX10_opens 0 [(0, vR 1 0), (1, vI x1), (2, vI x2)] [] M Q := by
  refine sl_At.in (fun hM hls => ?_)
  have g1 : sl_rg x1 := hls _ (List.mem_of_getElem? (i := 1) rfl)
  have g2 : sl_rg x2 := hls _ (List.mem_of_getElem? (i := 2) rfl)
  have H := H hM g1 g2
  refine r_aload_n (k := 0) rfl rfl dX10_opens_0 ?_
  refine r_getR (k := 13) (o' := 1) (i' := 14) ckX10 rfl rfl (by decide) rfl rfl rfl fl_X10_22 dX10_opens_1 ?_
  refine r_aload_n (k := 0) rfl rfl dX10_opens_4 ?_
  refine r_gI (k := 12) (kz := 12) rfl ckX10 rfl rfl (by decide) rfl rfl fl_X10_165 dX10_opens_5 ?_
  refine r_iload_n (k := 1) rfl rfl dX10_opens_8 ?_
  obtain ⟨c1, H⟩ := H
  refine r_iast rfl rfl rfl c1 g1 dX10_opens_9 ?_
  refine r_mm (fun M2 e2 => ?_)
  have H := H M2 e2
  have hM2 : sl_RM M2 := by rw [e2]; exact sl_wr_RM hM g1
  refine r_aload_n (k := 0) rfl rfl dX10_opens_10 ?_
  refine r_getR (k := 14) (o' := 1) (i' := 15) ckX10 rfl rfl (by decide) rfl rfl rfl fl_X10_25 dX10_opens_11 ?_
  refine r_aload_n (k := 0) rfl rfl dX10_opens_14 ?_
  refine r_gI (k := 12) (kz := 12) rfl ckX10 rfl rfl (by decide) rfl rfl fl_X10_165 dX10_opens_15 ?_
  refine r_iload_n (k := 2) rfl rfl dX10_opens_18 ?_
  obtain ⟨c3, H⟩ := H
  refine r_iast rfl rfl rfl c3 g2 dX10_opens_19 ?_
  refine r_mm (fun M4 e4 => ?_)
  have H := H M4 e4
  have hM4 : sl_RM M4 := by rw [e4]; exact sl_wr_RM hM2 g2
  refine r_aload_n (k := 0) rfl rfl dX10_opens_20 ?_
  refine r_dup rfl dX10_opens_21 ?_
  refine r_gI (k := 12) (kz := 12) rfl ckX10 rfl rfl (by decide) rfl rfl fl_X10_165 dX10_opens_22 ?_
  refine r_iconst dX10_opens_25 ?_
  refine r_iadd dX10_opens_26 ?_
  obtain ⟨c5, H⟩ := H
  refine r_pI (k := 12) (kz := 12) rfl ckX10 rfl rfl (by decide) rfl rfl rfl rfl fl_X10_165 c5 dX10_opens_27 ?_
  refine r_mm (fun M6 e6 => ?_)
  have H := H M6 e6
  have hM6 : sl_RM M6 := by rw [e6]; exact sl_wr_RM hM4 c5
  refine r_vret rfl dX10_opens_30 ?_
  exact H
theorem eX10_opens {l : Launch} {M : sl_M} {Q : sl_R} {x1 x2 : Int} (k : sl_At l mX10_opens 0 [(0, vR 1 0), (1, vI x1), (2, vI x2)] [] M Q) : sl_Runs l mX10_opens [vR 1 0, vI x1, vI x2] M Q := sl_Runs.of (ls := [(0, vR 1 0), (1, vI x1), (2, vI x2)]) rfl rfl (fun _ => rfl) (fun _ => Nat.le_of_ble_eq_true rfl) rfl (k)
theorem dX10_readsStatement_0 : decode cX10_readsStatement 0 = .ok (.iload_n 1, 1) := by decide +kernel
theorem dX10_readsStatement_1 : decode cX10_readsStatement 1 = .ok (.invokestatic 168, 3) := by decide +kernel
theorem dX10_readsStatement_4 : decode cX10_readsStatement 4 = .ok (.istore_n 2, 1) := by decide +kernel
theorem dX10_readsStatement_5 : decode cX10_readsStatement 5 = .ok (.iload_n 2, 1) := by decide +kernel
theorem dX10_readsStatement_6 : decode cX10_readsStatement 6 = .ok (.iconst 3, 1) := by decide +kernel
theorem dX10_readsStatement_7 : decode cX10_readsStatement 7 = .ok (.if_icmp .eq 8, 3) := by decide +kernel
theorem dX10_readsStatement_10 : decode cX10_readsStatement 10 = .ok (.iload_n 2, 1) := by decide +kernel
theorem dX10_readsStatement_11 : decode cX10_readsStatement 11 = .ok (.iconst 4, 1) := by decide +kernel
theorem dX10_readsStatement_12 : decode cX10_readsStatement 12 = .ok (.if_icmp .ne 7, 3) := by decide +kernel
theorem dX10_readsStatement_15 : decode cX10_readsStatement 15 = .ok (.iconst 1, 1) := by decide +kernel
theorem dX10_readsStatement_16 : decode cX10_readsStatement 16 = .ok (.goto 4, 3) := by decide +kernel
theorem dX10_readsStatement_19 : decode cX10_readsStatement 19 = .ok (.iconst 0, 1) := by decide +kernel
theorem dX10_readsStatement_20 : decode cX10_readsStatement 20 = .ok (.istore_n 3, 1) := by decide +kernel
theorem dX10_readsStatement_21 : decode cX10_readsStatement 21 = .ok (.iload_n 2, 1) := by decide +kernel
theorem dX10_readsStatement_22 : decode cX10_readsStatement 22 = .ok (.iconst (-1), 1) := by decide +kernel
theorem dX10_readsStatement_23 : decode cX10_readsStatement 23 = .ok (.if_icmp .eq 25, 3) := by decide +kernel
theorem dX10_readsStatement_26 : decode cX10_readsStatement 26 = .ok (.aload_n 0, 1) := by decide +kernel
theorem dX10_readsStatement_27 : decode cX10_readsStatement 27 = .ok (.getfield 19, 3) := by decide +kernel
theorem dX10_readsStatement_30 : decode cX10_readsStatement 30 = .ok (.iconst 0, 1) := by decide +kernel
theorem dX10_readsStatement_31 : decode cX10_readsStatement 31 = .ok (.iaload, 1) := by decide +kernel
theorem dX10_readsStatement_32 : decode cX10_readsStatement 32 = .ok (.bipush 40, 2) := by decide +kernel
theorem dX10_readsStatement_34 : decode cX10_readsStatement 34 = .ok (.if_icmp .eq 14, 3) := by decide +kernel
theorem dX10_readsStatement_37 : decode cX10_readsStatement 37 = .ok (.iload_n 3, 1) := by decide +kernel
theorem dX10_readsStatement_38 : decode cX10_readsStatement 38 = .ok (.ifCond .eq 12, 3) := by decide +kernel
theorem dX10_readsStatement_41 : decode cX10_readsStatement 41 = .ok (.aload_n 0, 1) := by decide +kernel
theorem dX10_readsStatement_42 : decode cX10_readsStatement 42 = .ok (.invokevirtual 172, 3) := by decide +kernel
theorem dX10_readsStatement_45 : decode cX10_readsStatement 45 = .ok (.ifCond .ne 5, 3) := by decide +kernel
theorem dX10_readsStatement_48 : decode cX10_readsStatement 48 = .ok (.iconst 0, 1) := by decide +kernel
theorem dX10_readsStatement_49 : decode cX10_readsStatement 49 = .ok (.ireturn, 1) := by decide +kernel
theorem dX10_readsStatement_50 : decode cX10_readsStatement 50 = .ok (.aload_n 0, 1) := by decide +kernel
theorem dX10_readsStatement_51 : decode cX10_readsStatement 51 = .ok (.getfield 19, 3) := by decide +kernel
theorem dX10_readsStatement_54 : decode cX10_readsStatement 54 = .ok (.iconst 0, 1) := by decide +kernel
theorem dX10_readsStatement_55 : decode cX10_readsStatement 55 = .ok (.iaload, 1) := by decide +kernel
theorem dX10_readsStatement_56 : decode cX10_readsStatement 56 = .ok (.istore 4, 2) := by decide +kernel
theorem dX10_readsStatement_58 : decode cX10_readsStatement 58 = .ok (.aload_n 0, 1) := by decide +kernel
theorem dX10_readsStatement_59 : decode cX10_readsStatement 59 = .ok (.getfield 19, 3) := by decide +kernel
theorem dX10_readsStatement_62 : decode cX10_readsStatement 62 = .ok (.iconst 0, 1) := by decide +kernel
theorem dX10_readsStatement_63 : decode cX10_readsStatement 63 = .ok (.dup2, 1) := by decide +kernel
theorem dX10_readsStatement_64 : decode cX10_readsStatement 64 = .ok (.iaload, 1) := by decide +kernel
theorem dX10_readsStatement_65 : decode cX10_readsStatement 65 = .ok (.iconst 1, 1) := by decide +kernel
theorem dX10_readsStatement_66 : decode cX10_readsStatement 66 = .ok (.iadd, 1) := by decide +kernel
theorem dX10_readsStatement_67 : decode cX10_readsStatement 67 = .ok (.iastore, 1) := by decide +kernel
theorem dX10_readsStatement_68 : decode cX10_readsStatement 68 = .ok (.aload_n 0, 1) := by decide +kernel
theorem dX10_readsStatement_69 : decode cX10_readsStatement 69 = .ok (.getfield 19, 3) := by decide +kernel
theorem dX10_readsStatement_72 : decode cX10_readsStatement 72 = .ok (.iconst 1, 1) := by decide +kernel
theorem dX10_readsStatement_73 : decode cX10_readsStatement 73 = .ok (.iload 4, 2) := by decide +kernel
theorem dX10_readsStatement_75 : decode cX10_readsStatement 75 = .ok (.iadd, 1) := by decide +kernel
theorem dX10_readsStatement_76 : decode cX10_readsStatement 76 = .ok (.iload_n 2, 1) := by decide +kernel
theorem dX10_readsStatement_77 : decode cX10_readsStatement 77 = .ok (.iastore, 1) := by decide +kernel
theorem dX10_readsStatement_78 : decode cX10_readsStatement 78 = .ok (.aload_n 0, 1) := by decide +kernel
theorem dX10_readsStatement_79 : decode cX10_readsStatement 79 = .ok (.getfield 19, 3) := by decide +kernel
theorem dX10_readsStatement_82 : decode cX10_readsStatement 82 = .ok (.bipush 81, 2) := by decide +kernel
theorem dX10_readsStatement_84 : decode cX10_readsStatement 84 = .ok (.iload 4, 2) := by decide +kernel
theorem dX10_readsStatement_86 : decode cX10_readsStatement 86 = .ok (.iadd, 1) := by decide +kernel
theorem dX10_readsStatement_87 : decode cX10_readsStatement 87 = .ok (.aload_n 0, 1) := by decide +kernel
theorem dX10_readsStatement_88 : decode cX10_readsStatement 88 = .ok (.getfield 165, 3) := by decide +kernel
theorem dX10_readsStatement_91 : decode cX10_readsStatement 91 = .ok (.ifCond .ne 7, 3) := by decide +kernel
theorem dX10_readsStatement_94 : decode cX10_readsStatement 94 = .ok (.iconst (-1), 1) := by decide +kernel
theorem dX10_readsStatement_95 : decode cX10_readsStatement 95 = .ok (.goto 14, 3) := by decide +kernel
theorem dX10_readsStatement_98 : decode cX10_readsStatement 98 = .ok (.aload_n 0, 1) := by decide +kernel
theorem dX10_readsStatement_99 : decode cX10_readsStatement 99 = .ok (.getfield 22, 3) := by decide +kernel
theorem dX10_readsStatement_102 : decode cX10_readsStatement 102 = .ok (.aload_n 0, 1) := by decide +kernel
theorem dX10_readsStatement_103 : decode cX10_readsStatement 103 = .ok (.getfield 165, 3) := by decide +kernel
theorem dX10_readsStatement_106 : decode cX10_readsStatement 106 = .ok (.iconst 1, 1) := by decide +kernel
theorem dX10_readsStatement_107 : decode cX10_readsStatement 107 = .ok (.isub, 1) := by decide +kernel
theorem dX10_readsStatement_108 : decode cX10_readsStatement 108 = .ok (.iaload, 1) := by decide +kernel
theorem dX10_readsStatement_109 : decode cX10_readsStatement 109 = .ok (.iastore, 1) := by decide +kernel
theorem dX10_readsStatement_110 : decode cX10_readsStatement 110 = .ok (.aload_n 0, 1) := by decide +kernel
theorem dX10_readsStatement_111 : decode cX10_readsStatement 111 = .ok (.getfield 19, 3) := by decide +kernel
theorem dX10_readsStatement_114 : decode cX10_readsStatement 114 = .ok (.bipush 121, 2) := by decide +kernel
theorem dX10_readsStatement_116 : decode cX10_readsStatement 116 = .ok (.iload 4, 2) := by decide +kernel
theorem dX10_readsStatement_118 : decode cX10_readsStatement 118 = .ok (.iadd, 1) := by decide +kernel
theorem dX10_readsStatement_119 : decode cX10_readsStatement 119 = .ok (.aload_n 0, 1) := by decide +kernel
theorem dX10_readsStatement_120 : decode cX10_readsStatement 120 = .ok (.getfield 165, 3) := by decide +kernel
theorem dX10_readsStatement_123 : decode cX10_readsStatement 123 = .ok (.ifCond .ne 7, 3) := by decide +kernel
theorem dX10_readsStatement_126 : decode cX10_readsStatement 126 = .ok (.iconst 0, 1) := by decide +kernel
theorem dX10_readsStatement_127 : decode cX10_readsStatement 127 = .ok (.goto 14, 3) := by decide +kernel
theorem dX10_readsStatement_130 : decode cX10_readsStatement 130 = .ok (.aload_n 0, 1) := by decide +kernel
theorem dX10_readsStatement_131 : decode cX10_readsStatement 131 = .ok (.getfield 25, 3) := by decide +kernel
theorem dX10_readsStatement_134 : decode cX10_readsStatement 134 = .ok (.aload_n 0, 1) := by decide +kernel
theorem dX10_readsStatement_135 : decode cX10_readsStatement 135 = .ok (.getfield 165, 3) := by decide +kernel
theorem dX10_readsStatement_138 : decode cX10_readsStatement 138 = .ok (.iconst 1, 1) := by decide +kernel
theorem dX10_readsStatement_139 : decode cX10_readsStatement 139 = .ok (.isub, 1) := by decide +kernel
theorem dX10_readsStatement_140 : decode cX10_readsStatement 140 = .ok (.iaload, 1) := by decide +kernel
theorem dX10_readsStatement_141 : decode cX10_readsStatement 141 = .ok (.iastore, 1) := by decide +kernel
theorem dX10_readsStatement_142 : decode cX10_readsStatement 142 = .ok (.aload_n 0, 1) := by decide +kernel
theorem dX10_readsStatement_143 : decode cX10_readsStatement 143 = .ok (.getfield 19, 3) := by decide +kernel
theorem dX10_readsStatement_146 : decode cX10_readsStatement 146 = .ok (.sipush 161, 3) := by decide +kernel
theorem dX10_readsStatement_149 : decode cX10_readsStatement 149 = .ok (.iload 4, 2) := by decide +kernel
theorem dX10_readsStatement_151 : decode cX10_readsStatement 151 = .ok (.iadd, 1) := by decide +kernel
theorem dX10_readsStatement_152 : decode cX10_readsStatement 152 = .ok (.iconst 0, 1) := by decide +kernel
theorem dX10_readsStatement_153 : decode cX10_readsStatement 153 = .ok (.iastore, 1) := by decide +kernel
theorem dX10_readsStatement_154 : decode cX10_readsStatement 154 = .ok (.aload_n 0, 1) := by decide +kernel
theorem dX10_readsStatement_155 : decode cX10_readsStatement 155 = .ok (.getfield 19, 3) := by decide +kernel
theorem dX10_readsStatement_158 : decode cX10_readsStatement 158 = .ok (.sipush 201, 3) := by decide +kernel
theorem dX10_readsStatement_161 : decode cX10_readsStatement 161 = .ok (.iload 4, 2) := by decide +kernel
theorem dX10_readsStatement_163 : decode cX10_readsStatement 163 = .ok (.iadd, 1) := by decide +kernel
theorem dX10_readsStatement_164 : decode cX10_readsStatement 164 = .ok (.iload_n 2, 1) := by decide +kernel
theorem dX10_readsStatement_165 : decode cX10_readsStatement 165 = .ok (.ifCond .ne 10, 3) := by decide +kernel
theorem dX10_readsStatement_168 : decode cX10_readsStatement 168 = .ok (.iload_n 1, 1) := by decide +kernel
theorem dX10_readsStatement_169 : decode cX10_readsStatement 169 = .ok (.bipush 97, 2) := by decide +kernel
theorem dX10_readsStatement_171 : decode cX10_readsStatement 171 = .ok (.isub, 1) := by decide +kernel
theorem dX10_readsStatement_172 : decode cX10_readsStatement 172 = .ok (.goto 4, 3) := by decide +kernel
theorem dX10_readsStatement_175 : decode cX10_readsStatement 175 = .ok (.iconst (-1), 1) := by decide +kernel
theorem dX10_readsStatement_176 : decode cX10_readsStatement 176 = .ok (.iastore, 1) := by decide +kernel
theorem dX10_readsStatement_177 : decode cX10_readsStatement 177 = .ok (.aload_n 0, 1) := by decide +kernel
theorem dX10_readsStatement_178 : decode cX10_readsStatement 178 = .ok (.getfield 19, 3) := by decide +kernel
theorem dX10_readsStatement_181 : decode cX10_readsStatement 181 = .ok (.sipush 241, 3) := by decide +kernel
theorem dX10_readsStatement_184 : decode cX10_readsStatement 184 = .ok (.iload 4, 2) := by decide +kernel
theorem dX10_readsStatement_186 : decode cX10_readsStatement 186 = .ok (.iadd, 1) := by decide +kernel
theorem dX10_readsStatement_187 : decode cX10_readsStatement 187 = .ok (.iconst 0, 1) := by decide +kernel
theorem dX10_readsStatement_188 : decode cX10_readsStatement 188 = .ok (.iastore, 1) := by decide +kernel
theorem dX10_readsStatement_189 : decode cX10_readsStatement 189 = .ok (.aload_n 0, 1) := by decide +kernel
theorem dX10_readsStatement_190 : decode cX10_readsStatement 190 = .ok (.getfield 19, 3) := by decide +kernel
theorem dX10_readsStatement_193 : decode cX10_readsStatement 193 = .ok (.bipush 41, 2) := by decide +kernel
theorem dX10_readsStatement_195 : decode cX10_readsStatement 195 = .ok (.iload 4, 2) := by decide +kernel
theorem dX10_readsStatement_197 : decode cX10_readsStatement 197 = .ok (.iadd, 1) := by decide +kernel
theorem dX10_readsStatement_198 : decode cX10_readsStatement 198 = .ok (.iload 4, 2) := by decide +kernel
theorem dX10_readsStatement_200 : decode cX10_readsStatement 200 = .ok (.iconst 1, 1) := by decide +kernel
theorem dX10_readsStatement_201 : decode cX10_readsStatement 201 = .ok (.iadd, 1) := by decide +kernel
theorem dX10_readsStatement_202 : decode cX10_readsStatement 202 = .ok (.iastore, 1) := by decide +kernel
theorem dX10_readsStatement_203 : decode cX10_readsStatement 203 = .ok (.iload_n 2, 1) := by decide +kernel
theorem dX10_readsStatement_204 : decode cX10_readsStatement 204 = .ok (.ifCond .ne 14, 3) := by decide +kernel
theorem dX10_readsStatement_207 : decode cX10_readsStatement 207 = .ok (.aload_n 0, 1) := by decide +kernel
theorem dX10_readsStatement_208 : decode cX10_readsStatement 208 = .ok (.invokevirtual 158, 3) := by decide +kernel
theorem dX10_readsStatement_211 : decode cX10_readsStatement 211 = .ok (.bipush 61, 2) := by decide +kernel
theorem dX10_readsStatement_213 : decode cX10_readsStatement 213 = .ok (.if_icmp .eq 5, 3) := by decide +kernel
theorem dX10_readsStatement_216 : decode cX10_readsStatement 216 = .ok (.iconst 0, 1) := by decide +kernel
theorem dX10_readsStatement_217 : decode cX10_readsStatement 217 = .ok (.ireturn, 1) := by decide +kernel
theorem dX10_readsStatement_218 : decode cX10_readsStatement 218 = .ok (.iload_n 3, 1) := by decide +kernel
theorem dX10_readsStatement_219 : decode cX10_readsStatement 219 = .ok (.ifCond .ne 14, 3) := by decide +kernel
theorem dX10_readsStatement_222 : decode cX10_readsStatement 222 = .ok (.aload_n 0, 1) := by decide +kernel
theorem dX10_readsStatement_223 : decode cX10_readsStatement 223 = .ok (.iload 4, 2) := by decide +kernel
theorem dX10_readsStatement_225 : decode cX10_readsStatement 225 = .ok (.invokevirtual 176, 3) := by decide +kernel
theorem dX10_readsStatement_228 : decode cX10_readsStatement 228 = .ok (.ifCond .ne 5, 3) := by decide +kernel
theorem dX10_readsStatement_231 : decode cX10_readsStatement 231 = .ok (.iconst 0, 1) := by decide +kernel
theorem dX10_readsStatement_232 : decode cX10_readsStatement 232 = .ok (.ireturn, 1) := by decide +kernel
theorem dX10_readsStatement_233 : decode cX10_readsStatement 233 = .ok (.iload_n 2, 1) := by decide +kernel
theorem dX10_readsStatement_234 : decode cX10_readsStatement 234 = .ok (.iconst 5, 1) := by decide +kernel
theorem dX10_readsStatement_235 : decode cX10_readsStatement 235 = .ok (.if_icmp .eq 9, 3) := by decide +kernel
theorem dX10_readsStatement_238 : decode cX10_readsStatement 238 = .ok (.iload_n 2, 1) := by decide +kernel
theorem dX10_readsStatement_239 : decode cX10_readsStatement 239 = .ok (.bipush 6, 2) := by decide +kernel
theorem dX10_readsStatement_241 : decode cX10_readsStatement 241 = .ok (.if_icmp .ne 25, 3) := by decide +kernel
theorem dX10_readsStatement_244 : decode cX10_readsStatement 244 = .ok (.aload_n 0, 1) := by decide +kernel
theorem dX10_readsStatement_245 : decode cX10_readsStatement 245 = .ok (.iload 4, 2) := by decide +kernel
theorem dX10_readsStatement_247 : decode cX10_readsStatement 247 = .ok (.iconst 0, 1) := by decide +kernel
theorem dX10_readsStatement_248 : decode cX10_readsStatement 248 = .ok (.invokevirtual 179, 3) := by decide +kernel
theorem dX10_readsStatement_251 : decode cX10_readsStatement 251 = .ok (.aload_n 0, 1) := by decide +kernel
theorem dX10_readsStatement_252 : decode cX10_readsStatement 252 = .ok (.invokevirtual 158, 3) := by decide +kernel
theorem dX10_readsStatement_255 : decode cX10_readsStatement 255 = .ok (.bipush 123, 2) := by decide +kernel
theorem dX10_readsStatement_257 : decode cX10_readsStatement 257 = .ok (.if_icmp .ne 7, 3) := by decide +kernel
theorem dX10_readsStatement_260 : decode cX10_readsStatement 260 = .ok (.iconst 1, 1) := by decide +kernel
theorem dX10_readsStatement_261 : decode cX10_readsStatement 261 = .ok (.goto 4, 3) := by decide +kernel
theorem dX10_readsStatement_264 : decode cX10_readsStatement 264 = .ok (.iconst 0, 1) := by decide +kernel
theorem dX10_readsStatement_265 : decode cX10_readsStatement 265 = .ok (.ireturn, 1) := by decide +kernel
theorem dX10_readsStatement_266 : decode cX10_readsStatement 266 = .ok (.aload_n 0, 1) := by decide +kernel
theorem dX10_readsStatement_267 : decode cX10_readsStatement 267 = .ok (.invokevirtual 158, 3) := by decide +kernel
theorem dX10_readsStatement_270 : decode cX10_readsStatement 270 = .ok (.bipush 59, 2) := by decide +kernel
theorem dX10_readsStatement_272 : decode cX10_readsStatement 272 = .ok (.if_icmp .ne 7, 3) := by decide +kernel
theorem dX10_readsStatement_275 : decode cX10_readsStatement 275 = .ok (.iconst 1, 1) := by decide +kernel
theorem dX10_readsStatement_276 : decode cX10_readsStatement 276 = .ok (.goto 4, 3) := by decide +kernel
theorem dX10_readsStatement_279 : decode cX10_readsStatement 279 = .ok (.iconst 0, 1) := by decide +kernel
theorem dX10_readsStatement_280 : decode cX10_readsStatement 280 = .ok (.ireturn, 1) := by decide +kernel
set_option maxHeartbeats 4000000 in
set_option maxRecDepth 10000 in
theorem vX10_readsStatement_0 {l : Launch} {M : sl_M} {Q : sl_R} {x1 : Int} (H : sl_RM M → sl_rg x1 → sl_RI l mX10_kindOf [vI x1] M (fun y2 M1 => (∀ y5 : Int, y5 = (if (y2 = 3) ∨ (¬ (y2 ≠ 4)) then 1 else 0) → ((y2 = (-1)) → Q (some (vI 0)) M1) ∧ ((¬ (y2 = (-1))) → ((M1 1 12 0 = 40) → Q (some (vI 0)) M1) ∧ ((¬ (M1 1 12 0 = 40)) → ((¬ ((y2 = 3) ∨ (¬ (y2 ≠ 4)))) → sl_At l mX10_readsStatement 50 [(0, vR 1 0), (1, vI x1), (2, vI y2), (3, vI y5)] [] M1 Q) ∧ (((y2 = 3) ∨ (¬ (y2 ≠ 4))) → sl_RI l mX10_isInLoop [vR 1 0] M1 (fun y10 M9 => ((y10 ≠ 0) → sl_At l mX10_readsStatement 50 [(0, vR 1 0), (1, vI x1), (2, vI y2), (3, vI y5)] [] M9 Q) ∧ ((¬ (y10 ≠ 0)) → Q (some (vI 0)) M9)))))))) : sl_At l mX10_readsStatement 0 [(0, vR 1 0), (1, vI x1)] [] M Q := by
  refine sl_At.in (fun hM hls => ?_)
  have g1 : sl_rg x1 := hls _ (List.mem_of_getElem? (i := 1) rfl)
  have H := H hM g1
  refine r_iload_n (k := 1) rfl rfl dX10_readsStatement_0 ?_
  refine r_callS (g := mX10_kindOf) rfl mkX10_kindOf msX10_kindOf ml_X10_168 ⟨by decide, by decide⟩ rfl (Nat.le_of_ble_eq_true rfl) rfl (ok_i g1 ok_n) dX10_readsStatement_1 (sl_afterI (sl_RI.mono (fun y2 M1 gy2 hM1 H => ?_) H))
  refine r_istore_n (ls' := [(2, vI y2), (0, vR 1 0), (1, vI x1)]) gy2 rfl (by decide) rfl dX10_readsStatement_4 ?_
  refine r_iload_n (k := 0) rfl rfl dX10_readsStatement_5 ?_
  refine r_iconst dX10_readsStatement_6 ?_
  have J : sl_At l mX10_readsStatement 20 [(2, vI y2), (0, vR 1 0), (1, vI x1)] [vI (if (y2 = 3) ∨ (¬ (y2 ≠ 4)) then 1 else 0)] M1 Q := by
    refine r_nm (fun y5 fy5 => ?_)
    have H := H y5 fy5
    have gy5 : sl_rg y5 := by rw [fy5]; exact rg_b
    refine r_istore_n (ls' := [(3, vI y5), (2, vI y2), (0, vR 1 0), (1, vI x1)]) gy5 rfl (by decide) rfl dX10_readsStatement_20 ?_
    refine r_iload_n (k := 1) rfl rfl dX10_readsStatement_21 ?_
    refine r_iconst dX10_readsStatement_22 ?_
    refine r_icmp_eq (tgt := 48) gy2 ⟨by decide, by decide⟩ dX10_readsStatement_23 (by decide) (fun h6 => ?_) (fun h6 => ?_)
    · have H := H.1 h6
      refine r_iconst dX10_readsStatement_48 ?_
      refine r_zret rfl (Or.inl rfl) dX10_readsStatement_49 ?_
      exact H
    · have H := H.2 h6
      refine r_aload_n (k := 2) rfl rfl dX10_readsStatement_26 ?_
      refine r_getR (k := 11) (o' := 1) (i' := 12) ckX10 rfl rfl (by decide) rfl rfl rfl fl_X10_19 dX10_readsStatement_27 ?_
      refine r_iconst dX10_readsStatement_30 ?_
      refine r_iald rfl rfl rfl ⟨by decide, by decide⟩ dX10_readsStatement_31 ?_
      refine r_bipush dX10_readsStatement_32 (by decide) ?_
      refine r_icmp_eq (tgt := 48) (hM1 _ _ _) ⟨by decide, by decide⟩ dX10_readsStatement_34 (by decide) (fun h7 => ?_) (fun h7 => ?_)
      · have H := H.1 h7
        refine r_iconst dX10_readsStatement_48 ?_
        refine r_zret rfl (Or.inl rfl) dX10_readsStatement_49 ?_
        exact H
      · have H := H.2 h7
        refine r_iload_n (k := 0) rfl rfl dX10_readsStatement_37 ?_
        refine r_if_eq (tgt := 50) gy5 dX10_readsStatement_38 (by decide) (fun h8 => ?_) (fun h8 => ?_)
        · have H := H.1 (b_eq0.mp (fy5.symm.trans h8))
          exact sl_At.sub [2, 3, 1, 0] rfl H
        · have H := H.2 (b_ne0.mp (fun q => h8 (fy5.trans q)))
          refine r_aload_n (k := 2) rfl rfl dX10_readsStatement_41 ?_
          refine r_callV (g := mX10_isInLoop) ckX10 rfl rfl rfl rfl mkX10_isInLoop mvX10_isInLoop ml_X10_172 ⟨by decide, by decide⟩ rfl (Nat.le_of_ble_eq_true rfl) rfl ok_n dX10_readsStatement_42 (sl_afterI (sl_RI.mono (fun y10 M9 gy10 hM9 H => ?_) H))
          refine r_if_ne (tgt := 50) gy10 dX10_readsStatement_45 (by decide) (fun h11 => ?_) (fun h11 => ?_)
          · have H := H.1 h11
            exact sl_At.sub [2, 3, 1, 0] rfl H
          · have H := H.2 h11
            refine r_iconst dX10_readsStatement_48 ?_
            refine r_zret rfl (Or.inl rfl) dX10_readsStatement_49 ?_
            exact H
  refine r_icmp_eq (tgt := 15) gy2 ⟨by decide, by decide⟩ dX10_readsStatement_7 (by decide) (fun h3 => ?_) (fun h3 => ?_)
  · refine r_iconst dX10_readsStatement_15 ?_
    refine r_goto (tgt := 20) dX10_readsStatement_16 (by decide) ?_
    rw [if_pos (show (y2 = 3) ∨ (¬ (y2 ≠ 4)) by omega)] at J
    exact J
  · refine r_iload_n (k := 0) rfl rfl dX10_readsStatement_10 ?_
    refine r_iconst dX10_readsStatement_11 ?_
    refine r_icmp_ne (tgt := 19) gy2 ⟨by decide, by decide⟩ dX10_readsStatement_12 (by decide) (fun h4 => ?_) (fun h4 => ?_)
    · refine r_iconst dX10_readsStatement_19 ?_
      rw [if_neg (show ¬ ((y2 = 3) ∨ (¬ (y2 ≠ 4))) by omega)] at J
      exact J
    · refine r_iconst dX10_readsStatement_15 ?_
      refine r_goto (tgt := 20) dX10_readsStatement_16 (by decide) ?_
      rw [if_pos (show (y2 = 3) ∨ (¬ (y2 ≠ 4)) by omega)] at J
      exact J
set_option maxHeartbeats 4000000 in
set_option maxRecDepth 10000 in
theorem vX10_readsStatement_15 {l : Launch} {M : sl_M} {Q : sl_R} {x1 x2 : Int} (H : sl_RM M → sl_rg x1 → sl_rg x2 → ((x2 = (-1)) → Q (some (vI 0)) M) ∧ ((¬ (x2 = (-1))) → ((M 1 12 0 = 40) → Q (some (vI 0)) M) ∧ ((¬ (M 1 12 0 = 40)) → (((1 : Int) = 0) → sl_At l mX10_readsStatement 50 [(0, vR 1 0), (1, vI x1), (2, vI x2), (3, vI 1)] [] M Q) ∧ ((¬ ((1 : Int) = 0)) → sl_RI l mX10_isInLoop [vR 1 0] M (fun y5 M4 => ((y5 ≠ 0) → sl_At l mX10_readsStatement 50 [(0, vR 1 0), (1, vI x1), (2, vI x2), (3, vI 1)] [] M4 Q) ∧ ((¬ (y5 ≠ 0)) → Q (some (vI 0)) M4)))))) : sl_At l mX10_readsStatement 15 [(0, vR 1 0), (1, vI x1), (2, vI x2)] [] M Q := by
  refine sl_At.in (fun hM hls => ?_)
  have g1 : sl_rg x1 := hls _ (List.mem_of_getElem? (i := 1) rfl)
  have g2 : sl_rg x2 := hls _ (List.mem_of_getElem? (i := 2) rfl)
  have H := H hM g1 g2
  refine r_iconst dX10_readsStatement_15 ?_
  refine r_goto (tgt := 20) dX10_readsStatement_16 (by decide) ?_
  refine r_istore_n (ls' := [(3, vI 1), (0, vR 1 0), (1, vI x1), (2, vI x2)]) ⟨by decide, by decide⟩ rfl (by decide) rfl dX10_readsStatement_20 ?_
  refine r_iload_n (k := 3) rfl rfl dX10_readsStatement_21 ?_
  refine r_iconst dX10_readsStatement_22 ?_
  refine r_icmp_eq (tgt := 48) g2 ⟨by decide, by decide⟩ dX10_readsStatement_23 (by decide) (fun h1 => ?_) (fun h1 => ?_)
  · have H := H.1 h1
    refine r_iconst dX10_readsStatement_48 ?_
    refine r_zret rfl (Or.inl rfl) dX10_readsStatement_49 ?_
    exact H
  · have H := H.2 h1
    refine r_aload_n (k := 1) rfl rfl dX10_readsStatement_26 ?_
    refine r_getR (k := 11) (o' := 1) (i' := 12) ckX10 rfl rfl (by decide) rfl rfl rfl fl_X10_19 dX10_readsStatement_27 ?_
    refine r_iconst dX10_readsStatement_30 ?_
    refine r_iald rfl rfl rfl ⟨by decide, by decide⟩ dX10_readsStatement_31 ?_
    refine r_bipush dX10_readsStatement_32 (by decide) ?_
    refine r_icmp_eq (tgt := 48) (hM _ _ _) ⟨by decide, by decide⟩ dX10_readsStatement_34 (by decide) (fun h2 => ?_) (fun h2 => ?_)
    · have H := H.1 h2
      refine r_iconst dX10_readsStatement_48 ?_
      refine r_zret rfl (Or.inl rfl) dX10_readsStatement_49 ?_
      exact H
    · have H := H.2 h2
      refine r_iload_n (k := 0) rfl rfl dX10_readsStatement_37 ?_
      refine r_if_eq (tgt := 50) ⟨by decide, by decide⟩ dX10_readsStatement_38 (by decide) (fun h3 => ?_) (fun h3 => ?_)
      · have H := H.1 h3
        exact sl_At.sub [1, 2, 3, 0] rfl H
      · have H := H.2 h3
        refine r_aload_n (k := 1) rfl rfl dX10_readsStatement_41 ?_
        refine r_callV (g := mX10_isInLoop) ckX10 rfl rfl rfl rfl mkX10_isInLoop mvX10_isInLoop ml_X10_172 ⟨by decide, by decide⟩ rfl (Nat.le_of_ble_eq_true rfl) rfl ok_n dX10_readsStatement_42 (sl_afterI (sl_RI.mono (fun y5 M4 gy5 hM4 H => ?_) H))
        refine r_if_ne (tgt := 50) gy5 dX10_readsStatement_45 (by decide) (fun h6 => ?_) (fun h6 => ?_)
        · have H := H.1 h6
          exact sl_At.sub [1, 2, 3, 0] rfl H
        · have H := H.2 h6
          refine r_iconst dX10_readsStatement_48 ?_
          refine r_zret rfl (Or.inl rfl) dX10_readsStatement_49 ?_
          exact H
set_option maxHeartbeats 4000000 in
set_option maxRecDepth 10000 in
theorem vX10_readsStatement_50 {l : Launch} {M : sl_M} {Q : sl_R} {x1 x2 x3 : Int} (H : sl_RM M → sl_rg x1 → sl_rg x2 → sl_rg x3 → (sl_rg (M 1 12 0 + 1)) ∧ (∀ M2, M2 = sl_wr M 1 12 0 (M 1 12 0 + 1) → (0 ≤ 1 + (M 1 12 0) ∧ 1 + (M 1 12 0) < 990) ∧ (∀ M4, M4 = sl_wr M2 1 12 (1 + (M 1 12 0)) x2 → (((M4 1 0 12 ≠ 0) → (0 ≤ M4 1 0 12 - 1 ∧ M4 1 0 12 - 1 < 41))) ∧ (0 ≤ 81 + (M 1 12 0) ∧ 81 + (M 1 12 0) < 990) ∧ (∀ M8, M8 = sl_wr M4 1 12 (81 + (M 1 12 0)) (if M4 1 0 12 ≠ 0 then M4 1 14 (M4 1 0 12 - 1) else (-1)) → (((M8 1 0 12 ≠ 0) → (0 ≤ M8 1 0 12 - 1 ∧ M8 1 0 12 - 1 < 41))) ∧ (0 ≤ 121 + (M 1 12 0) ∧ 121 + (M 1 12 0) < 990) ∧ (∀ M12, M12 = sl_wr M8 1 12 (121 + (M 1 12 0)) (if M8 1 0 12 ≠ 0 then M8 1 15 (M8 1 0 12 - 1) else 0) → (0 ≤ 161 + (M 1 12 0) ∧ 161 + (M 1 12 0) < 990) ∧ (∀ M14, M14 = sl_wr M12 1 12 (161 + (M 1 12 0)) 0 → (0 ≤ 201 + (M 1 12 0) ∧ 201 + (M 1 12 0) < 990) ∧ (sl_rg (if x2 ≠ 0 then (-1) else x1 - 97)) ∧ (∀ M18, M18 = sl_wr M14 1 12 (201 + (M 1 12 0)) (if x2 ≠ 0 then (-1) else x1 - 97) → (0 ≤ 241 + (M 1 12 0) ∧ 241 + (M 1 12 0) < 990) ∧ (∀ M20, M20 = sl_wr M18 1 12 (241 + (M 1 12 0)) 0 → (0 ≤ 41 + (M 1 12 0) ∧ 41 + (M 1 12 0) < 990) ∧ (∀ M22, M22 = sl_wr M20 1 12 (41 + (M 1 12 0)) (M 1 12 0 + 1) → ((x2 ≠ 0) → ((x3 ≠ 0) → sl_At l mX10_readsStatement 233 [(0, vR 1 0), (2, vI x2), (4, vI (M 1 12 0))] [] M22 Q) ∧ ((¬ (x3 ≠ 0)) → sl_RI l mX10_readsE [vR 1 0, vI (M 1 12 0)] M22 (fun y26 M25 => ((y26 ≠ 0) → sl_At l mX10_readsStatement 233 [(0, vR 1 0), (2, vI x2), (4, vI (M 1 12 0))] [] M25 Q) ∧ ((¬ (y26 ≠ 0)) → Q (some (vI 0)) M25)))) ∧ ((¬ (x2 ≠ 0)) → sl_RI l mX10_take [vR 1 0] M22 (fun y29 M28 => ((y29 = 61) → ((x3 ≠ 0) → sl_At l mX10_readsStatement 233 [(0, vR 1 0), (2, vI x2), (4, vI (M 1 12 0))] [] M28 Q) ∧ ((¬ (x3 ≠ 0)) → sl_RI l mX10_readsE [vR 1 0, vI (M 1 12 0)] M28 (fun y33 M32 => ((y33 ≠ 0) → sl_At l mX10_readsStatement 233 [(0, vR 1 0), (2, vI x2), (4, vI (M 1 12 0))] [] M32 Q) ∧ ((¬ (y33 ≠ 0)) → Q (some (vI 0)) M32)))) ∧ ((¬ (y29 = 61)) → Q (some (vI 0)) M28)))))))))))) : sl_At l mX10_readsStatement 50 [(0, vR 1 0), (1, vI x1), (2, vI x2), (3, vI x3)] [] M Q := by
  refine sl_At.in (fun hM hls => ?_)
  have g1 : sl_rg x1 := hls _ (List.mem_of_getElem? (i := 1) rfl)
  have g2 : sl_rg x2 := hls _ (List.mem_of_getElem? (i := 2) rfl)
  have g3 : sl_rg x3 := hls _ (List.mem_of_getElem? (i := 3) rfl)
  have H := H hM g1 g2 g3
  refine r_aload_n (k := 0) rfl rfl dX10_readsStatement_50 ?_
  refine r_getR (k := 11) (o' := 1) (i' := 12) ckX10 rfl rfl (by decide) rfl rfl rfl fl_X10_19 dX10_readsStatement_51 ?_
  refine r_iconst dX10_readsStatement_54 ?_
  refine r_iald rfl rfl rfl ⟨by decide, by decide⟩ dX10_readsStatement_55 ?_
  refine r_istore (ls' := [(4, vI (M 1 12 0)), (0, vR 1 0), (1, vI x1), (2, vI x2), (3, vI x3)]) (hM _ _ _) (by decide) rfl dX10_readsStatement_56 ?_
  refine r_aload_n (k := 1) rfl rfl dX10_readsStatement_58 ?_
  refine r_getR (k := 11) (o' := 1) (i' := 12) ckX10 rfl rfl (by decide) rfl rfl rfl fl_X10_19 dX10_readsStatement_59 ?_
  refine r_iconst dX10_readsStatement_62 ?_
  refine r_dup2 rfl rfl dX10_readsStatement_63 ?_
  refine r_iald rfl rfl rfl ⟨by decide, by decide⟩ dX10_readsStatement_64 ?_
  refine r_iconst dX10_readsStatement_65 ?_
  refine r_iadd dX10_readsStatement_66 ?_
  obtain ⟨c1, H⟩ := H
  refine r_iast rfl rfl rfl ⟨by decide, by decide⟩ c1 dX10_readsStatement_67 ?_
  refine r_mm (fun M2 e2 => ?_)
  have H := H M2 e2
  have hM2 : sl_RM M2 := by rw [e2]; exact sl_wr_RM hM c1
  refine r_aload_n (k := 1) rfl rfl dX10_readsStatement_68 ?_
  refine r_getR (k := 11) (o' := 1) (i' := 12) ckX10 rfl rfl (by decide) rfl rfl rfl fl_X10_19 dX10_readsStatement_69 ?_
  refine r_iconst dX10_readsStatement_72 ?_
  refine r_iload (k := 0) rfl dX10_readsStatement_73 ?_
  refine r_iadd dX10_readsStatement_75 ?_
  refine r_iload_n (k := 3) rfl rfl dX10_readsStatement_76 ?_
  obtain ⟨c3, H⟩ := H
  refine r_iast rfl rfl rfl c3 g2 dX10_readsStatement_77 ?_
  refine r_mm (fun M4 e4 => ?_)
  have H := H M4 e4
  have hM4 : sl_RM M4 := by rw [e4]; exact sl_wr_RM hM2 g2
  refine r_aload_n (k := 1) rfl rfl dX10_readsStatement_78 ?_
  refine r_getR (k := 11) (o' := 1) (i' := 12) ckX10 rfl rfl (by decide) rfl rfl rfl fl_X10_19 dX10_readsStatement_79 ?_
  refine r_bipush dX10_readsStatement_82 (by decide) ?_
  refine r_iload (k := 0) rfl dX10_readsStatement_84 ?_
  refine r_iadd dX10_readsStatement_86 ?_
  refine r_aload_n (k := 1) rfl rfl dX10_readsStatement_87 ?_
  refine r_gI (k := 12) (kz := 12) rfl ckX10 rfl rfl (by decide) rfl rfl fl_X10_165 dX10_readsStatement_88 ?_
  obtain ⟨K, H⟩ := H
  have J : sl_At l mX10_readsStatement 109 [(4, vI (M 1 12 0)), (0, vR 1 0), (1, vI x1), (2, vI x2), (3, vI x3)] [vI (if M4 1 0 12 ≠ 0 then M4 1 14 (M4 1 0 12 - 1) else (-1)), vI (81 + (M 1 12 0)), vR 1 12] M4 Q := by
    obtain ⟨c7, H⟩ := H
    refine r_iast rfl rfl rfl c7 (sl_rgite (hM4 _ _ _) ⟨by decide, by decide⟩) dX10_readsStatement_109 ?_
    refine r_mm (fun M8 e8 => ?_)
    have H := H M8 e8
    have hM8 : sl_RM M8 := by rw [e8]; exact sl_wr_RM hM4 (sl_rgite (hM4 _ _ _) ⟨by decide, by decide⟩)
    refine r_aload_n (k := 1) rfl rfl dX10_readsStatement_110 ?_
    refine r_getR (k := 11) (o' := 1) (i' := 12) ckX10 rfl rfl (by decide) rfl rfl rfl fl_X10_19 dX10_readsStatement_111 ?_
    refine r_bipush dX10_readsStatement_114 (by decide) ?_
    refine r_iload (k := 0) rfl dX10_readsStatement_116 ?_
    refine r_iadd dX10_readsStatement_118 ?_
    refine r_aload_n (k := 1) rfl rfl dX10_readsStatement_119 ?_
    refine r_gI (k := 12) (kz := 12) rfl ckX10 rfl rfl (by decide) rfl rfl fl_X10_165 dX10_readsStatement_120 ?_
    obtain ⟨K, H⟩ := H
    have J : sl_At l mX10_readsStatement 141 [(4, vI (M 1 12 0)), (0, vR 1 0), (1, vI x1), (2, vI x2), (3, vI x3)] [vI (if M8 1 0 12 ≠ 0 then M8 1 15 (M8 1 0 12 - 1) else 0), vI (121 + (M 1 12 0)), vR 1 12] M8 Q := by
      obtain ⟨c11, H⟩ := H
      refine r_iast rfl rfl rfl c11 (sl_rgite (hM8 _ _ _) ⟨by decide, by decide⟩) dX10_readsStatement_141 ?_
      refine r_mm (fun M12 e12 => ?_)
      have H := H M12 e12
      have hM12 : sl_RM M12 := by rw [e12]; exact sl_wr_RM hM8 (sl_rgite (hM8 _ _ _) ⟨by decide, by decide⟩)
      refine r_aload_n (k := 1) rfl rfl dX10_readsStatement_142 ?_
      refine r_getR (k := 11) (o' := 1) (i' := 12) ckX10 rfl rfl (by decide) rfl rfl rfl fl_X10_19 dX10_readsStatement_143 ?_
      refine r_sipush dX10_readsStatement_146 (by decide) ?_
      refine r_iload (k := 0) rfl dX10_readsStatement_149 ?_
      refine r_iadd dX10_readsStatement_151 ?_
      refine r_iconst dX10_readsStatement_152 ?_
      obtain ⟨c13, H⟩ := H
      refine r_iast rfl rfl rfl c13 ⟨by decide, by decide⟩ dX10_readsStatement_153 ?_
      refine r_mm (fun M14 e14 => ?_)
      have H := H M14 e14
      have hM14 : sl_RM M14 := by rw [e14]; exact sl_wr_RM hM12 ⟨by decide, by decide⟩
      refine r_aload_n (k := 1) rfl rfl dX10_readsStatement_154 ?_
      refine r_getR (k := 11) (o' := 1) (i' := 12) ckX10 rfl rfl (by decide) rfl rfl rfl fl_X10_19 dX10_readsStatement_155 ?_
      refine r_sipush dX10_readsStatement_158 (by decide) ?_
      refine r_iload (k := 0) rfl dX10_readsStatement_161 ?_
      refine r_iadd dX10_readsStatement_163 ?_
      refine r_iload_n (k := 3) rfl rfl dX10_readsStatement_164 ?_
      have J : sl_At l mX10_readsStatement 176 [(4, vI (M 1 12 0)), (0, vR 1 0), (1, vI x1), (2, vI x2), (3, vI x3)] [vI (if x2 ≠ 0 then (-1) else x1 - 97), vI (201 + (M 1 12 0)), vR 1 12] M14 Q := by
        obtain ⟨c16, H⟩ := H
        obtain ⟨c17, H⟩ := H
        refine r_iast rfl rfl rfl c16 c17 dX10_readsStatement_176 ?_
        refine r_mm (fun M18 e18 => ?_)
        have H := H M18 e18
        have hM18 : sl_RM M18 := by rw [e18]; exact sl_wr_RM hM14 c17
        refine r_aload_n (k := 1) rfl rfl dX10_readsStatement_177 ?_
        refine r_getR (k := 11) (o' := 1) (i' := 12) ckX10 rfl rfl (by decide) rfl rfl rfl fl_X10_19 dX10_readsStatement_178 ?_
        refine r_sipush dX10_readsStatement_181 (by decide) ?_
        refine r_iload (k := 0) rfl dX10_readsStatement_184 ?_
        refine r_iadd dX10_readsStatement_186 ?_
        refine r_iconst dX10_readsStatement_187 ?_
        obtain ⟨c19, H⟩ := H
        refine r_iast rfl rfl rfl c19 ⟨by decide, by decide⟩ dX10_readsStatement_188 ?_
        refine r_mm (fun M20 e20 => ?_)
        have H := H M20 e20
        have hM20 : sl_RM M20 := by rw [e20]; exact sl_wr_RM hM18 ⟨by decide, by decide⟩
        refine r_aload_n (k := 1) rfl rfl dX10_readsStatement_189 ?_
        refine r_getR (k := 11) (o' := 1) (i' := 12) ckX10 rfl rfl (by decide) rfl rfl rfl fl_X10_19 dX10_readsStatement_190 ?_
        refine r_bipush dX10_readsStatement_193 (by decide) ?_
        refine r_iload (k := 0) rfl dX10_readsStatement_195 ?_
        refine r_iadd dX10_readsStatement_197 ?_
        refine r_iload (k := 0) rfl dX10_readsStatement_198 ?_
        refine r_iconst dX10_readsStatement_200 ?_
        refine r_iadd dX10_readsStatement_201 ?_
        obtain ⟨c21, H⟩ := H
        refine r_iast rfl rfl rfl c21 c1 dX10_readsStatement_202 ?_
        refine r_mm (fun M22 e22 => ?_)
        have H := H M22 e22
        have hM22 : sl_RM M22 := by rw [e22]; exact sl_wr_RM hM20 c1
        refine r_iload_n (k := 3) rfl rfl dX10_readsStatement_203 ?_
        refine r_if_ne (tgt := 218) g2 dX10_readsStatement_204 (by decide) (fun h23 => ?_) (fun h23 => ?_)
        · have H := H.1 h23
          refine r_iload_n (k := 4) rfl rfl dX10_readsStatement_218 ?_
          refine r_if_ne (tgt := 233) g3 dX10_readsStatement_219 (by decide) (fun h24 => ?_) (fun h24 => ?_)
          · have H := H.1 h24
            exact sl_At.sub [1, 3, 0] rfl H
          · have H := H.2 h24
            refine r_aload_n (k := 1) rfl rfl dX10_readsStatement_222 ?_
            refine r_iload (k := 0) rfl dX10_readsStatement_223 ?_
            refine r_callV (g := mX10_readsE) ckX10 rfl rfl rfl rfl mkX10_readsE mvX10_readsE ml_X10_176 ⟨by decide, by decide⟩ rfl (Nat.le_of_ble_eq_true rfl) rfl (ok_i (hM _ _ _) ok_n) dX10_readsStatement_225 (sl_afterI (sl_RI.mono (fun y26 M25 gy26 hM25 H => ?_) H))
            refine r_if_ne (tgt := 233) gy26 dX10_readsStatement_228 (by decide) (fun h27 => ?_) (fun h27 => ?_)
            · have H := H.1 h27
              exact sl_At.sub [1, 3, 0] rfl H
            · have H := H.2 h27
              refine r_iconst dX10_readsStatement_231 ?_
              refine r_zret rfl (Or.inl rfl) dX10_readsStatement_232 ?_
              exact H
        · have H := H.2 h23
          refine r_aload_n (k := 1) rfl rfl dX10_readsStatement_207 ?_
          refine r_callV (g := mX10_take) ckX10 rfl rfl rfl rfl mkX10_take mvX10_take ml_X10_158 ⟨by decide, by decide⟩ rfl (Nat.le_of_ble_eq_true rfl) rfl ok_n dX10_readsStatement_208 (sl_afterI (sl_RI.mono (fun y29 M28 gy29 hM28 H => ?_) H))
          refine r_bipush dX10_readsStatement_211 (by decide) ?_
          refine r_icmp_eq (tgt := 218) gy29 ⟨by decide, by decide⟩ dX10_readsStatement_213 (by decide) (fun h30 => ?_) (fun h30 => ?_)
          · have H := H.1 h30
            refine r_iload_n (k := 4) rfl rfl dX10_readsStatement_218 ?_
            refine r_if_ne (tgt := 233) g3 dX10_readsStatement_219 (by decide) (fun h31 => ?_) (fun h31 => ?_)
            · have H := H.1 h31
              exact sl_At.sub [1, 3, 0] rfl H
            · have H := H.2 h31
              refine r_aload_n (k := 1) rfl rfl dX10_readsStatement_222 ?_
              refine r_iload (k := 0) rfl dX10_readsStatement_223 ?_
              refine r_callV (g := mX10_readsE) ckX10 rfl rfl rfl rfl mkX10_readsE mvX10_readsE ml_X10_176 ⟨by decide, by decide⟩ rfl (Nat.le_of_ble_eq_true rfl) rfl (ok_i (hM _ _ _) ok_n) dX10_readsStatement_225 (sl_afterI (sl_RI.mono (fun y33 M32 gy33 hM32 H => ?_) H))
              refine r_if_ne (tgt := 233) gy33 dX10_readsStatement_228 (by decide) (fun h34 => ?_) (fun h34 => ?_)
              · have H := H.1 h34
                exact sl_At.sub [1, 3, 0] rfl H
              · have H := H.2 h34
                refine r_iconst dX10_readsStatement_231 ?_
                refine r_zret rfl (Or.inl rfl) dX10_readsStatement_232 ?_
                exact H
          · have H := H.2 h30
            refine r_iconst dX10_readsStatement_216 ?_
            refine r_zret rfl (Or.inl rfl) dX10_readsStatement_217 ?_
            exact H
      refine r_if_ne (tgt := 175) g2 dX10_readsStatement_165 (by decide) (fun h15 => ?_) (fun h15 => ?_)
      · refine r_iconst dX10_readsStatement_175 ?_
        rw [if_pos h15] at J
        exact J
      · refine r_iload_n (k := 2) rfl rfl dX10_readsStatement_168 ?_
        refine r_bipush dX10_readsStatement_169 (by decide) ?_
        refine r_isub dX10_readsStatement_171 ?_
        refine r_goto (tgt := 176) dX10_readsStatement_172 (by decide) ?_
        rw [if_neg h15] at J
        exact J
    refine r_if_ne (tgt := 130) (hM8 _ _ _) dX10_readsStatement_123 (by decide) (fun h10 => ?_) (fun h10 => ?_)
    · replace K := K h10
      have c9 := K
      refine r_aload_n (k := 1) rfl rfl dX10_readsStatement_130 ?_
      refine r_getR (k := 14) (o' := 1) (i' := 15) ckX10 rfl rfl (by decide) rfl rfl rfl fl_X10_25 dX10_readsStatement_131 ?_
      refine r_aload_n (k := 1) rfl rfl dX10_readsStatement_134 ?_
      refine r_gI (k := 12) (kz := 12) rfl ckX10 rfl rfl (by decide) rfl rfl fl_X10_165 dX10_readsStatement_135 ?_
      refine r_iconst dX10_readsStatement_138 ?_
      refine r_isub dX10_readsStatement_139 ?_
      refine r_iald rfl rfl rfl c9 dX10_readsStatement_140 ?_
      rw [if_pos h10] at J
      exact J
    · refine r_iconst dX10_readsStatement_126 ?_
      refine r_goto (tgt := 141) dX10_readsStatement_127 (by decide) ?_
      rw [if_neg h10] at J
      exact J
  refine r_if_ne (tgt := 98) (hM4 _ _ _) dX10_readsStatement_91 (by decide) (fun h6 => ?_) (fun h6 => ?_)
  · replace K := K h6
    have c5 := K
    refine r_aload_n (k := 1) rfl rfl dX10_readsStatement_98 ?_
    refine r_getR (k := 13) (o' := 1) (i' := 14) ckX10 rfl rfl (by decide) rfl rfl rfl fl_X10_22 dX10_readsStatement_99 ?_
    refine r_aload_n (k := 1) rfl rfl dX10_readsStatement_102 ?_
    refine r_gI (k := 12) (kz := 12) rfl ckX10 rfl rfl (by decide) rfl rfl fl_X10_165 dX10_readsStatement_103 ?_
    refine r_iconst dX10_readsStatement_106 ?_
    refine r_isub dX10_readsStatement_107 ?_
    refine r_iald rfl rfl rfl c5 dX10_readsStatement_108 ?_
    rw [if_pos h6] at J
    exact J
  · refine r_iconst dX10_readsStatement_94 ?_
    refine r_goto (tgt := 109) dX10_readsStatement_95 (by decide) ?_
    rw [if_neg h6] at J
    exact J
set_option maxHeartbeats 4000000 in
set_option maxRecDepth 10000 in
theorem vX10_readsStatement_233 {l : Launch} {M : sl_M} {Q : sl_R} {x2 x4 : Int} (H : sl_RM M → sl_rg x2 → sl_rg x4 → ((x2 = 5) → sl_At l mX10_readsStatement 244 [(0, vR 1 0), (4, vI x4)] [] M Q) ∧ ((¬ (x2 = 5)) → ((x2 ≠ 6) → sl_RI l mX10_take [vR 1 0] M (fun y4 M3 => Q (some (vI (if ¬ (y4 ≠ 59) then 1 else 0))) M3)) ∧ ((¬ (x2 ≠ 6)) → sl_At l mX10_readsStatement 244 [(0, vR 1 0), (4, vI x4)] [] M Q))) : sl_At l mX10_readsStatement 233 [(0, vR 1 0), (2, vI x2), (4, vI x4)] [] M Q := by
  refine sl_At.in (fun hM hls => ?_)
  have g2 : sl_rg x2 := hls _ (List.mem_of_getElem? (i := 1) rfl)
  have g4 : sl_rg x4 := hls _ (List.mem_of_getElem? (i := 2) rfl)
  have H := H hM g2 g4
  refine r_iload_n (k := 1) rfl rfl dX10_readsStatement_233 ?_
  refine r_iconst dX10_readsStatement_234 ?_
  refine r_icmp_eq (tgt := 244) g2 ⟨by decide, by decide⟩ dX10_readsStatement_235 (by decide) (fun h1 => ?_) (fun h1 => ?_)
  · have H := H.1 h1
    exact sl_At.sub [0, 2] rfl H
  · have H := H.2 h1
    refine r_iload_n (k := 1) rfl rfl dX10_readsStatement_238 ?_
    refine r_bipush dX10_readsStatement_239 (by decide) ?_
    refine r_icmp_ne (tgt := 266) g2 ⟨by decide, by decide⟩ dX10_readsStatement_241 (by decide) (fun h2 => ?_) (fun h2 => ?_)
    · have H := H.1 h2
      refine r_aload_n (k := 0) rfl rfl dX10_readsStatement_266 ?_
      refine r_callV (g := mX10_take) ckX10 rfl rfl rfl rfl mkX10_take mvX10_take ml_X10_158 ⟨by decide, by decide⟩ rfl (Nat.le_of_ble_eq_true rfl) rfl ok_n dX10_readsStatement_267 (sl_afterI (sl_RI.mono (fun y4 M3 gy4 hM3 H => ?_) H))
      refine r_bipush dX10_readsStatement_270 (by decide) ?_
      have J : sl_At l mX10_readsStatement 280 [(0, vR 1 0), (2, vI x2), (4, vI x4)] [vI (if ¬ (y4 ≠ 59) then 1 else 0)] M3 Q := by
        refine r_zret rfl b_01 dX10_readsStatement_280 ?_
        exact H
      refine r_icmp_ne (tgt := 279) gy4 ⟨by decide, by decide⟩ dX10_readsStatement_272 (by decide) (fun h5 => ?_) (fun h5 => ?_)
      · refine r_iconst dX10_readsStatement_279 ?_
        rw [if_neg (show ¬ (¬ (y4 ≠ 59)) by omega)] at J
        exact J
      · refine r_iconst dX10_readsStatement_275 ?_
        refine r_goto (tgt := 280) dX10_readsStatement_276 (by decide) ?_
        rw [if_pos (show ¬ (y4 ≠ 59) by omega)] at J
        exact J
    · have H := H.2 h2
      exact sl_At.sub [0, 2] rfl H
set_option maxHeartbeats 4000000 in
set_option maxRecDepth 10000 in
theorem vX10_readsStatement_244 {l : Launch} {M : sl_M} {Q : sl_R} {x4 : Int} (H : sl_RM M → sl_rg x4 → sl_RV l mX10_opens [vR 1 0, vI x4, vI 0] M (fun M1 => sl_RI l mX10_take [vR 1 0] M1 (fun y3 M2 => Q (some (vI (if ¬ (y3 ≠ 123) then 1 else 0))) M2))) : sl_At l mX10_readsStatement 244 [(0, vR 1 0), (4, vI x4)] [] M Q := by
  refine sl_At.in (fun hM hls => ?_)
  have g4 : sl_rg x4 := hls _ (List.mem_of_getElem? (i := 1) rfl)
  have H := H hM g4
  refine r_aload_n (k := 0) rfl rfl dX10_readsStatement_244 ?_
  refine r_iload (k := 1) rfl dX10_readsStatement_245 ?_
  refine r_iconst dX10_readsStatement_247 ?_
  refine r_callV (g := mX10_opens) ckX10 rfl rfl rfl rfl mkX10_opens mvX10_opens ml_X10_179 ⟨by decide, by decide⟩ rfl (Nat.le_of_ble_eq_true rfl) rfl (ok_i g4 (ok_i ⟨by decide, by decide⟩ ok_n)) dX10_readsStatement_248 (sl_afterV (sl_RV.mono (fun M1 hM1 H => ?_) H))
  refine r_aload_n (k := 0) rfl rfl dX10_readsStatement_251 ?_
  refine r_callV (g := mX10_take) ckX10 rfl rfl rfl rfl mkX10_take mvX10_take ml_X10_158 ⟨by decide, by decide⟩ rfl (Nat.le_of_ble_eq_true rfl) rfl ok_n dX10_readsStatement_252 (sl_afterI (sl_RI.mono (fun y3 M2 gy3 hM2 H => ?_) H))
  refine r_bipush dX10_readsStatement_255 (by decide) ?_
  have J : sl_At l mX10_readsStatement 265 [(0, vR 1 0), (4, vI x4)] [vI (if ¬ (y3 ≠ 123) then 1 else 0)] M2 Q := by
    refine r_zret rfl b_01 dX10_readsStatement_265 ?_
    exact H
  refine r_icmp_ne (tgt := 264) gy3 ⟨by decide, by decide⟩ dX10_readsStatement_257 (by decide) (fun h4 => ?_) (fun h4 => ?_)
  · refine r_iconst dX10_readsStatement_264 ?_
    rw [if_neg (show ¬ (¬ (y3 ≠ 123)) by omega)] at J
    exact J
  · refine r_iconst dX10_readsStatement_260 ?_
    refine r_goto (tgt := 265) dX10_readsStatement_261 (by decide) ?_
    rw [if_pos (show ¬ (y3 ≠ 123) by omega)] at J
    exact J
theorem eX10_readsStatement {l : Launch} {M : sl_M} {Q : sl_R} {x1 : Int} (k : sl_At l mX10_readsStatement 0 [(0, vR 1 0), (1, vI x1)] [] M Q) : sl_Runs l mX10_readsStatement [vR 1 0, vI x1] M Q := sl_Runs.of (ls := [(0, vR 1 0), (1, vI x1)]) rfl rfl (fun _ => rfl) (fun _ => Nat.le_of_ble_eq_true rfl) rfl (k)
theorem dX10_closes_0 : decode cX10_closes 0 = .ok (.aload_n 0, 1) := by decide +kernel
theorem dX10_closes_1 : decode cX10_closes 1 = .ok (.dup, 1) := by decide +kernel
theorem dX10_closes_2 : decode cX10_closes 2 = .ok (.getfield 165, 3) := by decide +kernel
theorem dX10_closes_5 : decode cX10_closes 5 = .ok (.iconst 1, 1) := by decide +kernel
theorem dX10_closes_6 : decode cX10_closes 6 = .ok (.isub, 1) := by decide +kernel
theorem dX10_closes_7 : decode cX10_closes 7 = .ok (.putfield 165, 3) := by decide +kernel
theorem dX10_closes_10 : decode cX10_closes 10 = .ok (.aload_n 0, 1) := by decide +kernel
theorem dX10_closes_11 : decode cX10_closes 11 = .ok (.getfield 22, 3) := by decide +kernel
theorem dX10_closes_14 : decode cX10_closes 14 = .ok (.aload_n 0, 1) := by decide +kernel
theorem dX10_closes_15 : decode cX10_closes 15 = .ok (.getfield 165, 3) := by decide +kernel
theorem dX10_closes_18 : decode cX10_closes 18 = .ok (.iaload, 1) := by decide +kernel
theorem dX10_closes_19 : decode cX10_closes 19 = .ok (.istore_n 1, 1) := by decide +kernel
theorem dX10_closes_20 : decode cX10_closes 20 = .ok (.aload_n 0, 1) := by decide +kernel
theorem dX10_closes_21 : decode cX10_closes 21 = .ok (.getfield 19, 3) := by decide +kernel
theorem dX10_closes_24 : decode cX10_closes 24 = .ok (.bipush 41, 2) := by decide +kernel
theorem dX10_closes_26 : decode cX10_closes 26 = .ok (.iload_n 1, 1) := by decide +kernel
theorem dX10_closes_27 : decode cX10_closes 27 = .ok (.iadd, 1) := by decide +kernel
theorem dX10_closes_28 : decode cX10_closes 28 = .ok (.aload_n 0, 1) := by decide +kernel
theorem dX10_closes_29 : decode cX10_closes 29 = .ok (.getfield 19, 3) := by decide +kernel
theorem dX10_closes_32 : decode cX10_closes 32 = .ok (.iconst 0, 1) := by decide +kernel
theorem dX10_closes_33 : decode cX10_closes 33 = .ok (.iaload, 1) := by decide +kernel
theorem dX10_closes_34 : decode cX10_closes 34 = .ok (.iastore, 1) := by decide +kernel
theorem dX10_closes_35 : decode cX10_closes 35 = .ok (.aload_n 0, 1) := by decide +kernel
theorem dX10_closes_36 : decode cX10_closes 36 = .ok (.getfield 19, 3) := by decide +kernel
theorem dX10_closes_39 : decode cX10_closes 39 = .ok (.iconst 1, 1) := by decide +kernel
theorem dX10_closes_40 : decode cX10_closes 40 = .ok (.iload_n 1, 1) := by decide +kernel
theorem dX10_closes_41 : decode cX10_closes 41 = .ok (.iadd, 1) := by decide +kernel
theorem dX10_closes_42 : decode cX10_closes 42 = .ok (.iaload, 1) := by decide +kernel
theorem dX10_closes_43 : decode cX10_closes 43 = .ok (.iconst 5, 1) := by decide +kernel
theorem dX10_closes_44 : decode cX10_closes 44 = .ok (.if_icmp .ne 46, 3) := by decide +kernel
theorem dX10_closes_47 : decode cX10_closes 47 = .ok (.aload_n 0, 1) := by decide +kernel
theorem dX10_closes_48 : decode cX10_closes 48 = .ok (.getfield 25, 3) := by decide +kernel
theorem dX10_closes_51 : decode cX10_closes 51 = .ok (.aload_n 0, 1) := by decide +kernel
theorem dX10_closes_52 : decode cX10_closes 52 = .ok (.getfield 165, 3) := by decide +kernel
theorem dX10_closes_55 : decode cX10_closes 55 = .ok (.iaload, 1) := by decide +kernel
theorem dX10_closes_56 : decode cX10_closes 56 = .ok (.ifCond .ne 34, 3) := by decide +kernel
theorem dX10_closes_59 : decode cX10_closes 59 = .ok (.aload_n 0, 1) := by decide +kernel
theorem dX10_closes_60 : decode cX10_closes 60 = .ok (.invokevirtual 155, 3) := by decide +kernel
theorem dX10_closes_63 : decode cX10_closes 63 = .ok (.bipush 123, 2) := by decide +kernel
theorem dX10_closes_65 : decode cX10_closes 65 = .ok (.if_icmp .ne 25, 3) := by decide +kernel
theorem dX10_closes_68 : decode cX10_closes 68 = .ok (.aload_n 0, 1) := by decide +kernel
theorem dX10_closes_69 : decode cX10_closes 69 = .ok (.invokevirtual 158, 3) := by decide +kernel
theorem dX10_closes_72 : decode cX10_closes 72 = .ok (.pop, 1) := by decide +kernel
theorem dX10_closes_73 : decode cX10_closes 73 = .ok (.aload_n 0, 1) := by decide +kernel
theorem dX10_closes_74 : decode cX10_closes 74 = .ok (.getfield 19, 3) := by decide +kernel
theorem dX10_closes_77 : decode cX10_closes 77 = .ok (.sipush 161, 3) := by decide +kernel
theorem dX10_closes_80 : decode cX10_closes 80 = .ok (.iload_n 1, 1) := by decide +kernel
theorem dX10_closes_81 : decode cX10_closes 81 = .ok (.iadd, 1) := by decide +kernel
theorem dX10_closes_82 : decode cX10_closes 82 = .ok (.iconst 1, 1) := by decide +kernel
theorem dX10_closes_83 : decode cX10_closes 83 = .ok (.iastore, 1) := by decide +kernel
theorem dX10_closes_84 : decode cX10_closes 84 = .ok (.aload_n 0, 1) := by decide +kernel
theorem dX10_closes_85 : decode cX10_closes 85 = .ok (.iload_n 1, 1) := by decide +kernel
theorem dX10_closes_86 : decode cX10_closes 86 = .ok (.iconst 1, 1) := by decide +kernel
theorem dX10_closes_87 : decode cX10_closes 87 = .ok (.invokevirtual 179, 3) := by decide +kernel
theorem dX10_closes_90 : decode cX10_closes 90 = .ok (.return_, 1) := by decide +kernel
set_option maxHeartbeats 4000000 in
set_option maxRecDepth 10000 in
theorem vX10_closes_0 {l : Launch} {M : sl_M} {Q : sl_R} (H : sl_RM M → (sl_rg (M 1 0 12 - 1)) ∧ (∀ M2, M2 = sl_wr M 1 0 12 (M 1 0 12 - 1) → (0 ≤ M2 1 0 12 ∧ M2 1 0 12 < 41) ∧ (0 ≤ 41 + (M2 1 14 (M2 1 0 12)) ∧ 41 + (M2 1 14 (M2 1 0 12)) < 990) ∧ (∀ M5, M5 = sl_wr M2 1 12 (41 + (M2 1 14 (M2 1 0 12))) (M2 1 12 0) → (0 ≤ 1 + (M2 1 14 (M2 1 0 12)) ∧ 1 + (M2 1 14 (M2 1 0 12)) < 990) ∧ ((M5 1 12 (1 + (M2 1 14 (M2 1 0 12))) ≠ 5) → Q none M5) ∧ ((¬ (M5 1 12 (1 + (M2 1 14 (M2 1 0 12))) ≠ 5)) → (0 ≤ M5 1 0 12 ∧ M5 1 0 12 < 41) ∧ ((M5 1 15 (M5 1 0 12) ≠ 0) → Q none M5) ∧ ((¬ (M5 1 15 (M5 1 0 12) ≠ 0)) → sl_RI l mX10_look [vR 1 0] M5 (fun y11 M10 => ((y11 ≠ 123) → Q none M10) ∧ ((¬ (y11 ≠ 123)) → sl_RI l mX10_take [vR 1 0] M10 (fun y14 M13 => (0 ≤ 161 + (M2 1 14 (M2 1 0 12)) ∧ 161 + (M2 1 14 (M2 1 0 12)) < 990) ∧ (∀ M16, M16 = sl_wr M13 1 12 (161 + (M2 1 14 (M2 1 0 12))) 1 → sl_RV l mX10_opens [vR 1 0, vI (M2 1 14 (M2 1 0 12)), vI 1] M16 (fun M17 => Q none M17)))))))))) : sl_At l mX10_closes 0 [(0, vR 1 0)] [] M Q := by
  refine sl_At.in (fun hM hls => ?_)
  have H := H hM
  refine r_aload_n (k := 0) rfl rfl dX10_closes_0 ?_
  refine r_dup rfl dX10_closes_1 ?_
  refine r_gI (k := 12) (kz := 12) rfl ckX10 rfl rfl (by decide) rfl rfl fl_X10_165 dX10_closes_2 ?_
  refine r_iconst dX10_closes_5 ?_
  refine r_isub dX10_closes_6 ?_
  obtain ⟨c1, H⟩ := H
  refine r_pI (k := 12) (kz := 12) rfl ckX10 rfl rfl (by decide) rfl rfl rfl rfl fl_X10_165 c1 dX10_closes_7 ?_
  refine r_mm (fun M2 e2 => ?_)
  have H := H M2 e2
  have hM2 : sl_RM M2 := by rw [e2]; exact sl_wr_RM hM c1
  refine r_aload_n (k := 0) rfl rfl dX10_closes_10 ?_
  refine r_getR (k := 13) (o' := 1) (i' := 14) ckX10 rfl rfl (by decide) rfl rfl rfl fl_X10_22 dX10_closes_11 ?_
  refine r_aload_n (k := 0) rfl rfl dX10_closes_14 ?_
  refine r_gI (k := 12) (kz := 12) rfl ckX10 rfl rfl (by decide) rfl rfl fl_X10_165 dX10_closes_15 ?_
  obtain ⟨c3, H⟩ := H
  refine r_iald rfl rfl rfl c3 dX10_closes_18 ?_
  refine r_istore_n (ls' := [(1, vI (M2 1 14 (M2 1 0 12))), (0, vR 1 0)]) (hM2 _ _ _) rfl (by decide) rfl dX10_closes_19 ?_
  refine r_aload_n (k := 1) rfl rfl dX10_closes_20 ?_
  refine r_getR (k := 11) (o' := 1) (i' := 12) ckX10 rfl rfl (by decide) rfl rfl rfl fl_X10_19 dX10_closes_21 ?_
  refine r_bipush dX10_closes_24 (by decide) ?_
  refine r_iload_n (k := 0) rfl rfl dX10_closes_26 ?_
  refine r_iadd dX10_closes_27 ?_
  refine r_aload_n (k := 1) rfl rfl dX10_closes_28 ?_
  refine r_getR (k := 11) (o' := 1) (i' := 12) ckX10 rfl rfl (by decide) rfl rfl rfl fl_X10_19 dX10_closes_29 ?_
  refine r_iconst dX10_closes_32 ?_
  refine r_iald rfl rfl rfl ⟨by decide, by decide⟩ dX10_closes_33 ?_
  obtain ⟨c4, H⟩ := H
  refine r_iast rfl rfl rfl c4 (hM2 _ _ _) dX10_closes_34 ?_
  refine r_mm (fun M5 e5 => ?_)
  have H := H M5 e5
  have hM5 : sl_RM M5 := by rw [e5]; exact sl_wr_RM hM2 (hM2 _ _ _)
  refine r_aload_n (k := 1) rfl rfl dX10_closes_35 ?_
  refine r_getR (k := 11) (o' := 1) (i' := 12) ckX10 rfl rfl (by decide) rfl rfl rfl fl_X10_19 dX10_closes_36 ?_
  refine r_iconst dX10_closes_39 ?_
  refine r_iload_n (k := 0) rfl rfl dX10_closes_40 ?_
  refine r_iadd dX10_closes_41 ?_
  obtain ⟨c6, H⟩ := H
  refine r_iald rfl rfl rfl c6 dX10_closes_42 ?_
  refine r_iconst dX10_closes_43 ?_
  refine r_icmp_ne (tgt := 90) (hM5 _ _ _) ⟨by decide, by decide⟩ dX10_closes_44 (by decide) (fun h7 => ?_) (fun h7 => ?_)
  · have H := H.1 h7
    refine r_vret rfl dX10_closes_90 ?_
    exact H
  · have H := H.2 h7
    refine r_aload_n (k := 1) rfl rfl dX10_closes_47 ?_
    refine r_getR (k := 14) (o' := 1) (i' := 15) ckX10 rfl rfl (by decide) rfl rfl rfl fl_X10_25 dX10_closes_48 ?_
    refine r_aload_n (k := 1) rfl rfl dX10_closes_51 ?_
    refine r_gI (k := 12) (kz := 12) rfl ckX10 rfl rfl (by decide) rfl rfl fl_X10_165 dX10_closes_52 ?_
    obtain ⟨c8, H⟩ := H
    refine r_iald rfl rfl rfl c8 dX10_closes_55 ?_
    refine r_if_ne (tgt := 90) (hM5 _ _ _) dX10_closes_56 (by decide) (fun h9 => ?_) (fun h9 => ?_)
    · have H := H.1 h9
      refine r_vret rfl dX10_closes_90 ?_
      exact H
    · have H := H.2 h9
      refine r_aload_n (k := 1) rfl rfl dX10_closes_59 ?_
      refine r_callV (g := mX10_look) ckX10 rfl rfl rfl rfl mkX10_look mvX10_look ml_X10_155 ⟨by decide, by decide⟩ rfl (Nat.le_of_ble_eq_true rfl) rfl ok_n dX10_closes_60 (sl_afterI (sl_RI.mono (fun y11 M10 gy11 hM10 H => ?_) H))
      refine r_bipush dX10_closes_63 (by decide) ?_
      refine r_icmp_ne (tgt := 90) gy11 ⟨by decide, by decide⟩ dX10_closes_65 (by decide) (fun h12 => ?_) (fun h12 => ?_)
      · have H := H.1 h12
        refine r_vret rfl dX10_closes_90 ?_
        exact H
      · have H := H.2 h12
        refine r_aload_n (k := 1) rfl rfl dX10_closes_68 ?_
        refine r_callV (g := mX10_take) ckX10 rfl rfl rfl rfl mkX10_take mvX10_take ml_X10_158 ⟨by decide, by decide⟩ rfl (Nat.le_of_ble_eq_true rfl) rfl ok_n dX10_closes_69 (sl_afterI (sl_RI.mono (fun y14 M13 gy14 hM13 H => ?_) H))
        refine r_pop rfl dX10_closes_72 ?_
        refine r_aload_n (k := 1) rfl rfl dX10_closes_73 ?_
        refine r_getR (k := 11) (o' := 1) (i' := 12) ckX10 rfl rfl (by decide) rfl rfl rfl fl_X10_19 dX10_closes_74 ?_
        refine r_sipush dX10_closes_77 (by decide) ?_
        refine r_iload_n (k := 0) rfl rfl dX10_closes_80 ?_
        refine r_iadd dX10_closes_81 ?_
        refine r_iconst dX10_closes_82 ?_
        obtain ⟨c15, H⟩ := H
        refine r_iast rfl rfl rfl c15 ⟨by decide, by decide⟩ dX10_closes_83 ?_
        refine r_mm (fun M16 e16 => ?_)
        have H := H M16 e16
        have hM16 : sl_RM M16 := by rw [e16]; exact sl_wr_RM hM13 ⟨by decide, by decide⟩
        refine r_aload_n (k := 1) rfl rfl dX10_closes_84 ?_
        refine r_iload_n (k := 0) rfl rfl dX10_closes_85 ?_
        refine r_iconst dX10_closes_86 ?_
        refine r_callV (g := mX10_opens) ckX10 rfl rfl rfl rfl mkX10_opens mvX10_opens ml_X10_179 ⟨by decide, by decide⟩ rfl (Nat.le_of_ble_eq_true rfl) rfl (ok_i (hM2 _ _ _) (ok_i ⟨by decide, by decide⟩ ok_n)) dX10_closes_87 (sl_afterV (sl_RV.mono (fun M17 hM17 H => ?_) H))
        refine r_vret rfl dX10_closes_90 ?_
        exact H
theorem eX10_closes {l : Launch} {M : sl_M} {Q : sl_R}  (k : sl_At l mX10_closes 0 [(0, vR 1 0)] [] M Q) : sl_Runs l mX10_closes [vR 1 0] M Q := sl_Runs.of (ls := [(0, vR 1 0)]) rfl rfl (fun _ => rfl) (fun _ => Nat.le_of_ble_eq_true rfl) rfl (k)
theorem dX10_reads_0 : decode cX10_reads 0 = .ok (.iconst 0, 1) := by decide +kernel
theorem dX10_reads_1 : decode cX10_reads 1 = .ok (.istore_n 1, 1) := by decide +kernel
theorem dX10_reads_2 : decode cX10_reads 2 = .ok (.iload_n 1, 1) := by decide +kernel
theorem dX10_reads_3 : decode cX10_reads 3 = .ok (.sipush 990, 3) := by decide +kernel
theorem dX10_reads_6 : decode cX10_reads 6 = .ok (.if_icmp .ge 16, 3) := by decide +kernel
theorem dX10_reads_9 : decode cX10_reads 9 = .ok (.aload_n 0, 1) := by decide +kernel
theorem dX10_reads_10 : decode cX10_reads 10 = .ok (.getfield 19, 3) := by decide +kernel
theorem dX10_reads_13 : decode cX10_reads 13 = .ok (.iload_n 1, 1) := by decide +kernel
theorem dX10_reads_14 : decode cX10_reads 14 = .ok (.iconst 0, 1) := by decide +kernel
theorem dX10_reads_15 : decode cX10_reads 15 = .ok (.iastore, 1) := by decide +kernel
theorem dX10_reads_16 : decode cX10_reads 16 = .ok (.iinc 1 1, 3) := by decide +kernel
theorem dX10_reads_19 : decode cX10_reads 19 = .ok (.goto (-17), 3) := by decide +kernel
theorem dX10_reads_22 : decode cX10_reads 22 = .ok (.aload_n 0, 1) := by decide +kernel
theorem dX10_reads_23 : decode cX10_reads 23 = .ok (.iconst 0, 1) := by decide +kernel
theorem dX10_reads_24 : decode cX10_reads 24 = .ok (.putfield 149, 3) := by decide +kernel
theorem dX10_reads_27 : decode cX10_reads 27 = .ok (.aload_n 0, 1) := by decide +kernel
theorem dX10_reads_28 : decode cX10_reads 28 = .ok (.iconst 0, 1) := by decide +kernel
theorem dX10_reads_29 : decode cX10_reads 29 = .ok (.putfield 165, 3) := by decide +kernel
theorem dX10_reads_32 : decode cX10_reads 32 = .ok (.aload_n 0, 1) := by decide +kernel
theorem dX10_reads_33 : decode cX10_reads 33 = .ok (.invokevirtual 158, 3) := by decide +kernel
theorem dX10_reads_36 : decode cX10_reads 36 = .ok (.istore_n 1, 1) := by decide +kernel
theorem dX10_reads_37 : decode cX10_reads 37 = .ok (.iload_n 1, 1) := by decide +kernel
theorem dX10_reads_38 : decode cX10_reads 38 = .ok (.ifCond .lt 47, 3) := by decide +kernel
theorem dX10_reads_41 : decode cX10_reads 41 = .ok (.iload_n 1, 1) := by decide +kernel
theorem dX10_reads_42 : decode cX10_reads 42 = .ok (.bipush 125, 2) := by decide +kernel
theorem dX10_reads_44 : decode cX10_reads 44 = .ok (.if_icmp .ne 17, 3) := by decide +kernel
theorem dX10_reads_47 : decode cX10_reads 47 = .ok (.aload_n 0, 1) := by decide +kernel
theorem dX10_reads_48 : decode cX10_reads 48 = .ok (.getfield 165, 3) := by decide +kernel
theorem dX10_reads_51 : decode cX10_reads 51 = .ok (.ifCond .le 10, 3) := by decide +kernel
theorem dX10_reads_54 : decode cX10_reads 54 = .ok (.aload_n 0, 1) := by decide +kernel
theorem dX10_reads_55 : decode cX10_reads 55 = .ok (.invokevirtual 183, 3) := by decide +kernel
theorem dX10_reads_58 : decode cX10_reads 58 = .ok (.goto 19, 3) := by decide +kernel
theorem dX10_reads_61 : decode cX10_reads 61 = .ok (.aload_n 0, 1) := by decide +kernel
theorem dX10_reads_62 : decode cX10_reads 62 = .ok (.iload_n 1, 1) := by decide +kernel
theorem dX10_reads_63 : decode cX10_reads 63 = .ok (.invokevirtual 186, 3) := by decide +kernel
theorem dX10_reads_66 : decode cX10_reads 66 = .ok (.ifCond .ne 11, 3) := by decide +kernel
theorem dX10_reads_69 : decode cX10_reads 69 = .ok (.bipush (-10), 2) := by decide +kernel
theorem dX10_reads_71 : decode cX10_reads 71 = .ok (.aload_n 0, 1) := by decide +kernel
theorem dX10_reads_72 : decode cX10_reads 72 = .ok (.getfield 152, 3) := by decide +kernel
theorem dX10_reads_75 : decode cX10_reads 75 = .ok (.isub, 1) := by decide +kernel
theorem dX10_reads_76 : decode cX10_reads 76 = .ok (.ireturn, 1) := by decide +kernel
theorem dX10_reads_77 : decode cX10_reads 77 = .ok (.aload_n 0, 1) := by decide +kernel
theorem dX10_reads_78 : decode cX10_reads 78 = .ok (.invokevirtual 158, 3) := by decide +kernel
theorem dX10_reads_81 : decode cX10_reads 81 = .ok (.istore_n 1, 1) := by decide +kernel
theorem dX10_reads_82 : decode cX10_reads 82 = .ok (.goto (-45), 3) := by decide +kernel
theorem dX10_reads_85 : decode cX10_reads 85 = .ok (.aload_n 0, 1) := by decide +kernel
theorem dX10_reads_86 : decode cX10_reads 86 = .ok (.getfield 165, 3) := by decide +kernel
theorem dX10_reads_89 : decode cX10_reads 89 = .ok (.ifCond .le 11, 3) := by decide +kernel
theorem dX10_reads_92 : decode cX10_reads 92 = .ok (.bipush (-10), 2) := by decide +kernel
theorem dX10_reads_94 : decode cX10_reads 94 = .ok (.aload_n 0, 1) := by decide +kernel
theorem dX10_reads_95 : decode cX10_reads 95 = .ok (.getfield 152, 3) := by decide +kernel
theorem dX10_reads_98 : decode cX10_reads 98 = .ok (.isub, 1) := by decide +kernel
theorem dX10_reads_99 : decode cX10_reads 99 = .ok (.ireturn, 1) := by decide +kernel
theorem dX10_reads_100 : decode cX10_reads 100 = .ok (.aload_n 0, 1) := by decide +kernel
theorem dX10_reads_101 : decode cX10_reads 101 = .ok (.invokevirtual 189, 3) := by decide +kernel
theorem dX10_reads_104 : decode cX10_reads 104 = .ok (.iconst 0, 1) := by decide +kernel
theorem dX10_reads_105 : decode cX10_reads 105 = .ok (.istore_n 2, 1) := by decide +kernel
theorem dX10_reads_106 : decode cX10_reads 106 = .ok (.iload_n 2, 1) := by decide +kernel
theorem dX10_reads_107 : decode cX10_reads 107 = .ok (.sipush 990, 3) := by decide +kernel
theorem dX10_reads_110 : decode cX10_reads 110 = .ok (.if_icmp .ge 21, 3) := by decide +kernel
theorem dX10_reads_113 : decode cX10_reads 113 = .ok (.aload_n 0, 1) := by decide +kernel
theorem dX10_reads_114 : decode cX10_reads 114 = .ok (.getfield 7, 3) := by decide +kernel
theorem dX10_reads_117 : decode cX10_reads 117 = .ok (.iload_n 2, 1) := by decide +kernel
theorem dX10_reads_118 : decode cX10_reads 118 = .ok (.aload_n 0, 1) := by decide +kernel
theorem dX10_reads_119 : decode cX10_reads 119 = .ok (.getfield 19, 3) := by decide +kernel
theorem dX10_reads_122 : decode cX10_reads 122 = .ok (.iload_n 2, 1) := by decide +kernel
theorem dX10_reads_123 : decode cX10_reads 123 = .ok (.iaload, 1) := by decide +kernel
theorem dX10_reads_124 : decode cX10_reads 124 = .ok (.iastore, 1) := by decide +kernel
theorem dX10_reads_125 : decode cX10_reads 125 = .ok (.iinc 2 1, 3) := by decide +kernel
theorem dX10_reads_128 : decode cX10_reads 128 = .ok (.goto (-22), 3) := by decide +kernel
theorem dX10_reads_131 : decode cX10_reads 131 = .ok (.aload_n 0, 1) := by decide +kernel
theorem dX10_reads_132 : decode cX10_reads 132 = .ok (.getfield 7, 3) := by decide +kernel
theorem dX10_reads_135 : decode cX10_reads 135 = .ok (.iconst 0, 1) := by decide +kernel
theorem dX10_reads_136 : decode cX10_reads 136 = .ok (.iaload, 1) := by decide +kernel
theorem dX10_reads_137 : decode cX10_reads 137 = .ok (.ireturn, 1) := by decide +kernel
set_option maxHeartbeats 4000000 in
set_option maxRecDepth 10000 in
theorem vX10_reads_0 {l : Launch} {M : sl_M} {Q : sl_R} (H : sl_RM M → sl_At l mX10_reads 2 [(0, vR 1 0), (1, vI 0)] [] M Q) : sl_At l mX10_reads 0 [(0, vR 1 0)] [] M Q := by
  refine sl_At.in (fun hM hls => ?_)
  have H := H hM
  refine r_iconst dX10_reads_0 ?_
  refine r_istore_n (ls' := [(1, vI 0), (0, vR 1 0)]) ⟨by decide, by decide⟩ rfl (by decide) rfl dX10_reads_1 ?_
  exact sl_At.sub [1, 0] rfl H
set_option maxHeartbeats 4000000 in
set_option maxRecDepth 10000 in
theorem vX10_reads_2 {l : Launch} {M : sl_M} {Q : sl_R} {x1 : Int} (H : sl_RM M → sl_rg x1 → ((990 ≤ x1) → (∀ M2, M2 = sl_wr M 1 0 9 0 → (∀ M3, M3 = sl_wr M2 1 0 12 0 → sl_RI l mX10_take [vR 1 0] M3 (fun y5 M4 => sl_At l mX10_reads 37 [(0, vR 1 0), (1, vI y5)] [] M4 Q)))) ∧ ((¬ (990 ≤ x1)) → (0 ≤ x1 ∧ x1 < 990) ∧ (∀ M7, M7 = sl_wr M 1 12 x1 0 → (sl_rg (x1 + 1)) ∧ sl_At l mX10_reads 2 [(0, vR 1 0), (1, vI (x1 + 1))] [] M7 Q))) : sl_At l mX10_reads 2 [(0, vR 1 0), (1, vI x1)] [] M Q := by
  refine sl_At.in (fun hM hls => ?_)
  have g1 : sl_rg x1 := hls _ (List.mem_of_getElem? (i := 1) rfl)
  have H := H hM g1
  refine r_iload_n (k := 1) rfl rfl dX10_reads_2 ?_
  refine r_sipush dX10_reads_3 (by decide) ?_
  refine r_icmp_ge (tgt := 22) g1 ⟨by decide, by decide⟩ dX10_reads_6 (by decide) (fun h1 => ?_) (fun h1 => ?_)
  · have H := H.1 h1
    refine r_aload_n (k := 0) rfl rfl dX10_reads_22 ?_
    refine r_iconst dX10_reads_23 ?_
    refine r_pI (k := 9) (kz := 9) rfl ckX10 rfl rfl (by decide) rfl rfl rfl rfl fl_X10_149 ⟨by decide, by decide⟩ dX10_reads_24 ?_
    refine r_mm (fun M2 e2 => ?_)
    have H := H M2 e2
    have hM2 : sl_RM M2 := by rw [e2]; exact sl_wr_RM hM ⟨by decide, by decide⟩
    refine r_aload_n (k := 0) rfl rfl dX10_reads_27 ?_
    refine r_iconst dX10_reads_28 ?_
    refine r_pI (k := 12) (kz := 12) rfl ckX10 rfl rfl (by decide) rfl rfl rfl rfl fl_X10_165 ⟨by decide, by decide⟩ dX10_reads_29 ?_
    refine r_mm (fun M3 e3 => ?_)
    have H := H M3 e3
    have hM3 : sl_RM M3 := by rw [e3]; exact sl_wr_RM hM2 ⟨by decide, by decide⟩
    refine r_aload_n (k := 0) rfl rfl dX10_reads_32 ?_
    refine r_callV (g := mX10_take) ckX10 rfl rfl rfl rfl mkX10_take mvX10_take ml_X10_158 ⟨by decide, by decide⟩ rfl (Nat.le_of_ble_eq_true rfl) rfl ok_n dX10_reads_33 (sl_afterI (sl_RI.mono (fun y5 M4 gy5 hM4 H => ?_) H))
    refine r_istore_n (ls' := [(1, vI y5), (0, vR 1 0)]) gy5 rfl (by decide) rfl dX10_reads_36 ?_
    exact sl_At.sub [1, 0] rfl H
  · have H := H.2 h1
    refine r_aload_n (k := 0) rfl rfl dX10_reads_9 ?_
    refine r_getR (k := 11) (o' := 1) (i' := 12) ckX10 rfl rfl (by decide) rfl rfl rfl fl_X10_19 dX10_reads_10 ?_
    refine r_iload_n (k := 1) rfl rfl dX10_reads_13 ?_
    refine r_iconst dX10_reads_14 ?_
    obtain ⟨c6, H⟩ := H
    refine r_iast rfl rfl rfl c6 ⟨by decide, by decide⟩ dX10_reads_15 ?_
    refine r_mm (fun M7 e7 => ?_)
    have H := H M7 e7
    have hM7 : sl_RM M7 := by rw [e7]; exact sl_wr_RM hM ⟨by decide, by decide⟩
    obtain ⟨c8, H⟩ := H
    refine r_iinc (k := 1) (ls' := [(1, vI (x1 + 1)), (0, vR 1 0)]) rfl c8 (by decide) rfl dX10_reads_16 ?_
    refine r_goto (tgt := 2) dX10_reads_19 (by decide) ?_
    exact sl_At.sub [1, 0] rfl H
set_option maxHeartbeats 4000000 in
set_option maxRecDepth 10000 in
theorem vX10_reads_37 {l : Launch} {M : sl_M} {Q : sl_R} {x1 : Int} (H : sl_RM M → sl_rg x1 → ((x1 < 0) → ((M 1 0 12 ≤ 0) → sl_RV l mX10_keepsState [vR 1 0] M (fun M3 => sl_At l mX10_reads 106 [(0, vR 1 0), (2, vI 0)] [] M3 Q)) ∧ ((¬ (M 1 0 12 ≤ 0)) → (sl_rg ((-10) - (M 1 0 10))) ∧ Q (some (vI ((-10) - (M 1 0 10)))) M)) ∧ ((¬ (x1 < 0)) → ((x1 ≠ 125) → sl_At l mX10_reads 61 [(0, vR 1 0), (1, vI x1)] [] M Q) ∧ ((¬ (x1 ≠ 125)) → ((M 1 0 12 ≤ 0) → sl_At l mX10_reads 61 [(0, vR 1 0), (1, vI x1)] [] M Q) ∧ ((¬ (M 1 0 12 ≤ 0)) → sl_RV l mX10_closes [vR 1 0] M (fun M7 => sl_RI l mX10_take [vR 1 0] M7 (fun y9 M8 => sl_At l mX10_reads 37 [(0, vR 1 0), (1, vI y9)] [] M8 Q)))))) : sl_At l mX10_reads 37 [(0, vR 1 0), (1, vI x1)] [] M Q := by
  refine sl_At.in (fun hM hls => ?_)
  have g1 : sl_rg x1 := hls _ (List.mem_of_getElem? (i := 1) rfl)
  have H := H hM g1
  refine r_iload_n (k := 1) rfl rfl dX10_reads_37 ?_
  refine r_if_lt (tgt := 85) g1 dX10_reads_38 (by decide) (fun h1 => ?_) (fun h1 => ?_)
  · have H := H.1 h1
    refine r_aload_n (k := 0) rfl rfl dX10_reads_85 ?_
    refine r_gI (k := 12) (kz := 12) rfl ckX10 rfl rfl (by decide) rfl rfl fl_X10_165 dX10_reads_86 ?_
    refine r_if_le (tgt := 100) (hM _ _ _) dX10_reads_89 (by decide) (fun h2 => ?_) (fun h2 => ?_)
    · have H := H.1 h2
      refine r_aload_n (k := 0) rfl rfl dX10_reads_100 ?_
      refine r_callV (g := mX10_keepsState) ckX10 rfl rfl rfl rfl mkX10_keepsState mvX10_keepsState ml_X10_189 ⟨by decide, by decide⟩ rfl (Nat.le_of_ble_eq_true rfl) rfl ok_n dX10_reads_101 (sl_afterV (sl_RV.mono (fun M3 hM3 H => ?_) H))
      refine r_iconst dX10_reads_104 ?_
      refine r_istore_n (ls' := [(2, vI 0), (0, vR 1 0), (1, vI x1)]) ⟨by decide, by decide⟩ rfl (by decide) rfl dX10_reads_105 ?_
      exact sl_At.sub [1, 0] rfl H
    · have H := H.2 h2
      refine r_bipush dX10_reads_92 (by decide) ?_
      refine r_aload_n (k := 0) rfl rfl dX10_reads_94 ?_
      refine r_gI (k := 10) (kz := 10) rfl ckX10 rfl rfl (by decide) rfl rfl fl_X10_152 dX10_reads_95 ?_
      refine r_isub dX10_reads_98 ?_
      obtain ⟨c4, H⟩ := H
      refine r_iret rfl c4 dX10_reads_99 ?_
      exact H
  · have H := H.2 h1
    refine r_iload_n (k := 1) rfl rfl dX10_reads_41 ?_
    refine r_bipush dX10_reads_42 (by decide) ?_
    refine r_icmp_ne (tgt := 61) g1 ⟨by decide, by decide⟩ dX10_reads_44 (by decide) (fun h5 => ?_) (fun h5 => ?_)
    · have H := H.1 h5
      exact H
    · have H := H.2 h5
      refine r_aload_n (k := 0) rfl rfl dX10_reads_47 ?_
      refine r_gI (k := 12) (kz := 12) rfl ckX10 rfl rfl (by decide) rfl rfl fl_X10_165 dX10_reads_48 ?_
      refine r_if_le (tgt := 61) (hM _ _ _) dX10_reads_51 (by decide) (fun h6 => ?_) (fun h6 => ?_)
      · have H := H.1 h6
        exact H
      · have H := H.2 h6
        refine r_aload_n (k := 0) rfl rfl dX10_reads_54 ?_
        refine r_callV (g := mX10_closes) ckX10 rfl rfl rfl rfl mkX10_closes mvX10_closes ml_X10_183 ⟨by decide, by decide⟩ rfl (Nat.le_of_ble_eq_true rfl) rfl ok_n dX10_reads_55 (sl_afterV (sl_RV.mono (fun M7 hM7 H => ?_) H))
        refine r_goto (tgt := 77) dX10_reads_58 (by decide) ?_
        refine r_aload_n (k := 0) rfl rfl dX10_reads_77 ?_
        refine r_callV (g := mX10_take) ckX10 rfl rfl rfl rfl mkX10_take mvX10_take ml_X10_158 ⟨by decide, by decide⟩ rfl (Nat.le_of_ble_eq_true rfl) rfl ok_n dX10_reads_78 (sl_afterI (sl_RI.mono (fun y9 M8 gy9 hM8 H => ?_) H))
        refine r_istore_n (ls' := [(1, vI y9), (0, vR 1 0)]) gy9 rfl (by decide) rfl dX10_reads_81 ?_
        refine r_goto (tgt := 37) dX10_reads_82 (by decide) ?_
        exact sl_At.sub [1, 0] rfl H
set_option maxHeartbeats 4000000 in
set_option maxRecDepth 10000 in
theorem vX10_reads_61 {l : Launch} {M : sl_M} {Q : sl_R} {x1 : Int} (H : sl_RM M → sl_rg x1 → sl_RI l mX10_readsStatement [vR 1 0, vI x1] M (fun y2 M1 => ((y2 ≠ 0) → sl_RI l mX10_take [vR 1 0] M1 (fun y5 M4 => sl_At l mX10_reads 37 [(0, vR 1 0), (1, vI y5)] [] M4 Q)) ∧ ((¬ (y2 ≠ 0)) → (sl_rg ((-10) - (M1 1 0 10))) ∧ Q (some (vI ((-10) - (M1 1 0 10)))) M1))) : sl_At l mX10_reads 61 [(0, vR 1 0), (1, vI x1)] [] M Q := by
  refine sl_At.in (fun hM hls => ?_)
  have g1 : sl_rg x1 := hls _ (List.mem_of_getElem? (i := 1) rfl)
  have H := H hM g1
  refine r_aload_n (k := 0) rfl rfl dX10_reads_61 ?_
  refine r_iload_n (k := 1) rfl rfl dX10_reads_62 ?_
  refine r_callV (g := mX10_readsStatement) ckX10 rfl rfl rfl rfl mkX10_readsStatement mvX10_readsStatement ml_X10_186 ⟨by decide, by decide⟩ rfl (Nat.le_of_ble_eq_true rfl) rfl (ok_i g1 ok_n) dX10_reads_63 (sl_afterI (sl_RI.mono (fun y2 M1 gy2 hM1 H => ?_) H))
  refine r_if_ne (tgt := 77) gy2 dX10_reads_66 (by decide) (fun h3 => ?_) (fun h3 => ?_)
  · have H := H.1 h3
    refine r_aload_n (k := 0) rfl rfl dX10_reads_77 ?_
    refine r_callV (g := mX10_take) ckX10 rfl rfl rfl rfl mkX10_take mvX10_take ml_X10_158 ⟨by decide, by decide⟩ rfl (Nat.le_of_ble_eq_true rfl) rfl ok_n dX10_reads_78 (sl_afterI (sl_RI.mono (fun y5 M4 gy5 hM4 H => ?_) H))
    refine r_istore_n (ls' := [(1, vI y5), (0, vR 1 0)]) gy5 rfl (by decide) rfl dX10_reads_81 ?_
    refine r_goto (tgt := 37) dX10_reads_82 (by decide) ?_
    exact sl_At.sub [1, 0] rfl H
  · have H := H.2 h3
    refine r_bipush dX10_reads_69 (by decide) ?_
    refine r_aload_n (k := 0) rfl rfl dX10_reads_71 ?_
    refine r_gI (k := 10) (kz := 10) rfl ckX10 rfl rfl (by decide) rfl rfl fl_X10_152 dX10_reads_72 ?_
    refine r_isub dX10_reads_75 ?_
    obtain ⟨c6, H⟩ := H
    refine r_iret rfl c6 dX10_reads_76 ?_
    exact H
set_option maxHeartbeats 4000000 in
set_option maxRecDepth 10000 in
theorem vX10_reads_106 {l : Launch} {M : sl_M} {Q : sl_R} {x2 : Int} (H : sl_RM M → sl_rg x2 → ((990 ≤ x2) → Q (some (vI (M 1 1 0))) M) ∧ ((¬ (990 ≤ x2)) → (0 ≤ x2 ∧ x2 < 990) ∧ (∀ M3, M3 = sl_wr M 1 1 x2 (M 1 12 x2) → (sl_rg (x2 + 1)) ∧ sl_At l mX10_reads 106 [(0, vR 1 0), (2, vI (x2 + 1))] [] M3 Q))) : sl_At l mX10_reads 106 [(0, vR 1 0), (2, vI x2)] [] M Q := by
  refine sl_At.in (fun hM hls => ?_)
  have g2 : sl_rg x2 := hls _ (List.mem_of_getElem? (i := 1) rfl)
  have H := H hM g2
  refine r_iload_n (k := 1) rfl rfl dX10_reads_106 ?_
  refine r_sipush dX10_reads_107 (by decide) ?_
  refine r_icmp_ge (tgt := 131) g2 ⟨by decide, by decide⟩ dX10_reads_110 (by decide) (fun h1 => ?_) (fun h1 => ?_)
  · have H := H.1 h1
    refine r_aload_n (k := 0) rfl rfl dX10_reads_131 ?_
    refine r_getR (k := 0) (o' := 1) (i' := 1) ckX10 rfl rfl (by decide) rfl rfl rfl fl_X10_7 dX10_reads_132 ?_
    refine r_iconst dX10_reads_135 ?_
    refine r_iald rfl rfl rfl ⟨by decide, by decide⟩ dX10_reads_136 ?_
    refine r_iret rfl (hM _ _ _) dX10_reads_137 ?_
    exact H
  · have H := H.2 h1
    refine r_aload_n (k := 0) rfl rfl dX10_reads_113 ?_
    refine r_getR (k := 0) (o' := 1) (i' := 1) ckX10 rfl rfl (by decide) rfl rfl rfl fl_X10_7 dX10_reads_114 ?_
    refine r_iload_n (k := 1) rfl rfl dX10_reads_117 ?_
    refine r_aload_n (k := 0) rfl rfl dX10_reads_118 ?_
    refine r_getR (k := 11) (o' := 1) (i' := 12) ckX10 rfl rfl (by decide) rfl rfl rfl fl_X10_19 dX10_reads_119 ?_
    refine r_iload_n (k := 1) rfl rfl dX10_reads_122 ?_
    obtain ⟨c2, H⟩ := H
    refine r_iald rfl rfl rfl c2 dX10_reads_123 ?_
    refine r_iast rfl rfl rfl c2 (hM _ _ _) dX10_reads_124 ?_
    refine r_mm (fun M3 e3 => ?_)
    have H := H M3 e3
    have hM3 : sl_RM M3 := by rw [e3]; exact sl_wr_RM hM (hM _ _ _)
    obtain ⟨c4, H⟩ := H
    refine r_iinc (k := 1) (ls' := [(2, vI (x2 + 1)), (0, vR 1 0)]) rfl c4 (by decide) rfl dX10_reads_125 ?_
    refine r_goto (tgt := 106) dX10_reads_128 (by decide) ?_
    exact sl_At.sub [1, 0] rfl H
theorem eX10_reads {l : Launch} {M : sl_M} {Q : sl_R}  (k : sl_At l mX10_reads 0 [(0, vR 1 0)] [] M Q) : sl_Runs l mX10_reads [vR 1 0] M Q := sl_Runs.of (ls := [(0, vR 1 0)]) rfl rfl (fun _ => rfl) (fun _ => Nat.le_of_ble_eq_true rfl) rfl (k)
theorem dX10_manyOf_0 : decode cX10_manyOf 0 = .ok (.aload_n 0, 1) := by decide +kernel
theorem dX10_manyOf_1 : decode cX10_manyOf 1 = .ok (.getfield 28, 3) := by decide +kernel
theorem dX10_manyOf_4 : decode cX10_manyOf 4 = .ok (.iload_n 1, 1) := by decide +kernel
theorem dX10_manyOf_5 : decode cX10_manyOf 5 = .ok (.bipush 41, 2) := by decide +kernel
theorem dX10_manyOf_7 : decode cX10_manyOf 7 = .ok (.idiv, 1) := by decide +kernel
theorem dX10_manyOf_8 : decode cX10_manyOf 8 = .ok (.iaload, 1) := by decide +kernel
theorem dX10_manyOf_9 : decode cX10_manyOf 9 = .ok (.ireturn, 1) := by decide +kernel
set_option maxHeartbeats 4000000 in
set_option maxRecDepth 10000 in
theorem vX10_manyOf_0 {l : Launch} {M : sl_M} {Q : sl_R} {x1 : Int} (H : sl_RM M → sl_rg x1 → (0 ≤ idiv x1 41 ∧ idiv x1 41 < 2) ∧ Q (some (vI (M 1 16 (idiv x1 41)))) M) : sl_At l mX10_manyOf 0 [(0, vR 1 0), (1, vI x1)] [] M Q := by
  refine sl_At.in (fun hM hls => ?_)
  have g1 : sl_rg x1 := hls _ (List.mem_of_getElem? (i := 1) rfl)
  have H := H hM g1
  refine r_aload_n (k := 0) rfl rfl dX10_manyOf_0 ?_
  refine r_getR (k := 15) (o' := 1) (i' := 16) ckX10 rfl rfl (by decide) rfl rfl rfl fl_X10_28 dX10_manyOf_1 ?_
  refine r_iload_n (k := 1) rfl rfl dX10_manyOf_4 ?_
  refine r_bipush dX10_manyOf_5 (by decide) ?_
  refine r_idiv ⟨by decide, by decide⟩ (by decide) dX10_manyOf_7 ?_
  obtain ⟨c1, H⟩ := H
  refine r_iald rfl rfl rfl c1 dX10_manyOf_8 ?_
  refine r_iret rfl (hM _ _ _) dX10_manyOf_9 ?_
  exact H
theorem eX10_manyOf {l : Launch} {M : sl_M} {Q : sl_R} {x1 : Int} (k : sl_At l mX10_manyOf 0 [(0, vR 1 0), (1, vI x1)] [] M Q) : sl_Runs l mX10_manyOf [vR 1 0, vI x1] M Q := sl_Runs.of (ls := [(0, vR 1 0), (1, vI x1)]) rfl rfl (fun _ => rfl) (fun _ => Nat.le_of_ble_eq_true rfl) rfl (k)
theorem dX10_callAt_0 : decode cX10_callAt 0 = .ok (.iconst 0, 1) := by decide +kernel
theorem dX10_callAt_1 : decode cX10_callAt 1 = .ok (.istore_n 2, 1) := by decide +kernel
theorem dX10_callAt_2 : decode cX10_callAt 2 = .ok (.iload_n 2, 1) := by decide +kernel
theorem dX10_callAt_3 : decode cX10_callAt 3 = .ok (.aload_n 0, 1) := by decide +kernel
theorem dX10_callAt_4 : decode cX10_callAt 4 = .ok (.getfield 7, 3) := by decide +kernel
theorem dX10_callAt_7 : decode cX10_callAt 7 = .ok (.sipush 789, 3) := by decide +kernel
theorem dX10_callAt_10 : decode cX10_callAt 10 = .ok (.iaload, 1) := by decide +kernel
theorem dX10_callAt_11 : decode cX10_callAt 11 = .ok (.if_icmp .ge 25, 3) := by decide +kernel
theorem dX10_callAt_14 : decode cX10_callAt 14 = .ok (.aload_n 0, 1) := by decide +kernel
theorem dX10_callAt_15 : decode cX10_callAt 15 = .ok (.getfield 7, 3) := by decide +kernel
theorem dX10_callAt_18 : decode cX10_callAt 18 = .ok (.sipush 790, 3) := by decide +kernel
theorem dX10_callAt_21 : decode cX10_callAt 21 = .ok (.iload_n 2, 1) := by decide +kernel
theorem dX10_callAt_22 : decode cX10_callAt 22 = .ok (.iadd, 1) := by decide +kernel
theorem dX10_callAt_23 : decode cX10_callAt 23 = .ok (.iaload, 1) := by decide +kernel
theorem dX10_callAt_24 : decode cX10_callAt 24 = .ok (.iload_n 1, 1) := by decide +kernel
theorem dX10_callAt_25 : decode cX10_callAt 25 = .ok (.if_icmp .ne 5, 3) := by decide +kernel
theorem dX10_callAt_28 : decode cX10_callAt 28 = .ok (.iload_n 2, 1) := by decide +kernel
theorem dX10_callAt_29 : decode cX10_callAt 29 = .ok (.ireturn, 1) := by decide +kernel
theorem dX10_callAt_30 : decode cX10_callAt 30 = .ok (.iinc 2 1, 3) := by decide +kernel
theorem dX10_callAt_33 : decode cX10_callAt 33 = .ok (.goto (-31), 3) := by decide +kernel
theorem dX10_callAt_36 : decode cX10_callAt 36 = .ok (.iconst (-1), 1) := by decide +kernel
theorem dX10_callAt_37 : decode cX10_callAt 37 = .ok (.ireturn, 1) := by decide +kernel
set_option maxHeartbeats 4000000 in
set_option maxRecDepth 10000 in
theorem vX10_callAt_0 {l : Launch} {M : sl_M} {Q : sl_R} {x1 : Int} (H : sl_RM M → sl_rg x1 → sl_At l mX10_callAt 2 [(0, vR 1 0), (1, vI x1), (2, vI 0)] [] M Q) : sl_At l mX10_callAt 0 [(0, vR 1 0), (1, vI x1)] [] M Q := by
  refine sl_At.in (fun hM hls => ?_)
  have g1 : sl_rg x1 := hls _ (List.mem_of_getElem? (i := 1) rfl)
  have H := H hM g1
  refine r_iconst dX10_callAt_0 ?_
  refine r_istore_n (ls' := [(2, vI 0), (0, vR 1 0), (1, vI x1)]) ⟨by decide, by decide⟩ rfl (by decide) rfl dX10_callAt_1 ?_
  exact sl_At.sub [1, 2, 0] rfl H
set_option maxHeartbeats 4000000 in
set_option maxRecDepth 10000 in
theorem vX10_callAt_2 {l : Launch} {M : sl_M} {Q : sl_R} {x1 x2 : Int} (H : sl_RM M → sl_rg x1 → sl_rg x2 → ((M 1 1 789 ≤ x2) → Q (some (vI (-1))) M) ∧ ((¬ (M 1 1 789 ≤ x2)) → (0 ≤ 790 + x2 ∧ 790 + x2 < 990) ∧ ((M 1 1 (790 + x2) ≠ x1) → (sl_rg (x2 + 1)) ∧ sl_At l mX10_callAt 2 [(0, vR 1 0), (1, vI x1), (2, vI (x2 + 1))] [] M Q) ∧ ((¬ (M 1 1 (790 + x2) ≠ x1)) → Q (some (vI x2)) M))) : sl_At l mX10_callAt 2 [(0, vR 1 0), (1, vI x1), (2, vI x2)] [] M Q := by
  refine sl_At.in (fun hM hls => ?_)
  have g1 : sl_rg x1 := hls _ (List.mem_of_getElem? (i := 1) rfl)
  have g2 : sl_rg x2 := hls _ (List.mem_of_getElem? (i := 2) rfl)
  have H := H hM g1 g2
  refine r_iload_n (k := 2) rfl rfl dX10_callAt_2 ?_
  refine r_aload_n (k := 0) rfl rfl dX10_callAt_3 ?_
  refine r_getR (k := 0) (o' := 1) (i' := 1) ckX10 rfl rfl (by decide) rfl rfl rfl fl_X10_7 dX10_callAt_4 ?_
  refine r_sipush dX10_callAt_7 (by decide) ?_
  refine r_iald rfl rfl rfl ⟨by decide, by decide⟩ dX10_callAt_10 ?_
  refine r_icmp_ge (tgt := 36) g2 (hM _ _ _) dX10_callAt_11 (by decide) (fun h1 => ?_) (fun h1 => ?_)
  · have H := H.1 h1
    refine r_iconst dX10_callAt_36 ?_
    refine r_iret rfl ⟨by decide, by decide⟩ dX10_callAt_37 ?_
    exact H
  · have H := H.2 h1
    refine r_aload_n (k := 0) rfl rfl dX10_callAt_14 ?_
    refine r_getR (k := 0) (o' := 1) (i' := 1) ckX10 rfl rfl (by decide) rfl rfl rfl fl_X10_7 dX10_callAt_15 ?_
    refine r_sipush dX10_callAt_18 (by decide) ?_
    refine r_iload_n (k := 2) rfl rfl dX10_callAt_21 ?_
    refine r_iadd dX10_callAt_22 ?_
    obtain ⟨c2, H⟩ := H
    refine r_iald rfl rfl rfl c2 dX10_callAt_23 ?_
    refine r_iload_n (k := 1) rfl rfl dX10_callAt_24 ?_
    refine r_icmp_ne (tgt := 30) (hM _ _ _) g1 dX10_callAt_25 (by decide) (fun h3 => ?_) (fun h3 => ?_)
    · have H := H.1 h3
      obtain ⟨c4, H⟩ := H
      refine r_iinc (k := 2) (ls' := [(2, vI (x2 + 1)), (0, vR 1 0), (1, vI x1)]) rfl c4 (by decide) rfl dX10_callAt_30 ?_
      refine r_goto (tgt := 2) dX10_callAt_33 (by decide) ?_
      exact sl_At.sub [1, 2, 0] rfl H
    · have H := H.2 h3
      refine r_iload_n (k := 2) rfl rfl dX10_callAt_28 ?_
      refine r_iret rfl g2 dX10_callAt_29 ?_
      exact H
theorem eX10_callAt {l : Launch} {M : sl_M} {Q : sl_R} {x1 : Int} (k : sl_At l mX10_callAt 0 [(0, vR 1 0), (1, vI x1)] [] M Q) : sl_Runs l mX10_callAt [vR 1 0, vI x1] M Q := sl_Runs.of (ls := [(0, vR 1 0), (1, vI x1)]) rfl rfl (fun _ => rfl) (fun _ => Nat.le_of_ble_eq_true rfl) rfl (k)
theorem dX10_isVariable_0 : decode cX10_isVariable 0 = .ok (.iload_n 0, 1) := by decide +kernel
theorem dX10_isVariable_1 : decode cX10_isVariable 1 = .ok (.bipush 97, 2) := by decide +kernel
theorem dX10_isVariable_3 : decode cX10_isVariable 3 = .ok (.bipush 104, 2) := by decide +kernel
theorem dX10_isVariable_5 : decode cX10_isVariable 5 = .ok (.invokestatic 135, 3) := by decide +kernel
theorem dX10_isVariable_8 : decode cX10_isVariable 8 = .ok (.ifCond .eq 12, 3) := by decide +kernel
theorem dX10_isVariable_11 : decode cX10_isVariable 11 = .ok (.iconst 1, 1) := by decide +kernel
theorem dX10_isVariable_12 : decode cX10_isVariable 12 = .ok (.iload_n 0, 1) := by decide +kernel
theorem dX10_isVariable_13 : decode cX10_isVariable 13 = .ok (.bipush 97, 2) := by decide +kernel
theorem dX10_isVariable_15 : decode cX10_isVariable 15 = .ok (.isub, 1) := by decide +kernel
theorem dX10_isVariable_16 : decode cX10_isVariable 16 = .ok (.ishl, 1) := by decide +kernel
theorem dX10_isVariable_17 : decode cX10_isVariable 17 = .ok (.goto 4, 3) := by decide +kernel
theorem dX10_isVariable_20 : decode cX10_isVariable 20 = .ok (.iconst 0, 1) := by decide +kernel
theorem dX10_isVariable_21 : decode cX10_isVariable 21 = .ok (.ireturn, 1) := by decide +kernel
set_option maxHeartbeats 4000000 in
set_option maxRecDepth 10000 in
theorem vX10_isVariable_0 {l : Launch} {M : sl_M} {Q : sl_R} {x0 : Int} (H : sl_RM M → sl_rg x0 → Q (some (vI (if ¬ (97 ≤ x0 ∧ x0 ≤ 104) then 0 else ishl 1 (x0 - 97)))) M) : sl_At l mX10_isVariable 0 [(0, vI x0)] [] M Q := by
  refine sl_At.in (fun hM hls => ?_)
  have g0 : sl_rg x0 := hls _ (List.mem_of_getElem? (i := 0) rfl)
  have H := H hM g0
  refine r_iload_n (k := 0) rfl rfl dX10_isVariable_0 ?_
  refine r_bipush dX10_isVariable_1 (by decide) ?_
  refine r_bipush dX10_isVariable_3 (by decide) ?_
  refine r_callS (g := mX10_in) rfl mkX10_in msX10_in ml_X10_135 ⟨by decide, by decide⟩ rfl (Nat.le_of_ble_eq_true rfl) rfl (ok_i g0 (ok_i ⟨by decide, by decide⟩ (ok_i ⟨by decide, by decide⟩ ok_n))) dX10_isVariable_5 (sl_afterI (sl_RI.by kX10_in ?_))
  have J : sl_At l mX10_isVariable 21 [(0, vI x0)] [vI (if ¬ (97 ≤ x0 ∧ x0 ≤ 104) then 0 else ishl 1 (x0 - 97))] M Q := by
    refine r_iret rfl (sl_rgite ⟨by decide, by decide⟩ (rg_ishl _ _)) dX10_isVariable_21 ?_
    exact H
  refine r_if_eq (tgt := 20) rg_b dX10_isVariable_8 (by decide) (fun h1 => ?_) (fun h1 => ?_)
  · replace h1 := (b_eq0.mp h1)
    refine r_iconst dX10_isVariable_20 ?_
    rw [if_pos h1] at J
    exact J
  · replace h1 := (b_ne0.mp h1)
    refine r_iconst dX10_isVariable_11 ?_
    refine r_iload_n (k := 0) rfl rfl dX10_isVariable_12 ?_
    refine r_bipush dX10_isVariable_13 (by decide) ?_
    refine r_isub dX10_isVariable_15 ?_
    refine r_ishl dX10_isVariable_16 ?_
    refine r_goto (tgt := 21) dX10_isVariable_17 (by decide) ?_
    rw [if_neg (fun q => q h1)] at J
    exact J
theorem eX10_isVariable {l : Launch} {M : sl_M} {Q : sl_R} {x0 : Int} (k : sl_At l mX10_isVariable 0 [(0, vI x0)] [] M Q) : sl_Runs l mX10_isVariable [vI x0] M Q := sl_Runs.of (ls := [(0, vI x0)]) rfl rfl (fun _ => rfl) (fun _ => Nat.le_of_ble_eq_true rfl) rfl (k)
theorem dX10_listSet_0 : decode cX10_listSet 0 = .ok (.iconst 0, 1) := by decide +kernel
theorem dX10_listSet_1 : decode cX10_listSet 1 = .ok (.istore_n 2, 1) := by decide +kernel
theorem dX10_listSet_2 : decode cX10_listSet 2 = .ok (.iconst 0, 1) := by decide +kernel
theorem dX10_listSet_3 : decode cX10_listSet 3 = .ok (.istore_n 3, 1) := by decide +kernel
theorem dX10_listSet_4 : decode cX10_listSet 4 = .ok (.iload_n 3, 1) := by decide +kernel
theorem dX10_listSet_5 : decode cX10_listSet 5 = .ok (.iload_n 1, 1) := by decide +kernel
theorem dX10_listSet_6 : decode cX10_listSet 6 = .ok (.bipush 16, 2) := by decide +kernel
theorem dX10_listSet_8 : decode cX10_listSet 8 = .ok (.irem, 1) := by decide +kernel
theorem dX10_listSet_9 : decode cX10_listSet 9 = .ok (.if_icmp .ge 24, 3) := by decide +kernel
theorem dX10_listSet_12 : decode cX10_listSet 12 = .ok (.iload_n 2, 1) := by decide +kernel
theorem dX10_listSet_13 : decode cX10_listSet 13 = .ok (.iconst 1, 1) := by decide +kernel
theorem dX10_listSet_14 : decode cX10_listSet 14 = .ok (.iload_n 1, 1) := by decide +kernel
theorem dX10_listSet_15 : decode cX10_listSet 15 = .ok (.iconst 4, 1) := by decide +kernel
theorem dX10_listSet_16 : decode cX10_listSet 16 = .ok (.iconst 4, 1) := by decide +kernel
theorem dX10_listSet_17 : decode cX10_listSet 17 = .ok (.iload_n 3, 1) := by decide +kernel
theorem dX10_listSet_18 : decode cX10_listSet 18 = .ok (.imul, 1) := by decide +kernel
theorem dX10_listSet_19 : decode cX10_listSet 19 = .ok (.iadd, 1) := by decide +kernel
theorem dX10_listSet_20 : decode cX10_listSet 20 = .ok (.ishr, 1) := by decide +kernel
theorem dX10_listSet_21 : decode cX10_listSet 21 = .ok (.bipush 15, 2) := by decide +kernel
theorem dX10_listSet_23 : decode cX10_listSet 23 = .ok (.iand, 1) := by decide +kernel
theorem dX10_listSet_24 : decode cX10_listSet 24 = .ok (.ishl, 1) := by decide +kernel
theorem dX10_listSet_25 : decode cX10_listSet 25 = .ok (.ior, 1) := by decide +kernel
theorem dX10_listSet_26 : decode cX10_listSet 26 = .ok (.istore_n 2, 1) := by decide +kernel
theorem dX10_listSet_27 : decode cX10_listSet 27 = .ok (.iinc 3 1, 3) := by decide +kernel
theorem dX10_listSet_30 : decode cX10_listSet 30 = .ok (.goto (-26), 3) := by decide +kernel
theorem dX10_listSet_33 : decode cX10_listSet 33 = .ok (.iload_n 2, 1) := by decide +kernel
theorem dX10_listSet_34 : decode cX10_listSet 34 = .ok (.ireturn, 1) := by decide +kernel
set_option maxHeartbeats 4000000 in
set_option maxRecDepth 10000 in
theorem vX10_listSet_0 {l : Launch} {M : sl_M} {Q : sl_R} {x1 : Int} (H : sl_RM M → sl_rg x1 → sl_At l mX10_listSet 4 [(1, vI x1), (2, vI 0), (3, vI 0)] [] M Q) : sl_At l mX10_listSet 0 [(1, vI x1)] [] M Q := by
  refine sl_At.in (fun hM hls => ?_)
  have g1 : sl_rg x1 := hls _ (List.mem_of_getElem? (i := 0) rfl)
  have H := H hM g1
  refine r_iconst dX10_listSet_0 ?_
  refine r_istore_n (ls' := [(2, vI 0), (1, vI x1)]) ⟨by decide, by decide⟩ rfl (by decide) rfl dX10_listSet_1 ?_
  refine r_iconst dX10_listSet_2 ?_
  refine r_istore_n (ls' := [(3, vI 0), (2, vI 0), (1, vI x1)]) ⟨by decide, by decide⟩ rfl (by decide) rfl dX10_listSet_3 ?_
  exact sl_At.sub [2, 1, 0] rfl H
set_option maxHeartbeats 4000000 in
set_option maxRecDepth 10000 in
theorem vX10_listSet_4 {l : Launch} {M : sl_M} {Q : sl_R} {x1 x2 x3 : Int} (H : sl_RM M → sl_rg x1 → sl_rg x2 → sl_rg x3 → ((irem x1 16 ≤ x3) → Q (some (vI x2)) M) ∧ ((¬ (irem x1 16 ≤ x3)) → (∀ y2 : Int, y2 = ior x2 (ishl 1 (iand (ishr x1 (4 + (4 * x3))) 15)) → (sl_rg (x3 + 1)) ∧ sl_At l mX10_listSet 4 [(1, vI x1), (2, vI y2), (3, vI (x3 + 1))] [] M Q))) : sl_At l mX10_listSet 4 [(1, vI x1), (2, vI x2), (3, vI x3)] [] M Q := by
  refine sl_At.in (fun hM hls => ?_)
  have g1 : sl_rg x1 := hls _ (List.mem_of_getElem? (i := 0) rfl)
  have g2 : sl_rg x2 := hls _ (List.mem_of_getElem? (i := 1) rfl)
  have g3 : sl_rg x3 := hls _ (List.mem_of_getElem? (i := 2) rfl)
  have H := H hM g1 g2 g3
  refine r_iload_n (k := 2) rfl rfl dX10_listSet_4 ?_
  refine r_iload_n (k := 0) rfl rfl dX10_listSet_5 ?_
  refine r_bipush dX10_listSet_6 (by decide) ?_
  refine r_irem ⟨by decide, by decide⟩ (by decide) dX10_listSet_8 ?_
  refine r_icmp_ge (tgt := 33) g3 (rg_irem _ _) dX10_listSet_9 (by decide) (fun h1 => ?_) (fun h1 => ?_)
  · have H := H.1 h1
    refine r_iload_n (k := 1) rfl rfl dX10_listSet_33 ?_
    refine r_iret rfl g2 dX10_listSet_34 ?_
    exact H
  · have H := H.2 h1
    refine r_iload_n (k := 1) rfl rfl dX10_listSet_12 ?_
    refine r_iconst dX10_listSet_13 ?_
    refine r_iload_n (k := 0) rfl rfl dX10_listSet_14 ?_
    refine r_iconst dX10_listSet_15 ?_
    refine r_iconst dX10_listSet_16 ?_
    refine r_iload_n (k := 2) rfl rfl dX10_listSet_17 ?_
    refine r_imul dX10_listSet_18 ?_
    refine r_iadd dX10_listSet_19 ?_
    refine r_ishr dX10_listSet_20 ?_
    refine r_bipush dX10_listSet_21 (by decide) ?_
    refine r_iand dX10_listSet_23 ?_
    refine r_ishl dX10_listSet_24 ?_
    refine r_ior dX10_listSet_25 ?_
    refine r_nm (fun y2 fy2 => ?_)
    have H := H y2 fy2
    have gy2 : sl_rg y2 := by rw [fy2]; exact (rg_ior _ _)
    refine r_istore_n (ls' := [(2, vI y2), (1, vI x1), (3, vI x3)]) gy2 rfl (by decide) rfl dX10_listSet_26 ?_
    obtain ⟨c3, H⟩ := H
    refine r_iinc (k := 2) (ls' := [(3, vI (x3 + 1)), (2, vI y2), (1, vI x1)]) rfl c3 (by decide) rfl dX10_listSet_27 ?_
    refine r_goto (tgt := 4) dX10_listSet_30 (by decide) ?_
    exact sl_At.sub [2, 1, 0] rfl H
theorem eX10_listSet {l : Launch} {M : sl_M} {Q : sl_R} {x1 : Int} (k : sl_At l mX10_listSet 0 [(1, vI x1)] [] M Q) : sl_Runs l mX10_listSet [vR 1 0, vI x1] M Q := sl_Runs.of (ls := [(0, vR 1 0), (1, vI x1)]) rfl rfl (fun _ => rfl) (fun _ => Nat.le_of_ble_eq_true rfl) rfl (sl_At.sub [1] rfl k)
theorem dX10_laysStatements_0 : decode cX10_laysStatements 0 = .ok (.iconst 0, 1) := by decide +kernel
theorem dX10_laysStatements_1 : decode cX10_laysStatements 1 = .ok (.istore_n 2, 1) := by decide +kernel
theorem dX10_laysStatements_2 : decode cX10_laysStatements 2 = .ok (.iconst 0, 1) := by decide +kernel
theorem dX10_laysStatements_3 : decode cX10_laysStatements 3 = .ok (.istore_n 3, 1) := by decide +kernel
theorem dX10_laysStatements_4 : decode cX10_laysStatements 4 = .ok (.iload_n 3, 1) := by decide +kernel
theorem dX10_laysStatements_5 : decode cX10_laysStatements 5 = .ok (.aload_n 0, 1) := by decide +kernel
theorem dX10_laysStatements_6 : decode cX10_laysStatements 6 = .ok (.getfield 7, 3) := by decide +kernel
theorem dX10_laysStatements_9 : decode cX10_laysStatements 9 = .ok (.iconst 0, 1) := by decide +kernel
theorem dX10_laysStatements_10 : decode cX10_laysStatements 10 = .ok (.iaload, 1) := by decide +kernel
theorem dX10_laysStatements_11 : decode cX10_laysStatements 11 = .ok (.if_icmp .ge 211, 3) := by decide +kernel
theorem dX10_laysStatements_14 : decode cX10_laysStatements 14 = .ok (.iload_n 1, 1) := by decide +kernel
theorem dX10_laysStatements_15 : decode cX10_laysStatements 15 = .ok (.ifCond .ne 11, 3) := by decide +kernel
theorem dX10_laysStatements_18 : decode cX10_laysStatements 18 = .ok (.aload_n 0, 1) := by decide +kernel
theorem dX10_laysStatements_19 : decode cX10_laysStatements 19 = .ok (.iload_n 3, 1) := by decide +kernel
theorem dX10_laysStatements_20 : decode cX10_laysStatements 20 = .ok (.invokevirtual 192, 3) := by decide +kernel
theorem dX10_laysStatements_23 : decode cX10_laysStatements 23 = .ok (.goto 4, 3) := by decide +kernel
theorem dX10_laysStatements_26 : decode cX10_laysStatements 26 = .ok (.iconst (-1), 1) := by decide +kernel
theorem dX10_laysStatements_27 : decode cX10_laysStatements 27 = .ok (.istore 4, 2) := by decide +kernel
theorem dX10_laysStatements_29 : decode cX10_laysStatements 29 = .ok (.iload_n 1, 1) := by decide +kernel
theorem dX10_laysStatements_30 : decode cX10_laysStatements 30 = .ok (.iload_n 2, 1) := by decide +kernel
theorem dX10_laysStatements_31 : decode cX10_laysStatements 31 = .ok (.iadd, 1) := by decide +kernel
theorem dX10_laysStatements_32 : decode cX10_laysStatements 32 = .ok (.istore 5, 2) := by decide +kernel
theorem dX10_laysStatements_34 : decode cX10_laysStatements 34 = .ok (.aload_n 0, 1) := by decide +kernel
theorem dX10_laysStatements_35 : decode cX10_laysStatements 35 = .ok (.getfield 43, 3) := by decide +kernel
theorem dX10_laysStatements_38 : decode cX10_laysStatements 38 = .ok (.iload 5, 2) := by decide +kernel
theorem dX10_laysStatements_40 : decode cX10_laysStatements 40 = .ok (.iload_n 3, 1) := by decide +kernel
theorem dX10_laysStatements_41 : decode cX10_laysStatements 41 = .ok (.iastore, 1) := by decide +kernel
theorem dX10_laysStatements_42 : decode cX10_laysStatements 42 = .ok (.aload_n 0, 1) := by decide +kernel
theorem dX10_laysStatements_43 : decode cX10_laysStatements 43 = .ok (.getfield 46, 3) := by decide +kernel
theorem dX10_laysStatements_46 : decode cX10_laysStatements 46 = .ok (.iload 5, 2) := by decide +kernel
theorem dX10_laysStatements_48 : decode cX10_laysStatements 48 = .ok (.iload 4, 2) := by decide +kernel
theorem dX10_laysStatements_50 : decode cX10_laysStatements 50 = .ok (.iastore, 1) := by decide +kernel
theorem dX10_laysStatements_51 : decode cX10_laysStatements 51 = .ok (.aload_n 0, 1) := by decide +kernel
theorem dX10_laysStatements_52 : decode cX10_laysStatements 52 = .ok (.getfield 31, 3) := by decide +kernel
theorem dX10_laysStatements_55 : decode cX10_laysStatements 55 = .ok (.iload 5, 2) := by decide +kernel
theorem dX10_laysStatements_57 : decode cX10_laysStatements 57 = .ok (.iload 4, 2) := by decide +kernel
theorem dX10_laysStatements_59 : decode cX10_laysStatements 59 = .ok (.iconst (-1), 1) := by decide +kernel
theorem dX10_laysStatements_60 : decode cX10_laysStatements 60 = .ok (.if_icmp .ne 14, 3) := by decide +kernel
theorem dX10_laysStatements_63 : decode cX10_laysStatements 63 = .ok (.aload_n 0, 1) := by decide +kernel
theorem dX10_laysStatements_64 : decode cX10_laysStatements 64 = .ok (.getfield 7, 3) := by decide +kernel
theorem dX10_laysStatements_67 : decode cX10_laysStatements 67 = .ok (.iconst 1, 1) := by decide +kernel
theorem dX10_laysStatements_68 : decode cX10_laysStatements 68 = .ok (.iload_n 3, 1) := by decide +kernel
theorem dX10_laysStatements_69 : decode cX10_laysStatements 69 = .ok (.iadd, 1) := by decide +kernel
theorem dX10_laysStatements_70 : decode cX10_laysStatements 70 = .ok (.iaload, 1) := by decide +kernel
theorem dX10_laysStatements_71 : decode cX10_laysStatements 71 = .ok (.goto 5, 3) := by decide +kernel
theorem dX10_laysStatements_74 : decode cX10_laysStatements 74 = .ok (.bipush 7, 2) := by decide +kernel
theorem dX10_laysStatements_76 : decode cX10_laysStatements 76 = .ok (.iastore, 1) := by decide +kernel
theorem dX10_laysStatements_77 : decode cX10_laysStatements 77 = .ok (.aload_n 0, 1) := by decide +kernel
theorem dX10_laysStatements_78 : decode cX10_laysStatements 78 = .ok (.getfield 37, 3) := by decide +kernel
theorem dX10_laysStatements_81 : decode cX10_laysStatements 81 = .ok (.iload 5, 2) := by decide +kernel
theorem dX10_laysStatements_83 : decode cX10_laysStatements 83 = .ok (.aload_n 0, 1) := by decide +kernel
theorem dX10_laysStatements_84 : decode cX10_laysStatements 84 = .ok (.getfield 7, 3) := by decide +kernel
theorem dX10_laysStatements_87 : decode cX10_laysStatements 87 = .ok (.bipush 121, 2) := by decide +kernel
theorem dX10_laysStatements_89 : decode cX10_laysStatements 89 = .ok (.iload_n 3, 1) := by decide +kernel
theorem dX10_laysStatements_90 : decode cX10_laysStatements 90 = .ok (.iadd, 1) := by decide +kernel
theorem dX10_laysStatements_91 : decode cX10_laysStatements 91 = .ok (.iaload, 1) := by decide +kernel
theorem dX10_laysStatements_92 : decode cX10_laysStatements 92 = .ok (.iastore, 1) := by decide +kernel
theorem dX10_laysStatements_93 : decode cX10_laysStatements 93 = .ok (.aload_n 0, 1) := by decide +kernel
theorem dX10_laysStatements_94 : decode cX10_laysStatements 94 = .ok (.getfield 52, 3) := by decide +kernel
theorem dX10_laysStatements_97 : decode cX10_laysStatements 97 = .ok (.iload 5, 2) := by decide +kernel
theorem dX10_laysStatements_99 : decode cX10_laysStatements 99 = .ok (.iload 4, 2) := by decide +kernel
theorem dX10_laysStatements_101 : decode cX10_laysStatements 101 = .ok (.iconst (-1), 1) := by decide +kernel
theorem dX10_laysStatements_102 : decode cX10_laysStatements 102 = .ok (.if_icmp .ne 7, 3) := by decide +kernel
theorem dX10_laysStatements_105 : decode cX10_laysStatements 105 = .ok (.iconst 0, 1) := by decide +kernel
theorem dX10_laysStatements_106 : decode cX10_laysStatements 106 = .ok (.goto 18, 3) := by decide +kernel
theorem dX10_laysStatements_109 : decode cX10_laysStatements 109 = .ok (.aload_n 0, 1) := by decide +kernel
theorem dX10_laysStatements_110 : decode cX10_laysStatements 110 = .ok (.aload_n 0, 1) := by decide +kernel
theorem dX10_laysStatements_111 : decode cX10_laysStatements 111 = .ok (.getfield 7, 3) := by decide +kernel
theorem dX10_laysStatements_114 : decode cX10_laysStatements 114 = .ok (.sipush 910, 3) := by decide +kernel
theorem dX10_laysStatements_117 : decode cX10_laysStatements 117 = .ok (.iload 4, 2) := by decide +kernel
theorem dX10_laysStatements_119 : decode cX10_laysStatements 119 = .ok (.iadd, 1) := by decide +kernel
theorem dX10_laysStatements_120 : decode cX10_laysStatements 120 = .ok (.iaload, 1) := by decide +kernel
theorem dX10_laysStatements_121 : decode cX10_laysStatements 121 = .ok (.invokevirtual 195, 3) := by decide +kernel
theorem dX10_laysStatements_124 : decode cX10_laysStatements 124 = .ok (.iastore, 1) := by decide +kernel
theorem dX10_laysStatements_125 : decode cX10_laysStatements 125 = .ok (.iconst 0, 1) := by decide +kernel
theorem dX10_laysStatements_126 : decode cX10_laysStatements 126 = .ok (.istore 6, 2) := by decide +kernel
theorem dX10_laysStatements_128 : decode cX10_laysStatements 128 = .ok (.iload 6, 2) := by decide +kernel
theorem dX10_laysStatements_130 : decode cX10_laysStatements 130 = .ok (.aload_n 0, 1) := by decide +kernel
theorem dX10_laysStatements_131 : decode cX10_laysStatements 131 = .ok (.getfield 7, 3) := by decide +kernel
theorem dX10_laysStatements_134 : decode cX10_laysStatements 134 = .ok (.sipush 241, 3) := by decide +kernel
theorem dX10_laysStatements_137 : decode cX10_laysStatements 137 = .ok (.iload_n 3, 1) := by decide +kernel
theorem dX10_laysStatements_138 : decode cX10_laysStatements 138 = .ok (.iadd, 1) := by decide +kernel
theorem dX10_laysStatements_139 : decode cX10_laysStatements 139 = .ok (.iaload, 1) := by decide +kernel
theorem dX10_laysStatements_140 : decode cX10_laysStatements 140 = .ok (.if_icmp .ge 44, 3) := by decide +kernel
theorem dX10_laysStatements_143 : decode cX10_laysStatements 143 = .ok (.iload 4, 2) := by decide +kernel
theorem dX10_laysStatements_145 : decode cX10_laysStatements 145 = .ok (.iconst (-1), 1) := by decide +kernel
theorem dX10_laysStatements_146 : decode cX10_laysStatements 146 = .ok (.if_icmp .ne 38, 3) := by decide +kernel
theorem dX10_laysStatements_149 : decode cX10_laysStatements 149 = .ok (.aload_n 0, 1) := by decide +kernel
theorem dX10_laysStatements_150 : decode cX10_laysStatements 150 = .ok (.getfield 52, 3) := by decide +kernel
theorem dX10_laysStatements_153 : decode cX10_laysStatements 153 = .ok (.iload 5, 2) := by decide +kernel
theorem dX10_laysStatements_155 : decode cX10_laysStatements 155 = .ok (.dup2, 1) := by decide +kernel
theorem dX10_laysStatements_156 : decode cX10_laysStatements 156 = .ok (.iaload, 1) := by decide +kernel
theorem dX10_laysStatements_157 : decode cX10_laysStatements 157 = .ok (.aload_n 0, 1) := by decide +kernel
theorem dX10_laysStatements_158 : decode cX10_laysStatements 158 = .ok (.getfield 7, 3) := by decide +kernel
theorem dX10_laysStatements_161 : decode cX10_laysStatements 161 = .ok (.sipush 281, 3) := by decide +kernel
theorem dX10_laysStatements_164 : decode cX10_laysStatements 164 = .ok (.bipush 12, 2) := by decide +kernel
theorem dX10_laysStatements_166 : decode cX10_laysStatements 166 = .ok (.iload_n 3, 1) := by decide +kernel
theorem dX10_laysStatements_167 : decode cX10_laysStatements 167 = .ok (.imul, 1) := by decide +kernel
theorem dX10_laysStatements_168 : decode cX10_laysStatements 168 = .ok (.iadd, 1) := by decide +kernel
theorem dX10_laysStatements_169 : decode cX10_laysStatements 169 = .ok (.iload 6, 2) := by decide +kernel
theorem dX10_laysStatements_171 : decode cX10_laysStatements 171 = .ok (.iadd, 1) := by decide +kernel
theorem dX10_laysStatements_172 : decode cX10_laysStatements 172 = .ok (.iaload, 1) := by decide +kernel
theorem dX10_laysStatements_173 : decode cX10_laysStatements 173 = .ok (.invokestatic 198, 3) := by decide +kernel
theorem dX10_laysStatements_176 : decode cX10_laysStatements 176 = .ok (.ior, 1) := by decide +kernel
theorem dX10_laysStatements_177 : decode cX10_laysStatements 177 = .ok (.iastore, 1) := by decide +kernel
theorem dX10_laysStatements_178 : decode cX10_laysStatements 178 = .ok (.iinc 6 1, 3) := by decide +kernel
theorem dX10_laysStatements_181 : decode cX10_laysStatements 181 = .ok (.goto (-53), 3) := by decide +kernel
theorem dX10_laysStatements_184 : decode cX10_laysStatements 184 = .ok (.iinc 2 1, 3) := by decide +kernel
theorem dX10_laysStatements_187 : decode cX10_laysStatements 187 = .ok (.iload 4, 2) := by decide +kernel
theorem dX10_laysStatements_189 : decode cX10_laysStatements 189 = .ok (.iconst (-1), 1) := by decide +kernel
theorem dX10_laysStatements_190 : decode cX10_laysStatements 190 = .ok (.if_icmp .ne 9, 3) := by decide +kernel
theorem dX10_laysStatements_193 : decode cX10_laysStatements 193 = .ok (.iload_n 3, 1) := by decide +kernel
theorem dX10_laysStatements_194 : decode cX10_laysStatements 194 = .ok (.iconst 1, 1) := by decide +kernel
theorem dX10_laysStatements_195 : decode cX10_laysStatements 195 = .ok (.iadd, 1) := by decide +kernel
theorem dX10_laysStatements_196 : decode cX10_laysStatements 196 = .ok (.goto 22, 3) := by decide +kernel
theorem dX10_laysStatements_199 : decode cX10_laysStatements 199 = .ok (.aload_n 0, 1) := by decide +kernel
theorem dX10_laysStatements_200 : decode cX10_laysStatements 200 = .ok (.getfield 7, 3) := by decide +kernel
theorem dX10_laysStatements_203 : decode cX10_laysStatements 203 = .ok (.bipush 41, 2) := by decide +kernel
theorem dX10_laysStatements_205 : decode cX10_laysStatements 205 = .ok (.aload_n 0, 1) := by decide +kernel
theorem dX10_laysStatements_206 : decode cX10_laysStatements 206 = .ok (.getfield 7, 3) := by decide +kernel
theorem dX10_laysStatements_209 : decode cX10_laysStatements 209 = .ok (.sipush 830, 3) := by decide +kernel
theorem dX10_laysStatements_212 : decode cX10_laysStatements 212 = .ok (.iload 4, 2) := by decide +kernel
theorem dX10_laysStatements_214 : decode cX10_laysStatements 214 = .ok (.iadd, 1) := by decide +kernel
theorem dX10_laysStatements_215 : decode cX10_laysStatements 215 = .ok (.iaload, 1) := by decide +kernel
theorem dX10_laysStatements_216 : decode cX10_laysStatements 216 = .ok (.iadd, 1) := by decide +kernel
theorem dX10_laysStatements_217 : decode cX10_laysStatements 217 = .ok (.iaload, 1) := by decide +kernel
theorem dX10_laysStatements_218 : decode cX10_laysStatements 218 = .ok (.istore_n 3, 1) := by decide +kernel
theorem dX10_laysStatements_219 : decode cX10_laysStatements 219 = .ok (.goto (-215), 3) := by decide +kernel
theorem dX10_laysStatements_222 : decode cX10_laysStatements 222 = .ok (.aload_n 0, 1) := by decide +kernel
theorem dX10_laysStatements_223 : decode cX10_laysStatements 223 = .ok (.getfield 28, 3) := by decide +kernel
theorem dX10_laysStatements_226 : decode cX10_laysStatements 226 = .ok (.iload_n 1, 1) := by decide +kernel
theorem dX10_laysStatements_227 : decode cX10_laysStatements 227 = .ok (.bipush 41, 2) := by decide +kernel
theorem dX10_laysStatements_229 : decode cX10_laysStatements 229 = .ok (.idiv, 1) := by decide +kernel
theorem dX10_laysStatements_230 : decode cX10_laysStatements 230 = .ok (.iload_n 2, 1) := by decide +kernel
theorem dX10_laysStatements_231 : decode cX10_laysStatements 231 = .ok (.iastore, 1) := by decide +kernel
theorem dX10_laysStatements_232 : decode cX10_laysStatements 232 = .ok (.iconst 0, 1) := by decide +kernel
theorem dX10_laysStatements_233 : decode cX10_laysStatements 233 = .ok (.istore 4, 2) := by decide +kernel
theorem dX10_laysStatements_235 : decode cX10_laysStatements 235 = .ok (.iload 4, 2) := by decide +kernel
theorem dX10_laysStatements_237 : decode cX10_laysStatements 237 = .ok (.iload_n 2, 1) := by decide +kernel
theorem dX10_laysStatements_238 : decode cX10_laysStatements 238 = .ok (.if_icmp .ge 259, 3) := by decide +kernel
theorem dX10_laysStatements_241 : decode cX10_laysStatements 241 = .ok (.aload_n 0, 1) := by decide +kernel
theorem dX10_laysStatements_242 : decode cX10_laysStatements 242 = .ok (.getfield 34, 3) := by decide +kernel
theorem dX10_laysStatements_245 : decode cX10_laysStatements 245 = .ok (.iload_n 1, 1) := by decide +kernel
theorem dX10_laysStatements_246 : decode cX10_laysStatements 246 = .ok (.iload 4, 2) := by decide +kernel
theorem dX10_laysStatements_248 : decode cX10_laysStatements 248 = .ok (.iadd, 1) := by decide +kernel
theorem dX10_laysStatements_249 : decode cX10_laysStatements 249 = .ok (.iconst (-1), 1) := by decide +kernel
theorem dX10_laysStatements_250 : decode cX10_laysStatements 250 = .ok (.iastore, 1) := by decide +kernel
theorem dX10_laysStatements_251 : decode cX10_laysStatements 251 = .ok (.iconst 0, 1) := by decide +kernel
theorem dX10_laysStatements_252 : decode cX10_laysStatements 252 = .ok (.istore 5, 2) := by decide +kernel
theorem dX10_laysStatements_254 : decode cX10_laysStatements 254 = .ok (.iload 5, 2) := by decide +kernel
theorem dX10_laysStatements_256 : decode cX10_laysStatements 256 = .ok (.iload 4, 2) := by decide +kernel
theorem dX10_laysStatements_258 : decode cX10_laysStatements 258 = .ok (.if_icmp .ge 75, 3) := by decide +kernel
theorem dX10_laysStatements_261 : decode cX10_laysStatements 261 = .ok (.aload_n 0, 1) := by decide +kernel
theorem dX10_laysStatements_262 : decode cX10_laysStatements 262 = .ok (.getfield 34, 3) := by decide +kernel
theorem dX10_laysStatements_265 : decode cX10_laysStatements 265 = .ok (.iload_n 1, 1) := by decide +kernel
theorem dX10_laysStatements_266 : decode cX10_laysStatements 266 = .ok (.iload 4, 2) := by decide +kernel
theorem dX10_laysStatements_268 : decode cX10_laysStatements 268 = .ok (.iadd, 1) := by decide +kernel
theorem dX10_laysStatements_269 : decode cX10_laysStatements 269 = .ok (.aload_n 0, 1) := by decide +kernel
theorem dX10_laysStatements_270 : decode cX10_laysStatements 270 = .ok (.getfield 31, 3) := by decide +kernel
theorem dX10_laysStatements_273 : decode cX10_laysStatements 273 = .ok (.iload_n 1, 1) := by decide +kernel
theorem dX10_laysStatements_274 : decode cX10_laysStatements 274 = .ok (.iload 5, 2) := by decide +kernel
theorem dX10_laysStatements_276 : decode cX10_laysStatements 276 = .ok (.iadd, 1) := by decide +kernel
theorem dX10_laysStatements_277 : decode cX10_laysStatements 277 = .ok (.iaload, 1) := by decide +kernel
theorem dX10_laysStatements_278 : decode cX10_laysStatements 278 = .ok (.bipush 7, 2) := by decide +kernel
theorem dX10_laysStatements_280 : decode cX10_laysStatements 280 = .ok (.if_icmp .eq 37, 3) := by decide +kernel
theorem dX10_laysStatements_283 : decode cX10_laysStatements 283 = .ok (.aload_n 0, 1) := by decide +kernel
theorem dX10_laysStatements_284 : decode cX10_laysStatements 284 = .ok (.getfield 43, 3) := by decide +kernel
theorem dX10_laysStatements_287 : decode cX10_laysStatements 287 = .ok (.iload_n 1, 1) := by decide +kernel
theorem dX10_laysStatements_288 : decode cX10_laysStatements 288 = .ok (.iload 5, 2) := by decide +kernel
theorem dX10_laysStatements_290 : decode cX10_laysStatements 290 = .ok (.iadd, 1) := by decide +kernel
theorem dX10_laysStatements_291 : decode cX10_laysStatements 291 = .ok (.iaload, 1) := by decide +kernel
theorem dX10_laysStatements_292 : decode cX10_laysStatements 292 = .ok (.aload_n 0, 1) := by decide +kernel
theorem dX10_laysStatements_293 : decode cX10_laysStatements 293 = .ok (.getfield 7, 3) := by decide +kernel
theorem dX10_laysStatements_296 : decode cX10_laysStatements 296 = .ok (.bipush 81, 2) := by decide +kernel
theorem dX10_laysStatements_298 : decode cX10_laysStatements 298 = .ok (.aload_n 0, 1) := by decide +kernel
theorem dX10_laysStatements_299 : decode cX10_laysStatements 299 = .ok (.getfield 43, 3) := by decide +kernel
theorem dX10_laysStatements_302 : decode cX10_laysStatements 302 = .ok (.iload_n 1, 1) := by decide +kernel
theorem dX10_laysStatements_303 : decode cX10_laysStatements 303 = .ok (.iload 4, 2) := by decide +kernel
theorem dX10_laysStatements_305 : decode cX10_laysStatements 305 = .ok (.iadd, 1) := by decide +kernel
theorem dX10_laysStatements_306 : decode cX10_laysStatements 306 = .ok (.iaload, 1) := by decide +kernel
theorem dX10_laysStatements_307 : decode cX10_laysStatements 307 = .ok (.iadd, 1) := by decide +kernel
theorem dX10_laysStatements_308 : decode cX10_laysStatements 308 = .ok (.iaload, 1) := by decide +kernel
theorem dX10_laysStatements_309 : decode cX10_laysStatements 309 = .ok (.if_icmp .ne 8, 3) := by decide +kernel
theorem dX10_laysStatements_312 : decode cX10_laysStatements 312 = .ok (.iload 5, 2) := by decide +kernel
theorem dX10_laysStatements_314 : decode cX10_laysStatements 314 = .ok (.goto 12, 3) := by decide +kernel
theorem dX10_laysStatements_317 : decode cX10_laysStatements 317 = .ok (.aload_n 0, 1) := by decide +kernel
theorem dX10_laysStatements_318 : decode cX10_laysStatements 318 = .ok (.getfield 34, 3) := by decide +kernel
theorem dX10_laysStatements_321 : decode cX10_laysStatements 321 = .ok (.iload_n 1, 1) := by decide +kernel
theorem dX10_laysStatements_322 : decode cX10_laysStatements 322 = .ok (.iload 4, 2) := by decide +kernel
theorem dX10_laysStatements_324 : decode cX10_laysStatements 324 = .ok (.iadd, 1) := by decide +kernel
theorem dX10_laysStatements_325 : decode cX10_laysStatements 325 = .ok (.iaload, 1) := by decide +kernel
theorem dX10_laysStatements_326 : decode cX10_laysStatements 326 = .ok (.iastore, 1) := by decide +kernel
theorem dX10_laysStatements_327 : decode cX10_laysStatements 327 = .ok (.iinc 5 1, 3) := by decide +kernel
theorem dX10_laysStatements_330 : decode cX10_laysStatements 330 = .ok (.goto (-76), 3) := by decide +kernel
theorem dX10_laysStatements_333 : decode cX10_laysStatements 333 = .ok (.aload_n 0, 1) := by decide +kernel
theorem dX10_laysStatements_334 : decode cX10_laysStatements 334 = .ok (.getfield 40, 3) := by decide +kernel
theorem dX10_laysStatements_337 : decode cX10_laysStatements 337 = .ok (.iload_n 1, 1) := by decide +kernel
theorem dX10_laysStatements_338 : decode cX10_laysStatements 338 = .ok (.iload 4, 2) := by decide +kernel
theorem dX10_laysStatements_340 : decode cX10_laysStatements 340 = .ok (.iadd, 1) := by decide +kernel
theorem dX10_laysStatements_341 : decode cX10_laysStatements 341 = .ok (.iload 4, 2) := by decide +kernel
theorem dX10_laysStatements_343 : decode cX10_laysStatements 343 = .ok (.iconst 1, 1) := by decide +kernel
theorem dX10_laysStatements_344 : decode cX10_laysStatements 344 = .ok (.iadd, 1) := by decide +kernel
theorem dX10_laysStatements_345 : decode cX10_laysStatements 345 = .ok (.iastore, 1) := by decide +kernel
theorem dX10_laysStatements_346 : decode cX10_laysStatements 346 = .ok (.aload_n 0, 1) := by decide +kernel
theorem dX10_laysStatements_347 : decode cX10_laysStatements 347 = .ok (.getfield 31, 3) := by decide +kernel
theorem dX10_laysStatements_350 : decode cX10_laysStatements 350 = .ok (.iload_n 1, 1) := by decide +kernel
theorem dX10_laysStatements_351 : decode cX10_laysStatements 351 = .ok (.iload 4, 2) := by decide +kernel
theorem dX10_laysStatements_353 : decode cX10_laysStatements 353 = .ok (.iadd, 1) := by decide +kernel
theorem dX10_laysStatements_354 : decode cX10_laysStatements 354 = .ok (.iaload, 1) := by decide +kernel
theorem dX10_laysStatements_355 : decode cX10_laysStatements 355 = .ok (.bipush 7, 2) := by decide +kernel
theorem dX10_laysStatements_357 : decode cX10_laysStatements 357 = .ok (.if_icmp .ne 7, 3) := by decide +kernel
theorem dX10_laysStatements_360 : decode cX10_laysStatements 360 = .ok (.iconst 0, 1) := by decide +kernel
theorem dX10_laysStatements_361 : decode cX10_laysStatements 361 = .ok (.goto 20, 3) := by decide +kernel
theorem dX10_laysStatements_364 : decode cX10_laysStatements 364 = .ok (.aload_n 0, 1) := by decide +kernel
theorem dX10_laysStatements_365 : decode cX10_laysStatements 365 = .ok (.getfield 7, 3) := by decide +kernel
theorem dX10_laysStatements_368 : decode cX10_laysStatements 368 = .ok (.bipush 41, 2) := by decide +kernel
theorem dX10_laysStatements_370 : decode cX10_laysStatements 370 = .ok (.aload_n 0, 1) := by decide +kernel
theorem dX10_laysStatements_371 : decode cX10_laysStatements 371 = .ok (.getfield 43, 3) := by decide +kernel
theorem dX10_laysStatements_374 : decode cX10_laysStatements 374 = .ok (.iload_n 1, 1) := by decide +kernel
theorem dX10_laysStatements_375 : decode cX10_laysStatements 375 = .ok (.iload 4, 2) := by decide +kernel
theorem dX10_laysStatements_377 : decode cX10_laysStatements 377 = .ok (.iadd, 1) := by decide +kernel
theorem dX10_laysStatements_378 : decode cX10_laysStatements 378 = .ok (.iaload, 1) := by decide +kernel
theorem dX10_laysStatements_379 : decode cX10_laysStatements 379 = .ok (.iadd, 1) := by decide +kernel
theorem dX10_laysStatements_380 : decode cX10_laysStatements 380 = .ok (.iaload, 1) := by decide +kernel
theorem dX10_laysStatements_381 : decode cX10_laysStatements 381 = .ok (.istore 5, 2) := by decide +kernel
theorem dX10_laysStatements_383 : decode cX10_laysStatements 383 = .ok (.aload_n 0, 1) := by decide +kernel
theorem dX10_laysStatements_384 : decode cX10_laysStatements 384 = .ok (.getfield 40, 3) := by decide +kernel
theorem dX10_laysStatements_387 : decode cX10_laysStatements 387 = .ok (.iload_n 1, 1) := by decide +kernel
theorem dX10_laysStatements_388 : decode cX10_laysStatements 388 = .ok (.iload 4, 2) := by decide +kernel
theorem dX10_laysStatements_390 : decode cX10_laysStatements 390 = .ok (.iadd, 1) := by decide +kernel
theorem dX10_laysStatements_391 : decode cX10_laysStatements 391 = .ok (.iaload, 1) := by decide +kernel
theorem dX10_laysStatements_392 : decode cX10_laysStatements 392 = .ok (.iload_n 2, 1) := by decide +kernel
theorem dX10_laysStatements_393 : decode cX10_laysStatements 393 = .ok (.if_icmp .ge 40, 3) := by decide +kernel
theorem dX10_laysStatements_396 : decode cX10_laysStatements 396 = .ok (.aload_n 0, 1) := by decide +kernel
theorem dX10_laysStatements_397 : decode cX10_laysStatements 397 = .ok (.getfield 43, 3) := by decide +kernel
theorem dX10_laysStatements_400 : decode cX10_laysStatements 400 = .ok (.iload_n 1, 1) := by decide +kernel
theorem dX10_laysStatements_401 : decode cX10_laysStatements 401 = .ok (.aload_n 0, 1) := by decide +kernel
theorem dX10_laysStatements_402 : decode cX10_laysStatements 402 = .ok (.getfield 40, 3) := by decide +kernel
theorem dX10_laysStatements_405 : decode cX10_laysStatements 405 = .ok (.iload_n 1, 1) := by decide +kernel
theorem dX10_laysStatements_406 : decode cX10_laysStatements 406 = .ok (.iload 4, 2) := by decide +kernel
theorem dX10_laysStatements_408 : decode cX10_laysStatements 408 = .ok (.iadd, 1) := by decide +kernel
theorem dX10_laysStatements_409 : decode cX10_laysStatements 409 = .ok (.iaload, 1) := by decide +kernel
theorem dX10_laysStatements_410 : decode cX10_laysStatements 410 = .ok (.iadd, 1) := by decide +kernel
theorem dX10_laysStatements_411 : decode cX10_laysStatements 411 = .ok (.iaload, 1) := by decide +kernel
theorem dX10_laysStatements_412 : decode cX10_laysStatements 412 = .ok (.iload 5, 2) := by decide +kernel
theorem dX10_laysStatements_414 : decode cX10_laysStatements 414 = .ok (.if_icmp .ge 19, 3) := by decide +kernel
theorem dX10_laysStatements_417 : decode cX10_laysStatements 417 = .ok (.aload_n 0, 1) := by decide +kernel
theorem dX10_laysStatements_418 : decode cX10_laysStatements 418 = .ok (.getfield 40, 3) := by decide +kernel
theorem dX10_laysStatements_421 : decode cX10_laysStatements 421 = .ok (.iload_n 1, 1) := by decide +kernel
theorem dX10_laysStatements_422 : decode cX10_laysStatements 422 = .ok (.iload 4, 2) := by decide +kernel
theorem dX10_laysStatements_424 : decode cX10_laysStatements 424 = .ok (.iadd, 1) := by decide +kernel
theorem dX10_laysStatements_425 : decode cX10_laysStatements 425 = .ok (.dup2, 1) := by decide +kernel
theorem dX10_laysStatements_426 : decode cX10_laysStatements 426 = .ok (.iaload, 1) := by decide +kernel
theorem dX10_laysStatements_427 : decode cX10_laysStatements 427 = .ok (.iconst 1, 1) := by decide +kernel
theorem dX10_laysStatements_428 : decode cX10_laysStatements 428 = .ok (.iadd, 1) := by decide +kernel
theorem dX10_laysStatements_429 : decode cX10_laysStatements 429 = .ok (.iastore, 1) := by decide +kernel
theorem dX10_laysStatements_430 : decode cX10_laysStatements 430 = .ok (.goto (-47), 3) := by decide +kernel
theorem dX10_laysStatements_433 : decode cX10_laysStatements 433 = .ok (.aload_n 0, 1) := by decide +kernel
theorem dX10_laysStatements_434 : decode cX10_laysStatements 434 = .ok (.getfield 34, 3) := by decide +kernel
theorem dX10_laysStatements_437 : decode cX10_laysStatements 437 = .ok (.iload_n 1, 1) := by decide +kernel
theorem dX10_laysStatements_438 : decode cX10_laysStatements 438 = .ok (.iload 4, 2) := by decide +kernel
theorem dX10_laysStatements_440 : decode cX10_laysStatements 440 = .ok (.iadd, 1) := by decide +kernel
theorem dX10_laysStatements_441 : decode cX10_laysStatements 441 = .ok (.iaload, 1) := by decide +kernel
theorem dX10_laysStatements_442 : decode cX10_laysStatements 442 = .ok (.istore 6, 2) := by decide +kernel
theorem dX10_laysStatements_444 : decode cX10_laysStatements 444 = .ok (.aload_n 0, 1) := by decide +kernel
theorem dX10_laysStatements_445 : decode cX10_laysStatements 445 = .ok (.getfield 49, 3) := by decide +kernel
theorem dX10_laysStatements_448 : decode cX10_laysStatements 448 = .ok (.iload_n 1, 1) := by decide +kernel
theorem dX10_laysStatements_449 : decode cX10_laysStatements 449 = .ok (.iload 4, 2) := by decide +kernel
theorem dX10_laysStatements_451 : decode cX10_laysStatements 451 = .ok (.iadd, 1) := by decide +kernel
theorem dX10_laysStatements_452 : decode cX10_laysStatements 452 = .ok (.iload 6, 2) := by decide +kernel
theorem dX10_laysStatements_454 : decode cX10_laysStatements 454 = .ok (.iconst (-1), 1) := by decide +kernel
theorem dX10_laysStatements_455 : decode cX10_laysStatements 455 = .ok (.if_icmp .ne 7, 3) := by decide +kernel
theorem dX10_laysStatements_458 : decode cX10_laysStatements 458 = .ok (.iconst (-1), 1) := by decide +kernel
theorem dX10_laysStatements_459 : decode cX10_laysStatements 459 = .ok (.goto 31, 3) := by decide +kernel
theorem dX10_laysStatements_462 : decode cX10_laysStatements 462 = .ok (.aload_n 0, 1) := by decide +kernel
theorem dX10_laysStatements_463 : decode cX10_laysStatements 463 = .ok (.getfield 31, 3) := by decide +kernel
theorem dX10_laysStatements_466 : decode cX10_laysStatements 466 = .ok (.iload_n 1, 1) := by decide +kernel
theorem dX10_laysStatements_467 : decode cX10_laysStatements 467 = .ok (.iload 6, 2) := by decide +kernel
theorem dX10_laysStatements_469 : decode cX10_laysStatements 469 = .ok (.iadd, 1) := by decide +kernel
theorem dX10_laysStatements_470 : decode cX10_laysStatements 470 = .ok (.iaload, 1) := by decide +kernel
theorem dX10_laysStatements_471 : decode cX10_laysStatements 471 = .ok (.bipush 6, 2) := by decide +kernel
theorem dX10_laysStatements_473 : decode cX10_laysStatements 473 = .ok (.if_icmp .ne 8, 3) := by decide +kernel
theorem dX10_laysStatements_476 : decode cX10_laysStatements 476 = .ok (.iload 6, 2) := by decide +kernel
theorem dX10_laysStatements_478 : decode cX10_laysStatements 478 = .ok (.goto 12, 3) := by decide +kernel
theorem dX10_laysStatements_481 : decode cX10_laysStatements 481 = .ok (.aload_n 0, 1) := by decide +kernel
theorem dX10_laysStatements_482 : decode cX10_laysStatements 482 = .ok (.getfield 49, 3) := by decide +kernel
theorem dX10_laysStatements_485 : decode cX10_laysStatements 485 = .ok (.iload_n 1, 1) := by decide +kernel
theorem dX10_laysStatements_486 : decode cX10_laysStatements 486 = .ok (.iload 6, 2) := by decide +kernel
theorem dX10_laysStatements_488 : decode cX10_laysStatements 488 = .ok (.iadd, 1) := by decide +kernel
theorem dX10_laysStatements_489 : decode cX10_laysStatements 489 = .ok (.iaload, 1) := by decide +kernel
theorem dX10_laysStatements_490 : decode cX10_laysStatements 490 = .ok (.iastore, 1) := by decide +kernel
theorem dX10_laysStatements_491 : decode cX10_laysStatements 491 = .ok (.iinc 4 1, 3) := by decide +kernel
theorem dX10_laysStatements_494 : decode cX10_laysStatements 494 = .ok (.goto (-259), 3) := by decide +kernel
theorem dX10_laysStatements_497 : decode cX10_laysStatements 497 = .ok (.return_, 1) := by decide +kernel
set_option maxHeartbeats 4000000 in
set_option maxRecDepth 10000 in
theorem vX10_laysStatements_0 {l : Launch} {M : sl_M} {Q : sl_R} {x1 : Int} (H : sl_RM M → sl_rg x1 → sl_At l mX10_laysStatements 4 [(0, vR 1 0), (1, vI x1), (2, vI 0), (3, vI 0)] [] M Q) : sl_At l mX10_laysStatements 0 [(0, vR 1 0), (1, vI x1)] [] M Q := by
  refine sl_At.in (fun hM hls => ?_)
  have g1 : sl_rg x1 := hls _ (List.mem_of_getElem? (i := 1) rfl)
  have H := H hM g1
  refine r_iconst dX10_laysStatements_0 ?_
  refine r_istore_n (ls' := [(2, vI 0), (0, vR 1 0), (1, vI x1)]) ⟨by decide, by decide⟩ rfl (by decide) rfl dX10_laysStatements_1 ?_
  refine r_iconst dX10_laysStatements_2 ?_
  refine r_istore_n (ls' := [(3, vI 0), (2, vI 0), (0, vR 1 0), (1, vI x1)]) ⟨by decide, by decide⟩ rfl (by decide) rfl dX10_laysStatements_3 ?_
  exact sl_At.sub [2, 3, 1, 0] rfl H
set_option maxHeartbeats 4000000 in
set_option maxRecDepth 10000 in
theorem vX10_laysStatements_4 {l : Launch} {M : sl_M} {Q : sl_R} {x1 x2 x3 : Int} (H : sl_RM M → sl_rg x1 → sl_rg x2 → sl_rg x3 → ((M 1 1 0 ≤ x3) → (0 ≤ idiv x1 41 ∧ idiv x1 41 < 2) ∧ (∀ M3, M3 = sl_wr M 1 16 (idiv x1 41) x2 → sl_At l mX10_laysStatements 235 [(0, vR 1 0), (1, vI x1), (2, vI x2), (4, vI 0)] [] M3 Q)) ∧ ((¬ (M 1 1 0 ≤ x3)) → ((x1 ≠ 0) → sl_At l mX10_laysStatements 27 [(0, vR 1 0), (1, vI x1), (2, vI x2), (3, vI x3)] [vI (-1)] M Q) ∧ ((¬ (x1 ≠ 0)) → sl_RI l mX10_callAt [vR 1 0, vI x3] M (fun y6 M5 => sl_At l mX10_laysStatements 27 [(0, vR 1 0), (1, vI x1), (2, vI x2), (3, vI x3)] [vI y6] M5 Q)))) : sl_At l mX10_laysStatements 4 [(0, vR 1 0), (1, vI x1), (2, vI x2), (3, vI x3)] [] M Q := by
  refine sl_At.in (fun hM hls => ?_)
  have g1 : sl_rg x1 := hls _ (List.mem_of_getElem? (i := 1) rfl)
  have g2 : sl_rg x2 := hls _ (List.mem_of_getElem? (i := 2) rfl)
  have g3 : sl_rg x3 := hls _ (List.mem_of_getElem? (i := 3) rfl)
  have H := H hM g1 g2 g3
  refine r_iload_n (k := 3) rfl rfl dX10_laysStatements_4 ?_
  refine r_aload_n (k := 0) rfl rfl dX10_laysStatements_5 ?_
  refine r_getR (k := 0) (o' := 1) (i' := 1) ckX10 rfl rfl (by decide) rfl rfl rfl fl_X10_7 dX10_laysStatements_6 ?_
  refine r_iconst dX10_laysStatements_9 ?_
  refine r_iald rfl rfl rfl ⟨by decide, by decide⟩ dX10_laysStatements_10 ?_
  refine r_icmp_ge (tgt := 222) g3 (hM _ _ _) dX10_laysStatements_11 (by decide) (fun h1 => ?_) (fun h1 => ?_)
  · have H := H.1 h1
    refine r_aload_n (k := 0) rfl rfl dX10_laysStatements_222 ?_
    refine r_getR (k := 15) (o' := 1) (i' := 16) ckX10 rfl rfl (by decide) rfl rfl rfl fl_X10_28 dX10_laysStatements_223 ?_
    refine r_iload_n (k := 1) rfl rfl dX10_laysStatements_226 ?_
    refine r_bipush dX10_laysStatements_227 (by decide) ?_
    refine r_idiv ⟨by decide, by decide⟩ (by decide) dX10_laysStatements_229 ?_
    refine r_iload_n (k := 2) rfl rfl dX10_laysStatements_230 ?_
    obtain ⟨c2, H⟩ := H
    refine r_iast rfl rfl rfl c2 g2 dX10_laysStatements_231 ?_
    refine r_mm (fun M3 e3 => ?_)
    have H := H M3 e3
    have hM3 : sl_RM M3 := by rw [e3]; exact sl_wr_RM hM g2
    refine r_iconst dX10_laysStatements_232 ?_
    refine r_istore (ls' := [(4, vI 0), (0, vR 1 0), (1, vI x1), (2, vI x2), (3, vI x3)]) ⟨by decide, by decide⟩ (by decide) rfl dX10_laysStatements_233 ?_
    exact sl_At.sub [1, 2, 3, 0] rfl H
  · have H := H.2 h1
    refine r_iload_n (k := 1) rfl rfl dX10_laysStatements_14 ?_
    refine r_if_ne (tgt := 26) g1 dX10_laysStatements_15 (by decide) (fun h4 => ?_) (fun h4 => ?_)
    · have H := H.1 h4
      refine r_iconst dX10_laysStatements_26 ?_
      exact H
    · have H := H.2 h4
      refine r_aload_n (k := 0) rfl rfl dX10_laysStatements_18 ?_
      refine r_iload_n (k := 3) rfl rfl dX10_laysStatements_19 ?_
      refine r_callV (g := mX10_callAt) ckX10 rfl rfl rfl rfl mkX10_callAt mvX10_callAt ml_X10_192 ⟨by decide, by decide⟩ rfl (Nat.le_of_ble_eq_true rfl) rfl (ok_i g3 ok_n) dX10_laysStatements_20 (sl_afterI (sl_RI.mono (fun y6 M5 gy6 hM5 H => ?_) H))
      refine r_goto (tgt := 27) dX10_laysStatements_23 (by decide) ?_
      exact H
set_option maxHeartbeats 4000000 in
set_option maxRecDepth 10000 in
theorem vX10_laysStatements_27 {l : Launch} {M : sl_M} {Q : sl_R} {x1 x2 x3 s0 : Int} (gs0 : sl_rg s0) (H : sl_RM M → sl_rg x1 → sl_rg x2 → sl_rg x3 → (sl_rg (x1 + x2)) ∧ (∀ y2 : Int, y2 = x1 + x2 → (0 ≤ y2 ∧ y2 < 82) ∧ (∀ M4, M4 = sl_wr M 1 21 y2 x3 → (∀ M5, M5 = sl_wr M4 1 22 y2 s0 → (((¬ (s0 ≠ (-1))) → (0 ≤ 1 + x3 ∧ 1 + x3 < 990))) ∧ (∀ M8, M8 = sl_wr M5 1 17 y2 (if s0 ≠ (-1) then 7 else M5 1 1 (1 + x3)) → (0 ≤ 121 + x3 ∧ 121 + x3 < 990) ∧ (∀ M10, M10 = sl_wr M8 1 19 y2 (M8 1 1 (121 + x3)) → ((s0 ≠ (-1)) → (0 ≤ 910 + s0 ∧ 910 + s0 < 990) ∧ sl_RI l mX10_listSet [vR 1 0, vI (M10 1 1 (910 + s0))] M10 (fun y14 M13 => (∀ M15, M15 = sl_wr M13 1 24 y2 y14 → sl_At l mX10_laysStatements 128 [(0, vR 1 0), (1, vI x1), (2, vI x2), (3, vI x3), (4, vI s0), (5, vI y2), (6, vI 0)] [] M15 Q))) ∧ ((¬ (s0 ≠ (-1))) → (∀ M16, M16 = sl_wr M10 1 24 y2 0 → sl_At l mX10_laysStatements 128 [(0, vR 1 0), (1, vI x1), (2, vI x2), (3, vI x3), (4, vI s0), (5, vI y2), (6, vI 0)] [] M16 Q)))))))) : sl_At l mX10_laysStatements 27 [(0, vR 1 0), (1, vI x1), (2, vI x2), (3, vI x3)] [vI s0] M Q := by
  refine sl_At.in (fun hM hls => ?_)
  have g1 : sl_rg x1 := hls _ (List.mem_of_getElem? (i := 1) rfl)
  have g2 : sl_rg x2 := hls _ (List.mem_of_getElem? (i := 2) rfl)
  have g3 : sl_rg x3 := hls _ (List.mem_of_getElem? (i := 3) rfl)
  have H := H hM g1 g2 g3
  refine r_istore (ls' := [(4, vI s0), (0, vR 1 0), (1, vI x1), (2, vI x2), (3, vI x3)]) gs0 (by decide) rfl dX10_laysStatements_27 ?_
  refine r_iload_n (k := 2) rfl rfl dX10_laysStatements_29 ?_
  refine r_iload_n (k := 3) rfl rfl dX10_laysStatements_30 ?_
  refine r_iadd dX10_laysStatements_31 ?_
  obtain ⟨c1, H⟩ := H
  refine r_nm (fun y2 fy2 => ?_)
  have H := H y2 fy2
  have gy2 : sl_rg y2 := by rw [fy2]; exact c1
  refine r_istore (ls' := [(5, vI y2), (4, vI s0), (0, vR 1 0), (1, vI x1), (2, vI x2), (3, vI x3)]) gy2 (by decide) rfl dX10_laysStatements_32 ?_
  refine r_aload_n (k := 2) rfl rfl dX10_laysStatements_34 ?_
  refine r_getR (k := 20) (o' := 1) (i' := 21) ckX10 rfl rfl (by decide) rfl rfl rfl fl_X10_43 dX10_laysStatements_35 ?_
  refine r_iload (k := 0) rfl dX10_laysStatements_38 ?_
  refine r_iload_n (k := 5) rfl rfl dX10_laysStatements_40 ?_
  obtain ⟨c3, H⟩ := H
  refine r_iast rfl rfl rfl c3 g3 dX10_laysStatements_41 ?_
  refine r_mm (fun M4 e4 => ?_)
  have H := H M4 e4
  have hM4 : sl_RM M4 := by rw [e4]; exact sl_wr_RM hM g3
  refine r_aload_n (k := 2) rfl rfl dX10_laysStatements_42 ?_
  refine r_getR (k := 21) (o' := 1) (i' := 22) ckX10 rfl rfl (by decide) rfl rfl rfl fl_X10_46 dX10_laysStatements_43 ?_
  refine r_iload (k := 0) rfl dX10_laysStatements_46 ?_
  refine r_iload (k := 1) rfl dX10_laysStatements_48 ?_
  refine r_iast rfl rfl rfl c3 gs0 dX10_laysStatements_50 ?_
  refine r_mm (fun M5 e5 => ?_)
  have H := H M5 e5
  have hM5 : sl_RM M5 := by rw [e5]; exact sl_wr_RM hM4 gs0
  refine r_aload_n (k := 2) rfl rfl dX10_laysStatements_51 ?_
  refine r_getR (k := 16) (o' := 1) (i' := 17) ckX10 rfl rfl (by decide) rfl rfl rfl fl_X10_31 dX10_laysStatements_52 ?_
  refine r_iload (k := 0) rfl dX10_laysStatements_55 ?_
  refine r_iload (k := 1) rfl dX10_laysStatements_57 ?_
  refine r_iconst dX10_laysStatements_59 ?_
  obtain ⟨K, H⟩ := H
  have J : sl_At l mX10_laysStatements 76 [(5, vI y2), (4, vI s0), (0, vR 1 0), (1, vI x1), (2, vI x2), (3, vI x3)] [vI (if s0 ≠ (-1) then 7 else M5 1 1 (1 + x3)), vI y2, vR 1 17] M5 Q := by
    refine r_iast rfl rfl rfl c3 (sl_rgite ⟨by decide, by decide⟩ (hM5 _ _ _)) dX10_laysStatements_76 ?_
    refine r_mm (fun M8 e8 => ?_)
    have H := H M8 e8
    have hM8 : sl_RM M8 := by rw [e8]; exact sl_wr_RM hM5 (sl_rgite ⟨by decide, by decide⟩ (hM5 _ _ _))
    refine r_aload_n (k := 2) rfl rfl dX10_laysStatements_77 ?_
    refine r_getR (k := 18) (o' := 1) (i' := 19) ckX10 rfl rfl (by decide) rfl rfl rfl fl_X10_37 dX10_laysStatements_78 ?_
    refine r_iload (k := 0) rfl dX10_laysStatements_81 ?_
    refine r_aload_n (k := 2) rfl rfl dX10_laysStatements_83 ?_
    refine r_getR (k := 0) (o' := 1) (i' := 1) ckX10 rfl rfl (by decide) rfl rfl rfl fl_X10_7 dX10_laysStatements_84 ?_
    refine r_bipush dX10_laysStatements_87 (by decide) ?_
    refine r_iload_n (k := 5) rfl rfl dX10_laysStatements_89 ?_
    refine r_iadd dX10_laysStatements_90 ?_
    obtain ⟨c9, H⟩ := H
    refine r_iald rfl rfl rfl c9 dX10_laysStatements_91 ?_
    refine r_iast rfl rfl rfl c3 (hM8 _ _ _) dX10_laysStatements_92 ?_
    refine r_mm (fun M10 e10 => ?_)
    have H := H M10 e10
    have hM10 : sl_RM M10 := by rw [e10]; exact sl_wr_RM hM8 (hM8 _ _ _)
    refine r_aload_n (k := 2) rfl rfl dX10_laysStatements_93 ?_
    refine r_getR (k := 23) (o' := 1) (i' := 24) ckX10 rfl rfl (by decide) rfl rfl rfl fl_X10_52 dX10_laysStatements_94 ?_
    refine r_iload (k := 0) rfl dX10_laysStatements_97 ?_
    refine r_iload (k := 1) rfl dX10_laysStatements_99 ?_
    refine r_iconst dX10_laysStatements_101 ?_
    refine r_icmp_ne (tgt := 109) gs0 ⟨by decide, by decide⟩ dX10_laysStatements_102 (by decide) (fun h11 => ?_) (fun h11 => ?_)
    · have H := H.1 h11
      refine r_aload_n (k := 2) rfl rfl dX10_laysStatements_109 ?_
      refine r_aload_n (k := 2) rfl rfl dX10_laysStatements_110 ?_
      refine r_getR (k := 0) (o' := 1) (i' := 1) ckX10 rfl rfl (by decide) rfl rfl rfl fl_X10_7 dX10_laysStatements_111 ?_
      refine r_sipush dX10_laysStatements_114 (by decide) ?_
      refine r_iload (k := 1) rfl dX10_laysStatements_117 ?_
      refine r_iadd dX10_laysStatements_119 ?_
      obtain ⟨c12, H⟩ := H
      refine r_iald rfl rfl rfl c12 dX10_laysStatements_120 ?_
      refine r_callV (g := mX10_listSet) ckX10 rfl rfl rfl rfl mkX10_listSet mvX10_listSet ml_X10_195 ⟨by decide, by decide⟩ rfl (Nat.le_of_ble_eq_true rfl) rfl (ok_i (hM10 _ _ _) ok_n) dX10_laysStatements_121 (sl_afterI (sl_RI.mono (fun y14 M13 gy14 hM13 H => ?_) H))
      refine r_iast rfl rfl rfl c3 gy14 dX10_laysStatements_124 ?_
      refine r_mm (fun M15 e15 => ?_)
      have H := H M15 e15
      have hM15 : sl_RM M15 := by rw [e15]; exact sl_wr_RM hM13 gy14
      refine r_iconst dX10_laysStatements_125 ?_
      refine r_istore (ls' := [(6, vI 0), (5, vI y2), (4, vI s0), (0, vR 1 0), (1, vI x1), (2, vI x2), (3, vI x3)]) ⟨by decide, by decide⟩ (by decide) rfl dX10_laysStatements_126 ?_
      exact sl_At.sub [3, 4, 5, 6, 2, 1, 0] rfl H
    · have H := H.2 h11
      refine r_iconst dX10_laysStatements_105 ?_
      refine r_goto (tgt := 124) dX10_laysStatements_106 (by decide) ?_
      refine r_iast rfl rfl rfl c3 ⟨by decide, by decide⟩ dX10_laysStatements_124 ?_
      refine r_mm (fun M16 e16 => ?_)
      have H := H M16 e16
      have hM16 : sl_RM M16 := by rw [e16]; exact sl_wr_RM hM10 ⟨by decide, by decide⟩
      refine r_iconst dX10_laysStatements_125 ?_
      refine r_istore (ls' := [(6, vI 0), (5, vI y2), (4, vI s0), (0, vR 1 0), (1, vI x1), (2, vI x2), (3, vI x3)]) ⟨by decide, by decide⟩ (by decide) rfl dX10_laysStatements_126 ?_
      exact sl_At.sub [3, 4, 5, 6, 2, 1, 0] rfl H
  refine r_icmp_ne (tgt := 74) gs0 ⟨by decide, by decide⟩ dX10_laysStatements_60 (by decide) (fun h7 => ?_) (fun h7 => ?_)
  · refine r_bipush dX10_laysStatements_74 (by decide) ?_
    rw [if_pos h7] at J
    exact J
  · replace K := K h7
    have c6 := K
    refine r_aload_n (k := 2) rfl rfl dX10_laysStatements_63 ?_
    refine r_getR (k := 0) (o' := 1) (i' := 1) ckX10 rfl rfl (by decide) rfl rfl rfl fl_X10_7 dX10_laysStatements_64 ?_
    refine r_iconst dX10_laysStatements_67 ?_
    refine r_iload_n (k := 5) rfl rfl dX10_laysStatements_68 ?_
    refine r_iadd dX10_laysStatements_69 ?_
    refine r_iald rfl rfl rfl c6 dX10_laysStatements_70 ?_
    refine r_goto (tgt := 76) dX10_laysStatements_71 (by decide) ?_
    rw [if_neg h7] at J
    exact J
set_option maxHeartbeats 4000000 in
set_option maxRecDepth 10000 in
theorem vX10_laysStatements_128 {l : Launch} {M : sl_M} {Q : sl_R} {x1 x2 x3 x4 x5 x6 : Int} (H : sl_RM M → sl_rg x1 → sl_rg x2 → sl_rg x3 → sl_rg x4 → sl_rg x5 → sl_rg x6 → (0 ≤ 241 + x3 ∧ 241 + x3 < 990) ∧ ((M 1 1 (241 + x3) ≤ x6) → (sl_rg (x2 + 1)) ∧ (((x4 ≠ (-1)) → (0 ≤ 830 + x4 ∧ 830 + x4 < 990) ∧ (0 ≤ 41 + (M 1 1 (830 + x4)) ∧ 41 + (M 1 1 (830 + x4)) < 990))) ∧ (sl_rg (if x4 ≠ (-1) then M 1 1 (41 + (M 1 1 (830 + x4))) else x3 + 1)) ∧ (∀ y8 : Int, y8 = (if x4 ≠ (-1) then M 1 1 (41 + (M 1 1 (830 + x4))) else x3 + 1) → sl_At l mX10_laysStatements 4 [(0, vR 1 0), (1, vI x1), (2, vI (x2 + 1)), (3, vI y8)] [] M Q)) ∧ ((¬ (M 1 1 (241 + x3) ≤ x6)) → ((x4 ≠ (-1)) → (sl_rg (x2 + 1)) ∧ (((x4 ≠ (-1)) → (0 ≤ 830 + x4 ∧ 830 + x4 < 990) ∧ (0 ≤ 41 + (M 1 1 (830 + x4)) ∧ 41 + (M 1 1 (830 + x4)) < 990))) ∧ (sl_rg (if x4 ≠ (-1) then M 1 1 (41 + (M 1 1 (830 + x4))) else x3 + 1)) ∧ (∀ y15 : Int, y15 = (if x4 ≠ (-1) then M 1 1 (41 + (M 1 1 (830 + x4))) else x3 + 1) → sl_At l mX10_laysStatements 4 [(0, vR 1 0), (1, vI x1), (2, vI (x2 + 1)), (3, vI y15)] [] M Q)) ∧ ((¬ (x4 ≠ (-1))) → (0 ≤ x5 ∧ x5 < 82) ∧ (0 ≤ (281 + (12 * x3)) + x6 ∧ (281 + (12 * x3)) + x6 < 990) ∧ sl_RI l mX10_isVariable [vI (M 1 1 ((281 + (12 * x3)) + x6))] M (fun y19 M18 => (∀ M20, M20 = sl_wr M18 1 24 x5 (ior (M 1 24 x5) y19) → (sl_rg (x6 + 1)) ∧ sl_At l mX10_laysStatements 128 [(0, vR 1 0), (1, vI x1), (2, vI x2), (3, vI x3), (4, vI x4), (5, vI x5), (6, vI (x6 + 1))] [] M20 Q))))) : sl_At l mX10_laysStatements 128 [(0, vR 1 0), (1, vI x1), (2, vI x2), (3, vI x3), (4, vI x4), (5, vI x5), (6, vI x6)] [] M Q := by
  refine sl_At.in (fun hM hls => ?_)
  have g1 : sl_rg x1 := hls _ (List.mem_of_getElem? (i := 1) rfl)
  have g2 : sl_rg x2 := hls _ (List.mem_of_getElem? (i := 2) rfl)
  have g3 : sl_rg x3 := hls _ (List.mem_of_getElem? (i := 3) rfl)
  have g4 : sl_rg x4 := hls _ (List.mem_of_getElem? (i := 4) rfl)
  have g5 : sl_rg x5 := hls _ (List.mem_of_getElem? (i := 5) rfl)
  have g6 : sl_rg x6 := hls _ (List.mem_of_getElem? (i := 6) rfl)
  have H := H hM g1 g2 g3 g4 g5 g6
  refine r_iload (k := 6) rfl dX10_laysStatements_128 ?_
  refine r_aload_n (k := 0) rfl rfl dX10_laysStatements_130 ?_
  refine r_getR (k := 0) (o' := 1) (i' := 1) ckX10 rfl rfl (by decide) rfl rfl rfl fl_X10_7 dX10_laysStatements_131 ?_
  refine r_sipush dX10_laysStatements_134 (by decide) ?_
  refine r_iload_n (k := 3) rfl rfl dX10_laysStatements_137 ?_
  refine r_iadd dX10_laysStatements_138 ?_
  obtain ⟨c1, H⟩ := H
  refine r_iald rfl rfl rfl c1 dX10_laysStatements_139 ?_
  refine r_icmp_ge (tgt := 184) g6 (hM _ _ _) dX10_laysStatements_140 (by decide) (fun h2 => ?_) (fun h2 => ?_)
  · have H := H.1 h2
    obtain ⟨c3, H⟩ := H
    refine r_iinc (k := 2) (ls' := [(2, vI (x2 + 1)), (0, vR 1 0), (1, vI x1), (3, vI x3), (4, vI x4), (5, vI x5), (6, vI x6)]) rfl c3 (by decide) rfl dX10_laysStatements_184 ?_
    refine r_iload (k := 4) rfl dX10_laysStatements_187 ?_
    refine r_iconst dX10_laysStatements_189 ?_
    obtain ⟨K, H⟩ := H
    have J : sl_At l mX10_laysStatements 218 [(2, vI (x2 + 1)), (0, vR 1 0), (1, vI x1), (3, vI x3), (4, vI x4), (5, vI x5), (6, vI x6)] [vI (if x4 ≠ (-1) then M 1 1 (41 + (M 1 1 (830 + x4))) else x3 + 1)] M Q := by
      obtain ⟨c7, H⟩ := H
      refine r_nm (fun y8 fy8 => ?_)
      have H := H y8 fy8
      have gy8 : sl_rg y8 := by rw [fy8]; exact c7
      refine r_istore_n (ls' := [(3, vI y8), (2, vI (x2 + 1)), (0, vR 1 0), (1, vI x1), (4, vI x4), (5, vI x5), (6, vI x6)]) gy8 rfl (by decide) rfl dX10_laysStatements_218 ?_
      refine r_goto (tgt := 4) dX10_laysStatements_219 (by decide) ?_
      exact sl_At.sub [2, 3, 1, 0] rfl H
    refine r_icmp_ne (tgt := 199) g4 ⟨by decide, by decide⟩ dX10_laysStatements_190 (by decide) (fun h6 => ?_) (fun h6 => ?_)
    · replace K := K h6
      obtain ⟨c4, K⟩ := K
      have c5 := K
      refine r_aload_n (k := 1) rfl rfl dX10_laysStatements_199 ?_
      refine r_getR (k := 0) (o' := 1) (i' := 1) ckX10 rfl rfl (by decide) rfl rfl rfl fl_X10_7 dX10_laysStatements_200 ?_
      refine r_bipush dX10_laysStatements_203 (by decide) ?_
      refine r_aload_n (k := 1) rfl rfl dX10_laysStatements_205 ?_
      refine r_getR (k := 0) (o' := 1) (i' := 1) ckX10 rfl rfl (by decide) rfl rfl rfl fl_X10_7 dX10_laysStatements_206 ?_
      refine r_sipush dX10_laysStatements_209 (by decide) ?_
      refine r_iload (k := 4) rfl dX10_laysStatements_212 ?_
      refine r_iadd dX10_laysStatements_214 ?_
      refine r_iald rfl rfl rfl c4 dX10_laysStatements_215 ?_
      refine r_iadd dX10_laysStatements_216 ?_
      refine r_iald rfl rfl rfl c5 dX10_laysStatements_217 ?_
      rw [if_pos h6] at J
      exact J
    · refine r_iload_n (k := 3) rfl rfl dX10_laysStatements_193 ?_
      refine r_iconst dX10_laysStatements_194 ?_
      refine r_iadd dX10_laysStatements_195 ?_
      refine r_goto (tgt := 218) dX10_laysStatements_196 (by decide) ?_
      rw [if_neg h6] at J
      exact J
  · have H := H.2 h2
    refine r_iload (k := 4) rfl dX10_laysStatements_143 ?_
    refine r_iconst dX10_laysStatements_145 ?_
    refine r_icmp_ne (tgt := 184) g4 ⟨by decide, by decide⟩ dX10_laysStatements_146 (by decide) (fun h9 => ?_) (fun h9 => ?_)
    · have H := H.1 h9
      obtain ⟨c10, H⟩ := H
      refine r_iinc (k := 2) (ls' := [(2, vI (x2 + 1)), (0, vR 1 0), (1, vI x1), (3, vI x3), (4, vI x4), (5, vI x5), (6, vI x6)]) rfl c10 (by decide) rfl dX10_laysStatements_184 ?_
      refine r_iload (k := 4) rfl dX10_laysStatements_187 ?_
      refine r_iconst dX10_laysStatements_189 ?_
      obtain ⟨K, H⟩ := H
      have J : sl_At l mX10_laysStatements 218 [(2, vI (x2 + 1)), (0, vR 1 0), (1, vI x1), (3, vI x3), (4, vI x4), (5, vI x5), (6, vI x6)] [vI (if x4 ≠ (-1) then M 1 1 (41 + (M 1 1 (830 + x4))) else x3 + 1)] M Q := by
        obtain ⟨c14, H⟩ := H
        refine r_nm (fun y15 fy15 => ?_)
        have H := H y15 fy15
        have gy15 : sl_rg y15 := by rw [fy15]; exact c14
        refine r_istore_n (ls' := [(3, vI y15), (2, vI (x2 + 1)), (0, vR 1 0), (1, vI x1), (4, vI x4), (5, vI x5), (6, vI x6)]) gy15 rfl (by decide) rfl dX10_laysStatements_218 ?_
        refine r_goto (tgt := 4) dX10_laysStatements_219 (by decide) ?_
        exact sl_At.sub [2, 3, 1, 0] rfl H
      refine r_icmp_ne (tgt := 199) g4 ⟨by decide, by decide⟩ dX10_laysStatements_190 (by decide) (fun h13 => ?_) (fun h13 => ?_)
      · replace K := K h13
        obtain ⟨c11, K⟩ := K
        have c12 := K
        refine r_aload_n (k := 1) rfl rfl dX10_laysStatements_199 ?_
        refine r_getR (k := 0) (o' := 1) (i' := 1) ckX10 rfl rfl (by decide) rfl rfl rfl fl_X10_7 dX10_laysStatements_200 ?_
        refine r_bipush dX10_laysStatements_203 (by decide) ?_
        refine r_aload_n (k := 1) rfl rfl dX10_laysStatements_205 ?_
        refine r_getR (k := 0) (o' := 1) (i' := 1) ckX10 rfl rfl (by decide) rfl rfl rfl fl_X10_7 dX10_laysStatements_206 ?_
        refine r_sipush dX10_laysStatements_209 (by decide) ?_
        refine r_iload (k := 4) rfl dX10_laysStatements_212 ?_
        refine r_iadd dX10_laysStatements_214 ?_
        refine r_iald rfl rfl rfl c11 dX10_laysStatements_215 ?_
        refine r_iadd dX10_laysStatements_216 ?_
        refine r_iald rfl rfl rfl c12 dX10_laysStatements_217 ?_
        rw [if_pos h13] at J
        exact J
      · refine r_iload_n (k := 3) rfl rfl dX10_laysStatements_193 ?_
        refine r_iconst dX10_laysStatements_194 ?_
        refine r_iadd dX10_laysStatements_195 ?_
        refine r_goto (tgt := 218) dX10_laysStatements_196 (by decide) ?_
        rw [if_neg h13] at J
        exact J
    · have H := H.2 h9
      refine r_aload_n (k := 0) rfl rfl dX10_laysStatements_149 ?_
      refine r_getR (k := 23) (o' := 1) (i' := 24) ckX10 rfl rfl (by decide) rfl rfl rfl fl_X10_52 dX10_laysStatements_150 ?_
      refine r_iload (k := 5) rfl dX10_laysStatements_153 ?_
      refine r_dup2 rfl rfl dX10_laysStatements_155 ?_
      obtain ⟨c16, H⟩ := H
      refine r_iald rfl rfl rfl c16 dX10_laysStatements_156 ?_
      refine r_aload_n (k := 0) rfl rfl dX10_laysStatements_157 ?_
      refine r_getR (k := 0) (o' := 1) (i' := 1) ckX10 rfl rfl (by decide) rfl rfl rfl fl_X10_7 dX10_laysStatements_158 ?_
      refine r_sipush dX10_laysStatements_161 (by decide) ?_
      refine r_bipush dX10_laysStatements_164 (by decide) ?_
      refine r_iload_n (k := 3) rfl rfl dX10_laysStatements_166 ?_
      refine r_imul dX10_laysStatements_167 ?_
      refine r_iadd dX10_laysStatements_168 ?_
      refine r_iload (k := 6) rfl dX10_laysStatements_169 ?_
      refine r_iadd dX10_laysStatements_171 ?_
      obtain ⟨c17, H⟩ := H
      refine r_iald rfl rfl rfl c17 dX10_laysStatements_172 ?_
      refine r_callS (g := mX10_isVariable) rfl mkX10_isVariable msX10_isVariable ml_X10_198 ⟨by decide, by decide⟩ rfl (Nat.le_of_ble_eq_true rfl) rfl (ok_i (hM _ _ _) ok_n) dX10_laysStatements_173 (sl_afterI (sl_RI.mono (fun y19 M18 gy19 hM18 H => ?_) H))
      refine r_ior dX10_laysStatements_176 ?_
      refine r_iast rfl rfl rfl c16 (rg_ior _ _) dX10_laysStatements_177 ?_
      refine r_mm (fun M20 e20 => ?_)
      have H := H M20 e20
      have hM20 : sl_RM M20 := by rw [e20]; exact sl_wr_RM hM18 (rg_ior _ _)
      obtain ⟨c21, H⟩ := H
      refine r_iinc (k := 6) (ls' := [(6, vI (x6 + 1)), (0, vR 1 0), (1, vI x1), (2, vI x2), (3, vI x3), (4, vI x4), (5, vI x5)]) rfl c21 (by decide) rfl dX10_laysStatements_178 ?_
      refine r_goto (tgt := 128) dX10_laysStatements_181 (by decide) ?_
      exact sl_At.sub [1, 2, 3, 4, 5, 6, 0] rfl H
set_option maxHeartbeats 4000000 in
set_option maxRecDepth 10000 in
theorem vX10_laysStatements_235 {l : Launch} {M : sl_M} {Q : sl_R} {x1 x2 x4 : Int} (H : sl_RM M → sl_rg x1 → sl_rg x2 → sl_rg x4 → ((x2 ≤ x4) → Q none M) ∧ ((¬ (x2 ≤ x4)) → (0 ≤ x1 + x4 ∧ x1 + x4 < 82) ∧ (∀ M3, M3 = sl_wr M 1 18 (x1 + x4) (-1) → sl_At l mX10_laysStatements 254 [(0, vR 1 0), (1, vI x1), (2, vI x2), (4, vI x4), (5, vI 0)] [] M3 Q))) : sl_At l mX10_laysStatements 235 [(0, vR 1 0), (1, vI x1), (2, vI x2), (4, vI x4)] [] M Q := by
  refine sl_At.in (fun hM hls => ?_)
  have g1 : sl_rg x1 := hls _ (List.mem_of_getElem? (i := 1) rfl)
  have g2 : sl_rg x2 := hls _ (List.mem_of_getElem? (i := 2) rfl)
  have g4 : sl_rg x4 := hls _ (List.mem_of_getElem? (i := 3) rfl)
  have H := H hM g1 g2 g4
  refine r_iload (k := 3) rfl dX10_laysStatements_235 ?_
  refine r_iload_n (k := 2) rfl rfl dX10_laysStatements_237 ?_
  refine r_icmp_ge (tgt := 497) g4 g2 dX10_laysStatements_238 (by decide) (fun h1 => ?_) (fun h1 => ?_)
  · have H := H.1 h1
    refine r_vret rfl dX10_laysStatements_497 ?_
    exact H
  · have H := H.2 h1
    refine r_aload_n (k := 0) rfl rfl dX10_laysStatements_241 ?_
    refine r_getR (k := 17) (o' := 1) (i' := 18) ckX10 rfl rfl (by decide) rfl rfl rfl fl_X10_34 dX10_laysStatements_242 ?_
    refine r_iload_n (k := 1) rfl rfl dX10_laysStatements_245 ?_
    refine r_iload (k := 3) rfl dX10_laysStatements_246 ?_
    refine r_iadd dX10_laysStatements_248 ?_
    refine r_iconst dX10_laysStatements_249 ?_
    obtain ⟨c2, H⟩ := H
    refine r_iast rfl rfl rfl c2 ⟨by decide, by decide⟩ dX10_laysStatements_250 ?_
    refine r_mm (fun M3 e3 => ?_)
    have H := H M3 e3
    have hM3 : sl_RM M3 := by rw [e3]; exact sl_wr_RM hM ⟨by decide, by decide⟩
    refine r_iconst dX10_laysStatements_251 ?_
    refine r_istore (ls' := [(5, vI 0), (0, vR 1 0), (1, vI x1), (2, vI x2), (4, vI x4)]) ⟨by decide, by decide⟩ (by decide) rfl dX10_laysStatements_252 ?_
    exact sl_At.sub [1, 2, 3, 4, 0] rfl H
set_option maxHeartbeats 4000000 in
set_option maxRecDepth 10000 in
theorem vX10_laysStatements_254 {l : Launch} {M : sl_M} {Q : sl_R} {x1 x2 x4 x5 : Int} (H : sl_RM M → sl_rg x1 → sl_rg x2 → sl_rg x4 → sl_rg x5 → ((x4 ≤ x5) → (0 ≤ x1 + x4 ∧ x1 + x4 < 82) ∧ (sl_rg (x4 + 1)) ∧ (∀ M4, M4 = sl_wr M 1 20 (x1 + x4) (x4 + 1) → (((M4 1 17 (x1 + x4) ≠ 7) → (0 ≤ 41 + (M4 1 21 (x1 + x4)) ∧ 41 + (M4 1 21 (x1 + x4)) < 990))) ∧ (∀ y7 : Int, y7 = (if M4 1 17 (x1 + x4) ≠ 7 then M4 1 1 (41 + (M4 1 21 (x1 + x4))) else 0) → sl_At l mX10_laysStatements 383 [(0, vR 1 0), (1, vI x1), (2, vI x2), (4, vI x4), (5, vI y7)] [] M4 Q))) ∧ ((¬ (x4 ≤ x5)) → (0 ≤ x1 + x5 ∧ x1 + x5 < 82) ∧ (((M 1 17 (x1 + x5) = 7) → (0 ≤ x1 + x4 ∧ x1 + x4 < 82)) ∧ ((¬ (M 1 17 (x1 + x5) = 7)) → (0 ≤ x1 + x4 ∧ x1 + x4 < 82) ∧ (0 ≤ 81 + (M 1 21 (x1 + x4)) ∧ 81 + (M 1 21 (x1 + x4)) < 990))) ∧ (0 ≤ x1 + x4 ∧ x1 + x4 < 82) ∧ (∀ M15, M15 = sl_wr M 1 18 (x1 + x4) (if M 1 17 (x1 + x5) = 7 then M 1 18 (x1 + x4) else (if M 1 21 (x1 + x5) ≠ M 1 1 (81 + (M 1 21 (x1 + x4))) then M 1 18 (x1 + x4) else x5)) → (sl_rg (x5 + 1)) ∧ sl_At l mX10_laysStatements 254 [(0, vR 1 0), (1, vI x1), (2, vI x2), (4, vI x4), (5, vI (x5 + 1))] [] M15 Q))) : sl_At l mX10_laysStatements 254 [(0, vR 1 0), (1, vI x1), (2, vI x2), (4, vI x4), (5, vI x5)] [] M Q := by
  refine sl_At.in (fun hM hls => ?_)
  have g1 : sl_rg x1 := hls _ (List.mem_of_getElem? (i := 1) rfl)
  have g2 : sl_rg x2 := hls _ (List.mem_of_getElem? (i := 2) rfl)
  have g4 : sl_rg x4 := hls _ (List.mem_of_getElem? (i := 3) rfl)
  have g5 : sl_rg x5 := hls _ (List.mem_of_getElem? (i := 4) rfl)
  have H := H hM g1 g2 g4 g5
  refine r_iload (k := 4) rfl dX10_laysStatements_254 ?_
  refine r_iload (k := 3) rfl dX10_laysStatements_256 ?_
  refine r_icmp_ge (tgt := 333) g5 g4 dX10_laysStatements_258 (by decide) (fun h1 => ?_) (fun h1 => ?_)
  · have H := H.1 h1
    refine r_aload_n (k := 0) rfl rfl dX10_laysStatements_333 ?_
    refine r_getR (k := 19) (o' := 1) (i' := 20) ckX10 rfl rfl (by decide) rfl rfl rfl fl_X10_40 dX10_laysStatements_334 ?_
    refine r_iload_n (k := 1) rfl rfl dX10_laysStatements_337 ?_
    refine r_iload (k := 3) rfl dX10_laysStatements_338 ?_
    refine r_iadd dX10_laysStatements_340 ?_
    refine r_iload (k := 3) rfl dX10_laysStatements_341 ?_
    refine r_iconst dX10_laysStatements_343 ?_
    refine r_iadd dX10_laysStatements_344 ?_
    obtain ⟨c2, H⟩ := H
    obtain ⟨c3, H⟩ := H
    refine r_iast rfl rfl rfl c2 c3 dX10_laysStatements_345 ?_
    refine r_mm (fun M4 e4 => ?_)
    have H := H M4 e4
    have hM4 : sl_RM M4 := by rw [e4]; exact sl_wr_RM hM c3
    refine r_aload_n (k := 0) rfl rfl dX10_laysStatements_346 ?_
    refine r_getR (k := 16) (o' := 1) (i' := 17) ckX10 rfl rfl (by decide) rfl rfl rfl fl_X10_31 dX10_laysStatements_347 ?_
    refine r_iload_n (k := 1) rfl rfl dX10_laysStatements_350 ?_
    refine r_iload (k := 3) rfl dX10_laysStatements_351 ?_
    refine r_iadd dX10_laysStatements_353 ?_
    refine r_iald rfl rfl rfl c2 dX10_laysStatements_354 ?_
    refine r_bipush dX10_laysStatements_355 (by decide) ?_
    obtain ⟨K, H⟩ := H
    have J : sl_At l mX10_laysStatements 381 [(0, vR 1 0), (1, vI x1), (2, vI x2), (4, vI x4), (5, vI x5)] [vI (if M4 1 17 (x1 + x4) ≠ 7 then M4 1 1 (41 + (M4 1 21 (x1 + x4))) else 0)] M4 Q := by
      refine r_nm (fun y7 fy7 => ?_)
      have H := H y7 fy7
      have gy7 : sl_rg y7 := by rw [fy7]; exact (sl_rgite (hM4 _ _ _) ⟨by decide, by decide⟩)
      refine r_istore (ls' := [(5, vI y7), (0, vR 1 0), (1, vI x1), (2, vI x2), (4, vI x4)]) gy7 (by decide) rfl dX10_laysStatements_381 ?_
      exact sl_At.sub [1, 2, 3, 4, 0] rfl H
    refine r_icmp_ne (tgt := 364) (hM4 _ _ _) ⟨by decide, by decide⟩ dX10_laysStatements_357 (by decide) (fun h6 => ?_) (fun h6 => ?_)
    · replace K := K h6
      have c5 := K
      refine r_aload_n (k := 0) rfl rfl dX10_laysStatements_364 ?_
      refine r_getR (k := 0) (o' := 1) (i' := 1) ckX10 rfl rfl (by decide) rfl rfl rfl fl_X10_7 dX10_laysStatements_365 ?_
      refine r_bipush dX10_laysStatements_368 (by decide) ?_
      refine r_aload_n (k := 0) rfl rfl dX10_laysStatements_370 ?_
      refine r_getR (k := 20) (o' := 1) (i' := 21) ckX10 rfl rfl (by decide) rfl rfl rfl fl_X10_43 dX10_laysStatements_371 ?_
      refine r_iload_n (k := 1) rfl rfl dX10_laysStatements_374 ?_
      refine r_iload (k := 3) rfl dX10_laysStatements_375 ?_
      refine r_iadd dX10_laysStatements_377 ?_
      refine r_iald rfl rfl rfl c2 dX10_laysStatements_378 ?_
      refine r_iadd dX10_laysStatements_379 ?_
      refine r_iald rfl rfl rfl c5 dX10_laysStatements_380 ?_
      rw [if_pos h6] at J
      exact J
    · refine r_iconst dX10_laysStatements_360 ?_
      refine r_goto (tgt := 381) dX10_laysStatements_361 (by decide) ?_
      rw [if_neg h6] at J
      exact J
  · have H := H.2 h1
    refine r_aload_n (k := 0) rfl rfl dX10_laysStatements_261 ?_
    refine r_getR (k := 17) (o' := 1) (i' := 18) ckX10 rfl rfl (by decide) rfl rfl rfl fl_X10_34 dX10_laysStatements_262 ?_
    refine r_iload_n (k := 1) rfl rfl dX10_laysStatements_265 ?_
    refine r_iload (k := 3) rfl dX10_laysStatements_266 ?_
    refine r_iadd dX10_laysStatements_268 ?_
    refine r_aload_n (k := 0) rfl rfl dX10_laysStatements_269 ?_
    refine r_getR (k := 16) (o' := 1) (i' := 17) ckX10 rfl rfl (by decide) rfl rfl rfl fl_X10_31 dX10_laysStatements_270 ?_
    refine r_iload_n (k := 1) rfl rfl dX10_laysStatements_273 ?_
    refine r_iload (k := 4) rfl dX10_laysStatements_274 ?_
    refine r_iadd dX10_laysStatements_276 ?_
    obtain ⟨c8, H⟩ := H
    refine r_iald rfl rfl rfl c8 dX10_laysStatements_277 ?_
    refine r_bipush dX10_laysStatements_278 (by decide) ?_
    obtain ⟨K, H⟩ := H
    have J : sl_At l mX10_laysStatements 326 [(0, vR 1 0), (1, vI x1), (2, vI x2), (4, vI x4), (5, vI x5)] [vI (if M 1 17 (x1 + x5) = 7 then M 1 18 (x1 + x4) else (if M 1 21 (x1 + x5) ≠ M 1 1 (81 + (M 1 21 (x1 + x4))) then M 1 18 (x1 + x4) else x5)), vI (x1 + x4), vR 1 18] M Q := by
      obtain ⟨c14, H⟩ := H
      refine r_iast rfl rfl rfl c14 (sl_rgite (hM _ _ _) (sl_rgite (hM _ _ _) g5)) dX10_laysStatements_326 ?_
      refine r_mm (fun M15 e15 => ?_)
      have H := H M15 e15
      have hM15 : sl_RM M15 := by rw [e15]; exact sl_wr_RM hM (sl_rgite (hM _ _ _) (sl_rgite (hM _ _ _) g5))
      obtain ⟨c16, H⟩ := H
      refine r_iinc (k := 4) (ls' := [(5, vI (x5 + 1)), (0, vR 1 0), (1, vI x1), (2, vI x2), (4, vI x4)]) rfl c16 (by decide) rfl dX10_laysStatements_327 ?_
      refine r_goto (tgt := 254) dX10_laysStatements_330 (by decide) ?_
      exact sl_At.sub [1, 2, 3, 4, 0] rfl H
    refine r_icmp_eq (tgt := 317) (hM _ _ _) ⟨by decide, by decide⟩ dX10_laysStatements_280 (by decide) (fun h12 => ?_) (fun h12 => ?_)
    · replace K := K.1 h12
      have c9 := K
      refine r_aload_n (k := 0) rfl rfl dX10_laysStatements_317 ?_
      refine r_getR (k := 17) (o' := 1) (i' := 18) ckX10 rfl rfl (by decide) rfl rfl rfl fl_X10_34 dX10_laysStatements_318 ?_
      refine r_iload_n (k := 1) rfl rfl dX10_laysStatements_321 ?_
      refine r_iload (k := 3) rfl dX10_laysStatements_322 ?_
      refine r_iadd dX10_laysStatements_324 ?_
      refine r_iald rfl rfl rfl c9 dX10_laysStatements_325 ?_
      rw [if_pos h12] at J
      exact J
    · replace K := K.2 h12
      obtain ⟨c10, K⟩ := K
      have c11 := K
      refine r_aload_n (k := 0) rfl rfl dX10_laysStatements_283 ?_
      refine r_getR (k := 20) (o' := 1) (i' := 21) ckX10 rfl rfl (by decide) rfl rfl rfl fl_X10_43 dX10_laysStatements_284 ?_
      refine r_iload_n (k := 1) rfl rfl dX10_laysStatements_287 ?_
      refine r_iload (k := 4) rfl dX10_laysStatements_288 ?_
      refine r_iadd dX10_laysStatements_290 ?_
      refine r_iald rfl rfl rfl c8 dX10_laysStatements_291 ?_
      refine r_aload_n (k := 0) rfl rfl dX10_laysStatements_292 ?_
      refine r_getR (k := 0) (o' := 1) (i' := 1) ckX10 rfl rfl (by decide) rfl rfl rfl fl_X10_7 dX10_laysStatements_293 ?_
      refine r_bipush dX10_laysStatements_296 (by decide) ?_
      refine r_aload_n (k := 0) rfl rfl dX10_laysStatements_298 ?_
      refine r_getR (k := 20) (o' := 1) (i' := 21) ckX10 rfl rfl (by decide) rfl rfl rfl fl_X10_43 dX10_laysStatements_299 ?_
      refine r_iload_n (k := 1) rfl rfl dX10_laysStatements_302 ?_
      refine r_iload (k := 3) rfl dX10_laysStatements_303 ?_
      refine r_iadd dX10_laysStatements_305 ?_
      refine r_iald rfl rfl rfl c10 dX10_laysStatements_306 ?_
      refine r_iadd dX10_laysStatements_307 ?_
      refine r_iald rfl rfl rfl c11 dX10_laysStatements_308 ?_
      refine r_icmp_ne (tgt := 317) (hM _ _ _) (hM _ _ _) dX10_laysStatements_309 (by decide) (fun h13 => ?_) (fun h13 => ?_)
      · refine r_aload_n (k := 0) rfl rfl dX10_laysStatements_317 ?_
        refine r_getR (k := 17) (o' := 1) (i' := 18) ckX10 rfl rfl (by decide) rfl rfl rfl fl_X10_34 dX10_laysStatements_318 ?_
        refine r_iload_n (k := 1) rfl rfl dX10_laysStatements_321 ?_
        refine r_iload (k := 3) rfl dX10_laysStatements_322 ?_
        refine r_iadd dX10_laysStatements_324 ?_
        refine r_iald rfl rfl rfl c10 dX10_laysStatements_325 ?_
        rw [if_neg h12, if_pos h13] at J
        exact J
      · refine r_iload (k := 4) rfl dX10_laysStatements_312 ?_
        refine r_goto (tgt := 326) dX10_laysStatements_314 (by decide) ?_
        rw [if_neg h12, if_neg h13] at J
        exact J
set_option maxHeartbeats 4000000 in
set_option maxRecDepth 10000 in
theorem vX10_laysStatements_383 {l : Launch} {M : sl_M} {Q : sl_R} {x1 x2 x4 x5 : Int} (H : sl_RM M → sl_rg x1 → sl_rg x2 → sl_rg x4 → sl_rg x5 → (0 ≤ x1 + x4 ∧ x1 + x4 < 82) ∧ ((x2 ≤ M 1 20 (x1 + x4)) → sl_At l mX10_laysStatements 433 [(0, vR 1 0), (1, vI x1), (2, vI x2), (4, vI x4)] [] M Q) ∧ ((¬ (x2 ≤ M 1 20 (x1 + x4))) → (0 ≤ x1 + (M 1 20 (x1 + x4)) ∧ x1 + (M 1 20 (x1 + x4)) < 82) ∧ ((x5 ≤ M 1 21 (x1 + (M 1 20 (x1 + x4)))) → sl_At l mX10_laysStatements 433 [(0, vR 1 0), (1, vI x1), (2, vI x2), (4, vI x4)] [] M Q) ∧ ((¬ (x5 ≤ M 1 21 (x1 + (M 1 20 (x1 + x4))))) → (sl_rg (M 1 20 (x1 + x4) + 1)) ∧ (∀ M6, M6 = sl_wr M 1 20 (x1 + x4) (M 1 20 (x1 + x4) + 1) → sl_At l mX10_laysStatements 383 [(0, vR 1 0), (1, vI x1), (2, vI x2), (4, vI x4), (5, vI x5)] [] M6 Q)))) : sl_At l mX10_laysStatements 383 [(0, vR 1 0), (1, vI x1), (2, vI x2), (4, vI x4), (5, vI x5)] [] M Q := by
  refine sl_At.in (fun hM hls => ?_)
  have g1 : sl_rg x1 := hls _ (List.mem_of_getElem? (i := 1) rfl)
  have g2 : sl_rg x2 := hls _ (List.mem_of_getElem? (i := 2) rfl)
  have g4 : sl_rg x4 := hls _ (List.mem_of_getElem? (i := 3) rfl)
  have g5 : sl_rg x5 := hls _ (List.mem_of_getElem? (i := 4) rfl)
  have H := H hM g1 g2 g4 g5
  refine r_aload_n (k := 0) rfl rfl dX10_laysStatements_383 ?_
  refine r_getR (k := 19) (o' := 1) (i' := 20) ckX10 rfl rfl (by decide) rfl rfl rfl fl_X10_40 dX10_laysStatements_384 ?_
  refine r_iload_n (k := 1) rfl rfl dX10_laysStatements_387 ?_
  refine r_iload (k := 3) rfl dX10_laysStatements_388 ?_
  refine r_iadd dX10_laysStatements_390 ?_
  obtain ⟨c1, H⟩ := H
  refine r_iald rfl rfl rfl c1 dX10_laysStatements_391 ?_
  refine r_iload_n (k := 2) rfl rfl dX10_laysStatements_392 ?_
  refine r_icmp_ge (tgt := 433) (hM _ _ _) g2 dX10_laysStatements_393 (by decide) (fun h2 => ?_) (fun h2 => ?_)
  · have H := H.1 h2
    exact sl_At.sub [0, 1, 2, 3] rfl H
  · have H := H.2 h2
    refine r_aload_n (k := 0) rfl rfl dX10_laysStatements_396 ?_
    refine r_getR (k := 20) (o' := 1) (i' := 21) ckX10 rfl rfl (by decide) rfl rfl rfl fl_X10_43 dX10_laysStatements_397 ?_
    refine r_iload_n (k := 1) rfl rfl dX10_laysStatements_400 ?_
    refine r_aload_n (k := 0) rfl rfl dX10_laysStatements_401 ?_
    refine r_getR (k := 19) (o' := 1) (i' := 20) ckX10 rfl rfl (by decide) rfl rfl rfl fl_X10_40 dX10_laysStatements_402 ?_
    refine r_iload_n (k := 1) rfl rfl dX10_laysStatements_405 ?_
    refine r_iload (k := 3) rfl dX10_laysStatements_406 ?_
    refine r_iadd dX10_laysStatements_408 ?_
    refine r_iald rfl rfl rfl c1 dX10_laysStatements_409 ?_
    refine r_iadd dX10_laysStatements_410 ?_
    obtain ⟨c3, H⟩ := H
    refine r_iald rfl rfl rfl c3 dX10_laysStatements_411 ?_
    refine r_iload (k := 4) rfl dX10_laysStatements_412 ?_
    refine r_icmp_ge (tgt := 433) (hM _ _ _) g5 dX10_laysStatements_414 (by decide) (fun h4 => ?_) (fun h4 => ?_)
    · have H := H.1 h4
      exact sl_At.sub [0, 1, 2, 3] rfl H
    · have H := H.2 h4
      refine r_aload_n (k := 0) rfl rfl dX10_laysStatements_417 ?_
      refine r_getR (k := 19) (o' := 1) (i' := 20) ckX10 rfl rfl (by decide) rfl rfl rfl fl_X10_40 dX10_laysStatements_418 ?_
      refine r_iload_n (k := 1) rfl rfl dX10_laysStatements_421 ?_
      refine r_iload (k := 3) rfl dX10_laysStatements_422 ?_
      refine r_iadd dX10_laysStatements_424 ?_
      refine r_dup2 rfl rfl dX10_laysStatements_425 ?_
      refine r_iald rfl rfl rfl c1 dX10_laysStatements_426 ?_
      refine r_iconst dX10_laysStatements_427 ?_
      refine r_iadd dX10_laysStatements_428 ?_
      obtain ⟨c5, H⟩ := H
      refine r_iast rfl rfl rfl c1 c5 dX10_laysStatements_429 ?_
      refine r_mm (fun M6 e6 => ?_)
      have H := H M6 e6
      have hM6 : sl_RM M6 := by rw [e6]; exact sl_wr_RM hM c5
      refine r_goto (tgt := 383) dX10_laysStatements_430 (by decide) ?_
      exact H
set_option maxHeartbeats 4000000 in
set_option maxRecDepth 10000 in
theorem vX10_laysStatements_433 {l : Launch} {M : sl_M} {Q : sl_R} {x1 x2 x4 : Int} (H : sl_RM M → sl_rg x1 → sl_rg x2 → sl_rg x4 → (0 ≤ x1 + x4 ∧ x1 + x4 < 82) ∧ (((M 1 18 (x1 + x4) ≠ (-1)) → (0 ≤ x1 + (M 1 18 (x1 + x4)) ∧ x1 + (M 1 18 (x1 + x4)) < 82))) ∧ (∀ M5, M5 = sl_wr M 1 23 (x1 + x4) (if M 1 18 (x1 + x4) ≠ (-1) then (if M 1 17 (x1 + (M 1 18 (x1 + x4))) ≠ 6 then M 1 23 (x1 + (M 1 18 (x1 + x4))) else M 1 18 (x1 + x4)) else (-1)) → (sl_rg (x4 + 1)) ∧ sl_At l mX10_laysStatements 235 [(0, vR 1 0), (1, vI x1), (2, vI x2), (4, vI (x4 + 1))] [] M5 Q)) : sl_At l mX10_laysStatements 433 [(0, vR 1 0), (1, vI x1), (2, vI x2), (4, vI x4)] [] M Q := by
  refine sl_At.in (fun hM hls => ?_)
  have g1 : sl_rg x1 := hls _ (List.mem_of_getElem? (i := 1) rfl)
  have g2 : sl_rg x2 := hls _ (List.mem_of_getElem? (i := 2) rfl)
  have g4 : sl_rg x4 := hls _ (List.mem_of_getElem? (i := 3) rfl)
  have H := H hM g1 g2 g4
  refine r_aload_n (k := 0) rfl rfl dX10_laysStatements_433 ?_
  refine r_getR (k := 17) (o' := 1) (i' := 18) ckX10 rfl rfl (by decide) rfl rfl rfl fl_X10_34 dX10_laysStatements_434 ?_
  refine r_iload_n (k := 1) rfl rfl dX10_laysStatements_437 ?_
  refine r_iload (k := 3) rfl dX10_laysStatements_438 ?_
  refine r_iadd dX10_laysStatements_440 ?_
  obtain ⟨c1, H⟩ := H
  refine r_iald rfl rfl rfl c1 dX10_laysStatements_441 ?_
  refine r_istore (ls' := [(6, vI (M 1 18 (x1 + x4))), (0, vR 1 0), (1, vI x1), (2, vI x2), (4, vI x4)]) (hM _ _ _) (by decide) rfl dX10_laysStatements_442 ?_
  refine r_aload_n (k := 1) rfl rfl dX10_laysStatements_444 ?_
  refine r_getR (k := 22) (o' := 1) (i' := 23) ckX10 rfl rfl (by decide) rfl rfl rfl fl_X10_49 dX10_laysStatements_445 ?_
  refine r_iload_n (k := 2) rfl rfl dX10_laysStatements_448 ?_
  refine r_iload (k := 4) rfl dX10_laysStatements_449 ?_
  refine r_iadd dX10_laysStatements_451 ?_
  refine r_iload (k := 0) rfl dX10_laysStatements_452 ?_
  refine r_iconst dX10_laysStatements_454 ?_
  obtain ⟨K, H⟩ := H
  have J : sl_At l mX10_laysStatements 490 [(6, vI (M 1 18 (x1 + x4))), (0, vR 1 0), (1, vI x1), (2, vI x2), (4, vI x4)] [vI (if M 1 18 (x1 + x4) ≠ (-1) then (if M 1 17 (x1 + (M 1 18 (x1 + x4))) ≠ 6 then M 1 23 (x1 + (M 1 18 (x1 + x4))) else M 1 18 (x1 + x4)) else (-1)), vI (x1 + x4), vR 1 23] M Q := by
    refine r_iast rfl rfl rfl c1 (sl_rgite (sl_rgite (hM _ _ _) (hM _ _ _)) ⟨by decide, by decide⟩) dX10_laysStatements_490 ?_
    refine r_mm (fun M5 e5 => ?_)
    have H := H M5 e5
    have hM5 : sl_RM M5 := by rw [e5]; exact sl_wr_RM hM (sl_rgite (sl_rgite (hM _ _ _) (hM _ _ _)) ⟨by decide, by decide⟩)
    obtain ⟨c6, H⟩ := H
    refine r_iinc (k := 4) (ls' := [(4, vI (x4 + 1)), (6, vI (M 1 18 (x1 + x4))), (0, vR 1 0), (1, vI x1), (2, vI x2)]) rfl c6 (by decide) rfl dX10_laysStatements_491 ?_
    refine r_goto (tgt := 235) dX10_laysStatements_494 (by decide) ?_
    exact sl_At.sub [2, 3, 4, 0] rfl H
  refine r_icmp_ne (tgt := 462) (hM _ _ _) ⟨by decide, by decide⟩ dX10_laysStatements_455 (by decide) (fun h3 => ?_) (fun h3 => ?_)
  · replace K := K h3
    have c2 := K
    refine r_aload_n (k := 1) rfl rfl dX10_laysStatements_462 ?_
    refine r_getR (k := 16) (o' := 1) (i' := 17) ckX10 rfl rfl (by decide) rfl rfl rfl fl_X10_31 dX10_laysStatements_463 ?_
    refine r_iload_n (k := 2) rfl rfl dX10_laysStatements_466 ?_
    refine r_iload (k := 0) rfl dX10_laysStatements_467 ?_
    refine r_iadd dX10_laysStatements_469 ?_
    refine r_iald rfl rfl rfl c2 dX10_laysStatements_470 ?_
    refine r_bipush dX10_laysStatements_471 (by decide) ?_
    refine r_icmp_ne (tgt := 481) (hM _ _ _) ⟨by decide, by decide⟩ dX10_laysStatements_473 (by decide) (fun h4 => ?_) (fun h4 => ?_)
    · refine r_aload_n (k := 1) rfl rfl dX10_laysStatements_481 ?_
      refine r_getR (k := 22) (o' := 1) (i' := 23) ckX10 rfl rfl (by decide) rfl rfl rfl fl_X10_49 dX10_laysStatements_482 ?_
      refine r_iload_n (k := 2) rfl rfl dX10_laysStatements_485 ?_
      refine r_iload (k := 0) rfl dX10_laysStatements_486 ?_
      refine r_iadd dX10_laysStatements_488 ?_
      refine r_iald rfl rfl rfl c2 dX10_laysStatements_489 ?_
      rw [if_pos h3, if_pos h4] at J
      exact J
    · refine r_iload (k := 0) rfl dX10_laysStatements_476 ?_
      refine r_goto (tgt := 490) dX10_laysStatements_478 (by decide) ?_
      rw [if_pos h3, if_neg h4] at J
      exact J
  · refine r_iconst dX10_laysStatements_458 ?_
    refine r_goto (tgt := 490) dX10_laysStatements_459 (by decide) ?_
    rw [if_neg h3] at J
    exact J
theorem eX10_laysStatements {l : Launch} {M : sl_M} {Q : sl_R} {x1 : Int} (k : sl_At l mX10_laysStatements 0 [(0, vR 1 0), (1, vI x1)] [] M Q) : sl_Runs l mX10_laysStatements [vR 1 0, vI x1] M Q := sl_Runs.of (ls := [(0, vR 1 0), (1, vI x1)]) rfl rfl (fun _ => rfl) (fun _ => Nat.le_of_ble_eq_true rfl) rfl (k)
