theorem dX2_give_0 : decode cX2_give 0 = .ok (.aload_n 0, 1) := by decide +kernel
theorem dX2_give_1 : decode cX2_give 1 = .ok (.getfield 9, 3) := by decide +kernel
theorem dX2_give_4 : decode cX2_give 4 = .ok (.iload_n 1, 1) := by decide +kernel
theorem dX2_give_5 : decode cX2_give 5 = .ok (.iload_n 2, 1) := by decide +kernel
theorem dX2_give_6 : decode cX2_give 6 = .ok (.iastore, 1) := by decide +kernel
theorem dX2_give_7 : decode cX2_give 7 = .ok (.aload_n 0, 1) := by decide +kernel
theorem dX2_give_8 : decode cX2_give 8 = .ok (.dup, 1) := by decide +kernel
theorem dX2_give_9 : decode cX2_give 9 = .ok (.getfield 15, 3) := by decide +kernel
theorem dX2_give_12 : decode cX2_give 12 = .ok (.iconst 1, 1) := by decide +kernel
theorem dX2_give_13 : decode cX2_give 13 = .ok (.iload_n 1, 1) := by decide +kernel
theorem dX2_give_14 : decode cX2_give 14 = .ok (.ishl, 1) := by decide +kernel
theorem dX2_give_15 : decode cX2_give 15 = .ok (.ior, 1) := by decide +kernel
theorem dX2_give_16 : decode cX2_give 16 = .ok (.putfield 15, 3) := by decide +kernel
theorem dX2_give_19 : decode cX2_give 19 = .ok (.return_, 1) := by decide +kernel
set_option maxHeartbeats 4000000 in
set_option maxRecDepth 10000 in
theorem vX2_give_0 {l : Launch} {M : sl_M} {Q : sl_R} {o0 : Nat} {x1 x2 : Int} (ho0 : sl_cls o0 = 2) (H : sl_RM M → sl_rg x1 → sl_rg x2 → (0 ≤ x1 ∧ x1 < 8) ∧ (∀ M2, M2 = sl_wr M o0 1 x1 x2 → (∀ M3, M3 = sl_wr M2 o0 0 1 (ior (M2 o0 0 1) (ishl 1 x1)) → Q none M3))) : sl_At l mX2_give 0 [(0, vR o0 0), (1, vI x1), (2, vI x2)] [] M Q := by
  refine sl_At.in (fun hM hls => ?_)
  have g1 : sl_rg x1 := hls _ (List.mem_of_getElem? (i := 1) rfl)
  have g2 : sl_rg x2 := hls _ (List.mem_of_getElem? (i := 2) rfl)
  have H := H hM g1 g2
  refine r_aload_n (k := 0) rfl rfl dX2_give_0 ?_
  refine r_getR (k := 0) (o' := o0) (i' := 1) ckX2 ho0 rfl (by decide) rfl rfl rfl fl_X2_9 dX2_give_1 ?_
  refine r_iload_n (k := 1) rfl rfl dX2_give_4 ?_
  refine r_iload_n (k := 2) rfl rfl dX2_give_5 ?_
  obtain ⟨c1, H⟩ := H
  refine r_iast ho0 rfl rfl c1 g2 dX2_give_6 ?_
  refine r_mm (fun M2 e2 => ?_)
  have H := H M2 e2
  have hM2 : sl_RM M2 := by rw [e2]; exact sl_wr_RM hM g2
  refine r_aload_n (k := 0) rfl rfl dX2_give_7 ?_
  refine r_dup rfl dX2_give_8 ?_
  refine r_gI (k := 1) (kz := 1) rfl ckX2 ho0 rfl (by decide) rfl rfl fl_X2_15 dX2_give_9 ?_
  refine r_iconst dX2_give_12 ?_
  refine r_iload_n (k := 1) rfl rfl dX2_give_13 ?_
  refine r_ishl dX2_give_14 ?_
  refine r_ior dX2_give_15 ?_
  refine r_pI (k := 1) (kz := 1) rfl ckX2 ho0 rfl (by decide) rfl rfl rfl rfl fl_X2_15 (rg_ior _ _) dX2_give_16 ?_
  refine r_mm (fun M3 e3 => ?_)
  have H := H M3 e3
  have hM3 : sl_RM M3 := by rw [e3]; exact sl_wr_RM hM2 (rg_ior _ _)
  refine r_vret rfl dX2_give_19 ?_
  exact H
theorem eX2_give {l : Launch} {M : sl_M} {Q : sl_R} {o0 : Nat} {x1 x2 : Int} (k : sl_At l mX2_give 0 [(0, vR o0 0), (1, vI x1), (2, vI x2)] [] M Q) : sl_Runs l mX2_give [vR o0 0, vI x1, vI x2] M Q := sl_Runs.of (ls := [(0, vR o0 0), (1, vI x1), (2, vI x2)]) rfl rfl (fun _ => rfl) (fun _ => Nat.le_of_ble_eq_true rfl) rfl (k)
theorem dX5_copyFrom_0 : decode cX5_copyFrom 0 = .ok (.aload_n 0, 1) := by decide +kernel
theorem dX5_copyFrom_1 : decode cX5_copyFrom 1 = .ok (.getfield 12, 3) := by decide +kernel
theorem dX5_copyFrom_4 : decode cX5_copyFrom 4 = .ok (.aload_n 1, 1) := by decide +kernel
theorem dX5_copyFrom_5 : decode cX5_copyFrom 5 = .ok (.getfield 12, 3) := by decide +kernel
theorem dX5_copyFrom_8 : decode cX5_copyFrom 8 = .ok (.invokevirtual 22, 3) := by decide +kernel
theorem dX5_copyFrom_11 : decode cX5_copyFrom 11 = .ok (.aload_n 0, 1) := by decide +kernel
theorem dX5_copyFrom_12 : decode cX5_copyFrom 12 = .ok (.aload_n 1, 1) := by decide +kernel
theorem dX5_copyFrom_13 : decode cX5_copyFrom 13 = .ok (.getfield 26, 3) := by decide +kernel
theorem dX5_copyFrom_16 : decode cX5_copyFrom 16 = .ok (.putfield 26, 3) := by decide +kernel
theorem dX5_copyFrom_19 : decode cX5_copyFrom 19 = .ok (.aload_n 0, 1) := by decide +kernel
theorem dX5_copyFrom_20 : decode cX5_copyFrom 20 = .ok (.aload_n 1, 1) := by decide +kernel
theorem dX5_copyFrom_21 : decode cX5_copyFrom 21 = .ok (.getfield 30, 3) := by decide +kernel
theorem dX5_copyFrom_24 : decode cX5_copyFrom 24 = .ok (.putfield 30, 3) := by decide +kernel
theorem dX5_copyFrom_27 : decode cX5_copyFrom 27 = .ok (.aload_n 0, 1) := by decide +kernel
theorem dX5_copyFrom_28 : decode cX5_copyFrom 28 = .ok (.aload_n 1, 1) := by decide +kernel
theorem dX5_copyFrom_29 : decode cX5_copyFrom 29 = .ok (.getfield 33, 3) := by decide +kernel
theorem dX5_copyFrom_32 : decode cX5_copyFrom 32 = .ok (.putfield 33, 3) := by decide +kernel
theorem dX5_copyFrom_35 : decode cX5_copyFrom 35 = .ok (.aload_n 1, 1) := by decide +kernel
theorem dX5_copyFrom_36 : decode cX5_copyFrom 36 = .ok (.getfield 18, 3) := by decide +kernel
theorem dX5_copyFrom_39 : decode cX5_copyFrom 39 = .ok (.iconst 0, 1) := by decide +kernel
theorem dX5_copyFrom_40 : decode cX5_copyFrom 40 = .ok (.aload_n 0, 1) := by decide +kernel
theorem dX5_copyFrom_41 : decode cX5_copyFrom 41 = .ok (.getfield 18, 3) := by decide +kernel
theorem dX5_copyFrom_44 : decode cX5_copyFrom 44 = .ok (.iconst 0, 1) := by decide +kernel
theorem dX5_copyFrom_45 : decode cX5_copyFrom 45 = .ok (.bipush 9, 2) := by decide +kernel
theorem dX5_copyFrom_47 : decode cX5_copyFrom 47 = .ok (.invokestatic 36, 3) := by decide +kernel
theorem dX5_copyFrom_50 : decode cX5_copyFrom 50 = .ok (.return_, 1) := by decide +kernel
set_option maxHeartbeats 4000000 in
set_option maxRecDepth 10000 in
theorem vX5_copyFrom_0 {l : Launch} {M : sl_M} {Q : sl_R} {o0 o1 : Nat} (ho0 : sl_cls o0 = 5) (ho1 : sl_cls o1 = 5) (H : sl_RM M → sl_RV l mX0_copyFrom [vR (o0 + 30) 0, vR (o1 + 30) 0] M (fun M1 => (∀ M2, M2 = sl_wr M1 o0 0 1 (M1 o1 0 1) → (∀ M3, M3 = sl_wr M2 o0 0 2 (M2 o1 0 2) → (∀ M4, M4 = sl_wr M3 o0 0 3 (M3 o1 0 3) → (∀ M5, M5 = sl_cpy M4 o1 o0 → Q none M5)))))) : sl_At l mX5_copyFrom 0 [(0, vR o0 0), (1, vR o1 0)] [] M Q := by
  refine sl_At.in (fun hM hls => ?_)
  have H := H hM
  refine r_aload_n (k := 0) rfl rfl dX5_copyFrom_0 ?_
  refine r_getR (k := 0) (o' := o0 + 30) (i' := 0) ckX5 ho0 rfl (by decide) rfl rfl rfl fl_X5_12 dX5_copyFrom_1 ?_
  refine r_aload_n (k := 1) rfl rfl dX5_copyFrom_4 ?_
  refine r_getR (k := 0) (o' := o1 + 30) (i' := 0) ckX5 ho1 rfl (by decide) rfl rfl rfl fl_X5_12 dX5_copyFrom_5 ?_
  refine r_callV (g := mX0_copyFrom) ckX0 (cl_body ho0) rfl rfl rfl mkX0_copyFrom mvX0_copyFrom ml_X5_22 ⟨by decide, by decide⟩ rfl (Nat.le_of_ble_eq_true rfl) rfl (ok_r ok_n) dX5_copyFrom_8 (sl_afterV (sl_RV.mono (fun M1 hM1 H => ?_) H))
  refine r_aload_n (k := 0) rfl rfl dX5_copyFrom_11 ?_
  refine r_aload_n (k := 1) rfl rfl dX5_copyFrom_12 ?_
  refine r_gI (k := 1) (kz := 1) rfl ckX5 ho1 rfl (by decide) rfl rfl fl_X5_26 dX5_copyFrom_13 ?_
  refine r_pI (k := 1) (kz := 1) rfl ckX5 ho0 rfl (by decide) rfl rfl rfl rfl fl_X5_26 (hM1 _ _ _) dX5_copyFrom_16 ?_
  refine r_mm (fun M2 e2 => ?_)
  have H := H M2 e2
  have hM2 : sl_RM M2 := by rw [e2]; exact sl_wr_RM hM1 (hM1 _ _ _)
  refine r_aload_n (k := 0) rfl rfl dX5_copyFrom_19 ?_
  refine r_aload_n (k := 1) rfl rfl dX5_copyFrom_20 ?_
  refine r_gI (k := 2) (kz := 2) rfl ckX5 ho1 rfl (by decide) rfl rfl fl_X5_30 dX5_copyFrom_21 ?_
  refine r_pI (k := 2) (kz := 2) rfl ckX5 ho0 rfl (by decide) rfl rfl rfl rfl fl_X5_30 (hM2 _ _ _) dX5_copyFrom_24 ?_
  refine r_mm (fun M3 e3 => ?_)
  have H := H M3 e3
  have hM3 : sl_RM M3 := by rw [e3]; exact sl_wr_RM hM2 (hM2 _ _ _)
  refine r_aload_n (k := 0) rfl rfl dX5_copyFrom_27 ?_
  refine r_aload_n (k := 1) rfl rfl dX5_copyFrom_28 ?_
  refine r_gI (k := 3) (kz := 3) rfl ckX5 ho1 rfl (by decide) rfl rfl fl_X5_33 dX5_copyFrom_29 ?_
  refine r_pI (k := 3) (kz := 3) rfl ckX5 ho0 rfl (by decide) rfl rfl rfl rfl fl_X5_33 (hM3 _ _ _) dX5_copyFrom_32 ?_
  refine r_mm (fun M4 e4 => ?_)
  have H := H M4 e4
  have hM4 : sl_RM M4 := by rw [e4]; exact sl_wr_RM hM3 (hM3 _ _ _)
  refine r_aload_n (k := 1) rfl rfl dX5_copyFrom_35 ?_
  refine r_getR (k := 4) (o' := o1) (i' := 5) ckX5 ho1 rfl (by decide) rfl rfl rfl fl_X5_18 dX5_copyFrom_36 ?_
  refine r_iconst dX5_copyFrom_39 ?_
  refine r_aload_n (k := 0) rfl rfl dX5_copyFrom_40 ?_
  refine r_getR (k := 4) (o' := o0) (i' := 5) ckX5 ho0 rfl (by decide) rfl rfl rfl fl_X5_18 dX5_copyFrom_41 ?_
  refine r_iconst dX5_copyFrom_44 ?_
  refine r_bipush dX5_copyFrom_45 (by decide) ?_
  refine r_acopy rfl ho1 ho0 ml_X5_36 w_native w_static w_init ⟨by decide, Nat.le_of_ble_eq_true rfl⟩ dX5_copyFrom_47 ?_
  refine r_mm (fun M5 e5 => ?_)
  have H := H M5 e5
  have hM5 : sl_RM M5 := by rw [e5]; exact sl_cpy_RM hM4
  refine r_vret rfl dX5_copyFrom_50 ?_
  exact H
theorem eX5_copyFrom {l : Launch} {M : sl_M} {Q : sl_R} {o0 o1 : Nat} (k : sl_At l mX5_copyFrom 0 [(0, vR o0 0), (1, vR o1 0)] [] M Q) : sl_Runs l mX5_copyFrom [vR o0 0, vR o1 0] M Q := sl_Runs.of (ls := [(0, vR o0 0), (1, vR o1 0)]) rfl rfl (fun _ => rfl) (fun _ => Nat.le_of_ble_eq_true rfl) rfl (k)
theorem dX5_takeFrom_0 : decode cX5_takeFrom 0 = .ok (.aload_n 0, 1) := by decide +kernel
theorem dX5_takeFrom_1 : decode cX5_takeFrom 1 = .ok (.getfield 12, 3) := by decide +kernel
theorem dX5_takeFrom_4 : decode cX5_takeFrom 4 = .ok (.invokevirtual 42, 3) := by decide +kernel
theorem dX5_takeFrom_7 : decode cX5_takeFrom 7 = .ok (.aload_n 0, 1) := by decide +kernel
theorem dX5_takeFrom_8 : decode cX5_takeFrom 8 = .ok (.getfield 12, 3) := by decide +kernel
theorem dX5_takeFrom_11 : decode cX5_takeFrom 11 = .ok (.aload_n 1, 1) := by decide +kernel
theorem dX5_takeFrom_12 : decode cX5_takeFrom 12 = .ok (.aload_n 2, 1) := by decide +kernel
theorem dX5_takeFrom_13 : decode cX5_takeFrom 13 = .ok (.getfield 45, 3) := by decide +kernel
theorem dX5_takeFrom_16 : decode cX5_takeFrom 16 = .ok (.aload_n 2, 1) := by decide +kernel
theorem dX5_takeFrom_17 : decode cX5_takeFrom 17 = .ok (.getfield 50, 3) := by decide +kernel
theorem dX5_takeFrom_20 : decode cX5_takeFrom 20 = .ok (.iconst (-1), 1) := by decide +kernel
theorem dX5_takeFrom_21 : decode cX5_takeFrom 21 = .ok (.iconst 0, 1) := by decide +kernel
theorem dX5_takeFrom_22 : decode cX5_takeFrom 22 = .ok (.ldc 53, 2) := by decide +kernel
theorem dX5_takeFrom_24 : decode cX5_takeFrom 24 = .ok (.invokevirtual 54, 3) := by decide +kernel
theorem dX5_takeFrom_27 : decode cX5_takeFrom 27 = .ok (.aload_n 0, 1) := by decide +kernel
theorem dX5_takeFrom_28 : decode cX5_takeFrom 28 = .ok (.aload_n 2, 1) := by decide +kernel
theorem dX5_takeFrom_29 : decode cX5_takeFrom 29 = .ok (.getfield 58, 3) := by decide +kernel
theorem dX5_takeFrom_32 : decode cX5_takeFrom 32 = .ok (.putfield 26, 3) := by decide +kernel
theorem dX5_takeFrom_35 : decode cX5_takeFrom 35 = .ok (.aload_n 0, 1) := by decide +kernel
theorem dX5_takeFrom_36 : decode cX5_takeFrom 36 = .ok (.aload_n 2, 1) := by decide +kernel
theorem dX5_takeFrom_37 : decode cX5_takeFrom 37 = .ok (.getfield 59, 3) := by decide +kernel
theorem dX5_takeFrom_40 : decode cX5_takeFrom 40 = .ok (.putfield 30, 3) := by decide +kernel
theorem dX5_takeFrom_43 : decode cX5_takeFrom 43 = .ok (.aload_n 0, 1) := by decide +kernel
theorem dX5_takeFrom_44 : decode cX5_takeFrom 44 = .ok (.aload_n 2, 1) := by decide +kernel
theorem dX5_takeFrom_45 : decode cX5_takeFrom 45 = .ok (.getfield 60, 3) := by decide +kernel
theorem dX5_takeFrom_48 : decode cX5_takeFrom 48 = .ok (.putfield 33, 3) := by decide +kernel
theorem dX5_takeFrom_51 : decode cX5_takeFrom 51 = .ok (.iconst 1, 1) := by decide +kernel
theorem dX5_takeFrom_52 : decode cX5_takeFrom 52 = .ok (.istore_n 3, 1) := by decide +kernel
theorem dX5_takeFrom_53 : decode cX5_takeFrom 53 = .ok (.iload_n 3, 1) := by decide +kernel
theorem dX5_takeFrom_54 : decode cX5_takeFrom 54 = .ok (.bipush 8, 2) := by decide +kernel
theorem dX5_takeFrom_56 : decode cX5_takeFrom 56 = .ok (.if_icmp .gt 32, 3) := by decide +kernel
theorem dX5_takeFrom_59 : decode cX5_takeFrom 59 = .ok (.aload_n 0, 1) := by decide +kernel
theorem dX5_takeFrom_60 : decode cX5_takeFrom 60 = .ok (.getfield 18, 3) := by decide +kernel
theorem dX5_takeFrom_63 : decode cX5_takeFrom 63 = .ok (.iload_n 3, 1) := by decide +kernel
theorem dX5_takeFrom_64 : decode cX5_takeFrom 64 = .ok (.aload_n 2, 1) := by decide +kernel
theorem dX5_takeFrom_65 : decode cX5_takeFrom 65 = .ok (.getfield 61, 3) := by decide +kernel
theorem dX5_takeFrom_68 : decode cX5_takeFrom 68 = .ok (.iload_n 3, 1) := by decide +kernel
theorem dX5_takeFrom_69 : decode cX5_takeFrom 69 = .ok (.iaload, 1) := by decide +kernel
theorem dX5_takeFrom_70 : decode cX5_takeFrom 70 = .ok (.aload_n 0, 1) := by decide +kernel
theorem dX5_takeFrom_71 : decode cX5_takeFrom 71 = .ok (.getfield 30, 3) := by decide +kernel
theorem dX5_takeFrom_74 : decode cX5_takeFrom 74 = .ok (.ior, 1) := by decide +kernel
theorem dX5_takeFrom_75 : decode cX5_takeFrom 75 = .ok (.aload_n 0, 1) := by decide +kernel
theorem dX5_takeFrom_76 : decode cX5_takeFrom 76 = .ok (.getfield 33, 3) := by decide +kernel
theorem dX5_takeFrom_79 : decode cX5_takeFrom 79 = .ok (.iand, 1) := by decide +kernel
theorem dX5_takeFrom_80 : decode cX5_takeFrom 80 = .ok (.iastore, 1) := by decide +kernel
theorem dX5_takeFrom_81 : decode cX5_takeFrom 81 = .ok (.iload_n 3, 1) := by decide +kernel
theorem dX5_takeFrom_82 : decode cX5_takeFrom 82 = .ok (.iconst 2, 1) := by decide +kernel
theorem dX5_takeFrom_83 : decode cX5_takeFrom 83 = .ok (.imul, 1) := by decide +kernel
theorem dX5_takeFrom_84 : decode cX5_takeFrom 84 = .ok (.istore_n 3, 1) := by decide +kernel
theorem dX5_takeFrom_85 : decode cX5_takeFrom 85 = .ok (.goto (-32), 3) := by decide +kernel
theorem dX5_takeFrom_88 : decode cX5_takeFrom 88 = .ok (.return_, 1) := by decide +kernel
set_option maxHeartbeats 4000000 in
set_option maxRecDepth 10000 in
theorem vX5_takeFrom_0 {l : Launch} {M : sl_M} {Q : sl_R} {o0 o1 o2 : Nat} (ho0 : sl_cls o0 = 5) (ho1 : sl_cls o1 = 0) (ho2 : sl_cls o2 = 6) (H : sl_RM M → sl_RV l mX0_empty [vR (o0 + 30) 0] M (fun M1 => sl_RV l mX0_addRange [vR (o0 + 30) 0, vR o1 0, vI (M1 o2 0 0), vI (M1 o2 0 2), vI (-1), vI 0, vI 16434824] M1 (fun M2 => (∀ M3, M3 = sl_wr M2 o0 0 1 (M2 o2 0 3) → (∀ M4, M4 = sl_wr M3 o0 0 2 (M3 o2 0 4) → (∀ M5, M5 = sl_wr M4 o0 0 3 (M4 o2 0 5) → sl_At l mX5_takeFrom 53 [(0, vR o0 0), (2, vR o2 0), (3, vI 1)] [] M5 Q)))))) : sl_At l mX5_takeFrom 0 [(0, vR o0 0), (1, vR o1 0), (2, vR o2 0)] [] M Q := by
  refine sl_At.in (fun hM hls => ?_)
  have H := H hM
  refine r_aload_n (k := 0) rfl rfl dX5_takeFrom_0 ?_
  refine r_getR (k := 0) (o' := o0 + 30) (i' := 0) ckX5 ho0 rfl (by decide) rfl rfl rfl fl_X5_12 dX5_takeFrom_1 ?_
  refine r_callV (g := mX0_empty) ckX0 (cl_body ho0) rfl rfl rfl mkX0_empty mvX0_empty ml_X5_42 ⟨by decide, by decide⟩ rfl (Nat.le_of_ble_eq_true rfl) rfl ok_n dX5_takeFrom_4 (sl_afterV (sl_RV.mono (fun M1 hM1 H => ?_) H))
  refine r_aload_n (k := 0) rfl rfl dX5_takeFrom_7 ?_
  refine r_getR (k := 0) (o' := o0 + 30) (i' := 0) ckX5 ho0 rfl (by decide) rfl rfl rfl fl_X5_12 dX5_takeFrom_8 ?_
  refine r_aload_n (k := 1) rfl rfl dX5_takeFrom_11 ?_
  refine r_aload_n (k := 2) rfl rfl dX5_takeFrom_12 ?_
  refine r_gI (k := 0) (kz := 0) rfl ckX6 ho2 rfl (by decide) rfl rfl fl_X5_45 dX5_takeFrom_13 ?_
  refine r_aload_n (k := 2) rfl rfl dX5_takeFrom_16 ?_
  refine r_gI (k := 2) (kz := 2) rfl ckX6 ho2 rfl (by decide) rfl rfl fl_X5_50 dX5_takeFrom_17 ?_
  refine r_iconst dX5_takeFrom_20 ?_
  refine r_iconst dX5_takeFrom_21 ?_
  refine r_ldc (n := 16434824) co_X5_53 dX5_takeFrom_22 ?_
  refine r_callV (g := mX0_addRange) ckX0 (cl_body ho0) rfl rfl rfl mkX0_addRange mvX0_addRange ml_X5_54 ⟨by decide, by decide⟩ rfl (Nat.le_of_ble_eq_true rfl) rfl (ok_r (ok_i (hM1 _ _ _) (ok_i (hM1 _ _ _) (ok_i ⟨by decide, by decide⟩ (ok_i ⟨by decide, by decide⟩ (ok_i ⟨by decide, by decide⟩ ok_n)))))) dX5_takeFrom_24 (sl_afterV (sl_RV.mono (fun M2 hM2 H => ?_) H))
  refine r_aload_n (k := 0) rfl rfl dX5_takeFrom_27 ?_
  refine r_aload_n (k := 2) rfl rfl dX5_takeFrom_28 ?_
  refine r_gI (k := 3) (kz := 3) rfl ckX6 ho2 rfl (by decide) rfl rfl fl_X5_58 dX5_takeFrom_29 ?_
  refine r_pI (k := 1) (kz := 1) rfl ckX5 ho0 rfl (by decide) rfl rfl rfl rfl fl_X5_26 (hM2 _ _ _) dX5_takeFrom_32 ?_
  refine r_mm (fun M3 e3 => ?_)
  have H := H M3 e3
  have hM3 : sl_RM M3 := by rw [e3]; exact sl_wr_RM hM2 (hM2 _ _ _)
  refine r_aload_n (k := 0) rfl rfl dX5_takeFrom_35 ?_
  refine r_aload_n (k := 2) rfl rfl dX5_takeFrom_36 ?_
  refine r_gI (k := 4) (kz := 4) rfl ckX6 ho2 rfl (by decide) rfl rfl fl_X5_59 dX5_takeFrom_37 ?_
  refine r_pI (k := 2) (kz := 2) rfl ckX5 ho0 rfl (by decide) rfl rfl rfl rfl fl_X5_30 (hM3 _ _ _) dX5_takeFrom_40 ?_
  refine r_mm (fun M4 e4 => ?_)
  have H := H M4 e4
  have hM4 : sl_RM M4 := by rw [e4]; exact sl_wr_RM hM3 (hM3 _ _ _)
  refine r_aload_n (k := 0) rfl rfl dX5_takeFrom_43 ?_
  refine r_aload_n (k := 2) rfl rfl dX5_takeFrom_44 ?_
  refine r_gI (k := 5) (kz := 5) rfl ckX6 ho2 rfl (by decide) rfl rfl fl_X5_60 dX5_takeFrom_45 ?_
  refine r_pI (k := 3) (kz := 3) rfl ckX5 ho0 rfl (by decide) rfl rfl rfl rfl fl_X5_33 (hM4 _ _ _) dX5_takeFrom_48 ?_
  refine r_mm (fun M5 e5 => ?_)
  have H := H M5 e5
  have hM5 : sl_RM M5 := by rw [e5]; exact sl_wr_RM hM4 (hM4 _ _ _)
  refine r_iconst dX5_takeFrom_51 ?_
  refine r_istore_n (ls' := [(3, vI 1), (0, vR o0 0), (1, vR o1 0), (2, vR o2 0)]) ⟨by decide, by decide⟩ rfl (by decide) rfl dX5_takeFrom_52 ?_
  exact sl_At.sub [1, 3, 0] rfl H
set_option maxHeartbeats 4000000 in
set_option maxRecDepth 10000 in
theorem vX5_takeFrom_53 {l : Launch} {M : sl_M} {Q : sl_R} {o0 o2 : Nat} {x3 : Int} (ho0 : sl_cls o0 = 5) (ho2 : sl_cls o2 = 6) (H : sl_RM M → sl_rg x3 → ((8 < x3) → Q none M) ∧ ((¬ (8 < x3)) → (0 ≤ x3 ∧ x3 < 9) ∧ (∀ M3, M3 = sl_wr M o0 5 x3 (iand (ior (M o2 9 x3) (M o0 0 2)) (M o0 0 3)) → (sl_rg (x3 * 2)) ∧ (∀ y5 : Int, y5 = x3 * 2 → sl_At l mX5_takeFrom 53 [(0, vR o0 0), (2, vR o2 0), (3, vI y5)] [] M3 Q)))) : sl_At l mX5_takeFrom 53 [(0, vR o0 0), (2, vR o2 0), (3, vI x3)] [] M Q := by
  refine sl_At.in (fun hM hls => ?_)
  have g3 : sl_rg x3 := hls _ (List.mem_of_getElem? (i := 2) rfl)
  have H := H hM g3
  refine r_iload_n (k := 2) rfl rfl dX5_takeFrom_53 ?_
  refine r_bipush dX5_takeFrom_54 (by decide) ?_
  refine r_icmp_gt (tgt := 88) g3 ⟨by decide, by decide⟩ dX5_takeFrom_56 (by decide) (fun h1 => ?_) (fun h1 => ?_)
  · have H := H.1 h1
    refine r_vret rfl dX5_takeFrom_88 ?_
    exact H
  · have H := H.2 h1
    refine r_aload_n (k := 0) rfl rfl dX5_takeFrom_59 ?_
    refine r_getR (k := 4) (o' := o0) (i' := 5) ckX5 ho0 rfl (by decide) rfl rfl rfl fl_X5_18 dX5_takeFrom_60 ?_
    refine r_iload_n (k := 2) rfl rfl dX5_takeFrom_63 ?_
    refine r_aload_n (k := 1) rfl rfl dX5_takeFrom_64 ?_
    refine r_getR (k := 8) (o' := o2) (i' := 9) ckX6 ho2 rfl (by decide) rfl rfl rfl fl_X5_61 dX5_takeFrom_65 ?_
    refine r_iload_n (k := 2) rfl rfl dX5_takeFrom_68 ?_
    obtain ⟨c2, H⟩ := H
    refine r_iald ho2 rfl rfl c2 dX5_takeFrom_69 ?_
    refine r_aload_n (k := 0) rfl rfl dX5_takeFrom_70 ?_
    refine r_gI (k := 2) (kz := 2) rfl ckX5 ho0 rfl (by decide) rfl rfl fl_X5_30 dX5_takeFrom_71 ?_
    refine r_ior dX5_takeFrom_74 ?_
    refine r_aload_n (k := 0) rfl rfl dX5_takeFrom_75 ?_
    refine r_gI (k := 3) (kz := 3) rfl ckX5 ho0 rfl (by decide) rfl rfl fl_X5_33 dX5_takeFrom_76 ?_
    refine r_iand dX5_takeFrom_79 ?_
    refine r_iast ho0 rfl rfl c2 (rg_iand _ _) dX5_takeFrom_80 ?_
    refine r_mm (fun M3 e3 => ?_)
    have H := H M3 e3
    have hM3 : sl_RM M3 := by rw [e3]; exact sl_wr_RM hM (rg_iand _ _)
    refine r_iload_n (k := 2) rfl rfl dX5_takeFrom_81 ?_
    refine r_iconst dX5_takeFrom_82 ?_
    refine r_imul dX5_takeFrom_83 ?_
    obtain ⟨c4, H⟩ := H
    refine r_nm (fun y5 fy5 => ?_)
    have H := H y5 fy5
    have gy5 : sl_rg y5 := by rw [fy5]; exact c4
    refine r_istore_n (ls' := [(3, vI y5), (0, vR o0 0), (2, vR o2 0)]) gy5 rfl (by decide) rfl dX5_takeFrom_84 ?_
    refine r_goto (tgt := 53) dX5_takeFrom_85 (by decide) ?_
    exact sl_At.sub [1, 2, 0] rfl H
theorem eX5_takeFrom {l : Launch} {M : sl_M} {Q : sl_R} {o0 o1 o2 : Nat} (k : sl_At l mX5_takeFrom 0 [(0, vR o0 0), (1, vR o1 0), (2, vR o2 0)] [] M Q) : sl_Runs l mX5_takeFrom [vR o0 0, vR o1 0, vR o2 0] M Q := sl_Runs.of (ls := [(0, vR o0 0), (1, vR o1 0), (2, vR o2 0)]) rfl rfl (fun _ => rfl) (fun _ => Nat.le_of_ble_eq_true rfl) rfl (k)
theorem dX5_formalAt_0 : decode cX5_formalAt 0 = .ok (.aload_n 0, 1) := by decide +kernel
theorem dX5_formalAt_1 : decode cX5_formalAt 1 = .ok (.getfield 12, 3) := by decide +kernel
theorem dX5_formalAt_4 : decode cX5_formalAt 4 = .ok (.iconst 0, 1) := by decide +kernel
theorem dX5_formalAt_5 : decode cX5_formalAt 5 = .ok (.aload_n 0, 1) := by decide +kernel
theorem dX5_formalAt_6 : decode cX5_formalAt 6 = .ok (.getfield 12, 3) := by decide +kernel
theorem dX5_formalAt_9 : decode cX5_formalAt 9 = .ok (.getfield 64, 3) := by decide +kernel
theorem dX5_formalAt_12 : decode cX5_formalAt 12 = .ok (.iconst 1, 1) := by decide +kernel
theorem dX5_formalAt_13 : decode cX5_formalAt 13 = .ok (.isub, 1) := by decide +kernel
theorem dX5_formalAt_14 : decode cX5_formalAt 14 = .ok (.iload_n 1, 1) := by decide +kernel
theorem dX5_formalAt_15 : decode cX5_formalAt 15 = .ok (.iload_n 2, 1) := by decide +kernel
theorem dX5_formalAt_16 : decode cX5_formalAt 16 = .ok (.invokevirtual 67, 3) := by decide +kernel
theorem dX5_formalAt_19 : decode cX5_formalAt 19 = .ok (.ireturn, 1) := by decide +kernel
set_option maxHeartbeats 4000000 in
set_option maxRecDepth 10000 in
theorem vX5_formalAt_0 {l : Launch} {M : sl_M} {Q : sl_R} {o0 : Nat} {x1 x2 : Int} (ho0 : sl_cls o0 = 5) (H : sl_RM M → sl_rg x1 → sl_rg x2 → (sl_rg (M (o0 + 30) 0 11 - 1)) ∧ sl_RI l mX0_pick [vR (o0 + 30) 0, vI 0, vI (M (o0 + 30) 0 11 - 1), vI x1, vI x2] M (fun y3 M2 => Q (some (vI y3)) M2)) : sl_At l mX5_formalAt 0 [(0, vR o0 0), (1, vI x1), (2, vI x2)] [] M Q := by
  refine sl_At.in (fun hM hls => ?_)
  have g1 : sl_rg x1 := hls _ (List.mem_of_getElem? (i := 1) rfl)
  have g2 : sl_rg x2 := hls _ (List.mem_of_getElem? (i := 2) rfl)
  have H := H hM g1 g2
  refine r_aload_n (k := 0) rfl rfl dX5_formalAt_0 ?_
  refine r_getR (k := 0) (o' := o0 + 30) (i' := 0) ckX5 ho0 rfl (by decide) rfl rfl rfl fl_X5_12 dX5_formalAt_1 ?_
  refine r_iconst dX5_formalAt_4 ?_
  refine r_aload_n (k := 0) rfl rfl dX5_formalAt_5 ?_
  refine r_getR (k := 0) (o' := o0 + 30) (i' := 0) ckX5 ho0 rfl (by decide) rfl rfl rfl fl_X5_12 dX5_formalAt_6 ?_
  refine r_gI (k := 11) (kz := 11) rfl ckX0 (cl_body ho0) rfl (by decide) rfl rfl fl_X5_64 dX5_formalAt_9 ?_
  refine r_iconst dX5_formalAt_12 ?_
  refine r_isub dX5_formalAt_13 ?_
  refine r_iload_n (k := 1) rfl rfl dX5_formalAt_14 ?_
  refine r_iload_n (k := 2) rfl rfl dX5_formalAt_15 ?_
  obtain ⟨c1, H⟩ := H
  refine r_callV (g := mX0_pick) ckX0 (cl_body ho0) rfl rfl rfl mkX0_pick mvX0_pick ml_X5_67 ⟨by decide, by decide⟩ rfl (Nat.le_of_ble_eq_true rfl) rfl (ok_i ⟨by decide, by decide⟩ (ok_i c1 (ok_i g1 (ok_i g2 ok_n)))) dX5_formalAt_16 (sl_afterI (sl_RI.mono (fun y3 M2 gy3 hM2 H => ?_) H))
  refine r_iret rfl gy3 dX5_formalAt_19 ?_
  exact H
theorem eX5_formalAt {l : Launch} {M : sl_M} {Q : sl_R} {o0 : Nat} {x1 x2 : Int} (k : sl_At l mX5_formalAt 0 [(0, vR o0 0), (1, vI x1), (2, vI x2)] [] M Q) : sl_Runs l mX5_formalAt [vR o0 0, vI x1, vI x2] M Q := sl_Runs.of (ls := [(0, vR o0 0), (1, vI x1), (2, vI x2)]) rfl rfl (fun _ => rfl) (fun _ => Nat.le_of_ble_eq_true rfl) rfl (k)
theorem dX7_hasRoutine_0 : decode cX7_hasRoutine 0 = .ok (.iload_n 1, 1) := by decide +kernel
theorem dX7_hasRoutine_1 : decode cX7_hasRoutine 1 = .ok (.ifCond .lt 15, 3) := by decide +kernel
theorem dX7_hasRoutine_4 : decode cX7_hasRoutine 4 = .ok (.iload_n 1, 1) := by decide +kernel
theorem dX7_hasRoutine_5 : decode cX7_hasRoutine 5 = .ok (.aload_n 0, 1) := by decide +kernel
theorem dX7_hasRoutine_6 : decode cX7_hasRoutine 6 = .ok (.getfield 29, 3) := by decide +kernel
theorem dX7_hasRoutine_9 : decode cX7_hasRoutine 9 = .ok (.if_icmp .ge 7, 3) := by decide +kernel
theorem dX7_hasRoutine_12 : decode cX7_hasRoutine 12 = .ok (.iconst 1, 1) := by decide +kernel
theorem dX7_hasRoutine_13 : decode cX7_hasRoutine 13 = .ok (.goto 4, 3) := by decide +kernel
theorem dX7_hasRoutine_16 : decode cX7_hasRoutine 16 = .ok (.iconst 0, 1) := by decide +kernel
theorem dX7_hasRoutine_17 : decode cX7_hasRoutine 17 = .ok (.ireturn, 1) := by decide +kernel
set_option maxHeartbeats 4000000 in
set_option maxRecDepth 10000 in
theorem vX7_hasRoutine_0 {l : Launch} {M : sl_M} {Q : sl_R} {o0 : Nat} {x1 : Int} (ho0 : sl_cls o0 = 7) (H : sl_RM M → sl_rg x1 → Q (some (vI (if (¬ (x1 < 0)) ∧ (¬ (M o0 0 2 ≤ x1)) then 1 else 0))) M) : sl_At l mX7_hasRoutine 0 [(0, vR o0 0), (1, vI x1)] [] M Q := by
  refine sl_At.in (fun hM hls => ?_)
  have g1 : sl_rg x1 := hls _ (List.mem_of_getElem? (i := 1) rfl)
  have H := H hM g1
  refine r_iload_n (k := 1) rfl rfl dX7_hasRoutine_0 ?_
  have J : sl_At l mX7_hasRoutine 17 [(0, vR o0 0), (1, vI x1)] [vI (if (¬ (x1 < 0)) ∧ (¬ (M o0 0 2 ≤ x1)) then 1 else 0)] M Q := by
    refine r_zret rfl b_01 dX7_hasRoutine_17 ?_
    exact H
  refine r_if_lt (tgt := 16) g1 dX7_hasRoutine_1 (by decide) (fun h1 => ?_) (fun h1 => ?_)
  · refine r_iconst dX7_hasRoutine_16 ?_
    rw [if_neg (show ¬ ((¬ (x1 < 0)) ∧ (¬ (M o0 0 2 ≤ x1))) by omega)] at J
    exact J
  · refine r_iload_n (k := 1) rfl rfl dX7_hasRoutine_4 ?_
    refine r_aload_n (k := 0) rfl rfl dX7_hasRoutine_5 ?_
    refine r_gI (k := 2) (kz := 2) rfl ckX7 ho0 rfl (by decide) rfl rfl fl_X7_29 dX7_hasRoutine_6 ?_
    refine r_icmp_ge (tgt := 16) g1 (hM _ _ _) dX7_hasRoutine_9 (by decide) (fun h2 => ?_) (fun h2 => ?_)
    · refine r_iconst dX7_hasRoutine_16 ?_
      rw [if_neg (show ¬ ((¬ (x1 < 0)) ∧ (¬ (M o0 0 2 ≤ x1))) by omega)] at J
      exact J
    · refine r_iconst dX7_hasRoutine_12 ?_
      refine r_goto (tgt := 17) dX7_hasRoutine_13 (by decide) ?_
      rw [if_pos (show (¬ (x1 < 0)) ∧ (¬ (M o0 0 2 ≤ x1)) by omega)] at J
      exact J
theorem eX7_hasRoutine {l : Launch} {M : sl_M} {Q : sl_R} {o0 : Nat} {x1 : Int} (k : sl_At l mX7_hasRoutine 0 [(0, vR o0 0), (1, vI x1)] [] M Q) : sl_Runs l mX7_hasRoutine [vR o0 0, vI x1] M Q := sl_Runs.of (ls := [(0, vR o0 0), (1, vI x1)]) rfl rfl (fun _ => rfl) (fun _ => Nat.le_of_ble_eq_true rfl) rfl (k)
theorem dX7_routineProperty_0 : decode cX7_routineProperty 0 = .ok (.aload_n 0, 1) := by decide +kernel
theorem dX7_routineProperty_1 : decode cX7_routineProperty 1 = .ok (.getfield 20, 3) := by decide +kernel
theorem dX7_routineProperty_4 : decode cX7_routineProperty 4 = .ok (.iload_n 1, 1) := by decide +kernel
theorem dX7_routineProperty_5 : decode cX7_routineProperty 5 = .ok (.aaload, 1) := by decide +kernel
theorem dX7_routineProperty_6 : decode cX7_routineProperty 6 = .ok (.astore_n 3, 1) := by decide +kernel
theorem dX7_routineProperty_7 : decode cX7_routineProperty 7 = .ok (.iload_n 2, 1) := by decide +kernel
theorem dX7_routineProperty_8 : decode cX7_routineProperty 8 = .ok (.tableswitch 71 0 4 #[36, 41, 49, 57, 65], 36) := by decide +kernel
theorem dX7_routineProperty_44 : decode cX7_routineProperty 44 = .ok (.aload_n 3, 1) := by decide +kernel
theorem dX7_routineProperty_45 : decode cX7_routineProperty 45 = .ok (.getfield 33, 3) := by decide +kernel
theorem dX7_routineProperty_48 : decode cX7_routineProperty 48 = .ok (.ireturn, 1) := by decide +kernel
theorem dX7_routineProperty_49 : decode cX7_routineProperty 49 = .ok (.aload_n 3, 1) := by decide +kernel
theorem dX7_routineProperty_50 : decode cX7_routineProperty 50 = .ok (.getfield 36, 3) := by decide +kernel
theorem dX7_routineProperty_53 : decode cX7_routineProperty 53 = .ok (.invokestatic 39, 3) := by decide +kernel
theorem dX7_routineProperty_56 : decode cX7_routineProperty 56 = .ok (.ireturn, 1) := by decide +kernel
theorem dX7_routineProperty_57 : decode cX7_routineProperty 57 = .ok (.aload_n 3, 1) := by decide +kernel
theorem dX7_routineProperty_58 : decode cX7_routineProperty 58 = .ok (.getfield 45, 3) := by decide +kernel
theorem dX7_routineProperty_61 : decode cX7_routineProperty 61 = .ok (.invokestatic 39, 3) := by decide +kernel
theorem dX7_routineProperty_64 : decode cX7_routineProperty 64 = .ok (.ireturn, 1) := by decide +kernel
theorem dX7_routineProperty_65 : decode cX7_routineProperty 65 = .ok (.aload_n 3, 1) := by decide +kernel
theorem dX7_routineProperty_66 : decode cX7_routineProperty 66 = .ok (.getfield 48, 3) := by decide +kernel
theorem dX7_routineProperty_69 : decode cX7_routineProperty 69 = .ok (.getfield 51, 3) := by decide +kernel
theorem dX7_routineProperty_72 : decode cX7_routineProperty 72 = .ok (.ireturn, 1) := by decide +kernel
theorem dX7_routineProperty_73 : decode cX7_routineProperty 73 = .ok (.aload_n 0, 1) := by decide +kernel
theorem dX7_routineProperty_74 : decode cX7_routineProperty 74 = .ok (.iload_n 1, 1) := by decide +kernel
theorem dX7_routineProperty_75 : decode cX7_routineProperty 75 = .ok (.invokevirtual 54, 3) := by decide +kernel
theorem dX7_routineProperty_78 : decode cX7_routineProperty 78 = .ok (.ireturn, 1) := by decide +kernel
theorem dX7_routineProperty_79 : decode cX7_routineProperty 79 = .ok (.aload_n 3, 1) := by decide +kernel
theorem dX7_routineProperty_80 : decode cX7_routineProperty 80 = .ok (.getfield 48, 3) := by decide +kernel
theorem dX7_routineProperty_83 : decode cX7_routineProperty 83 = .ok (.invokevirtual 57, 3) := by decide +kernel
theorem dX7_routineProperty_86 : decode cX7_routineProperty 86 = .ok (.ifCond .eq 7, 3) := by decide +kernel
theorem dX7_routineProperty_89 : decode cX7_routineProperty 89 = .ok (.iconst 1, 1) := by decide +kernel
theorem dX7_routineProperty_90 : decode cX7_routineProperty 90 = .ok (.goto 4, 3) := by decide +kernel
theorem dX7_routineProperty_93 : decode cX7_routineProperty 93 = .ok (.iconst 0, 1) := by decide +kernel
theorem dX7_routineProperty_94 : decode cX7_routineProperty 94 = .ok (.ireturn, 1) := by decide +kernel
set_option maxHeartbeats 4000000 in
set_option maxRecDepth 10000 in
theorem vX7_routineProperty_0 {l : Launch} {M : sl_M} {Q : sl_R} {o0 : Nat} {x1 x2 : Int} (ho0 : sl_cls o0 = 7) (H : sl_RM M → sl_rg x1 → sl_rg x2 → (0 ≤ x1 ∧ x1 < 3) ∧ ((x2 = 0) → Q (some (vI (M (3 * o0 + x1.toNat) 0 1))) M) ∧ ((x2 = 1) → sl_RI l mJ6_bitCount_0f7a4 [vI (M (3 * o0 + x1.toNat) 0 2)] M (fun y3 M2 => Q (some (vI y3)) M2)) ∧ ((x2 = 2) → sl_RI l mJ6_bitCount_0f7a4 [vI (M (3 * o0 + x1.toNat) 0 3)] M (fun y5 M4 => Q (some (vI y5)) M4)) ∧ ((x2 = 3) → Q (some (vI (M (3 * o0 + x1.toNat + 30) 0 11))) M) ∧ ((x2 = 4) → sl_RI l mX7_callsOf [vR o0 0, vI x1] M (fun y7 M6 => Q (some (vI y7)) M6)) ∧ ((¬ (x2 = 0) ∧ ¬ (x2 = 1) ∧ ¬ (x2 = 2) ∧ ¬ (x2 = 3) ∧ ¬ (x2 = 4)) → sl_RI l mX0_mayFailToDivide [vR (3 * o0 + x1.toNat + 30) 0] M (fun y9 M8 => Q (some (vI (if ¬ (y9 = 0) then 1 else 0))) M8))) : sl_At l mX7_routineProperty 0 [(0, vR o0 0), (1, vI x1), (2, vI x2)] [] M Q := by
  refine sl_At.in (fun hM hls => ?_)
  have g1 : sl_rg x1 := hls _ (List.mem_of_getElem? (i := 1) rfl)
  have g2 : sl_rg x2 := hls _ (List.mem_of_getElem? (i := 2) rfl)
  have H := H hM g1 g2
  refine r_aload_n (k := 0) rfl rfl dX7_routineProperty_0 ?_
  refine r_getR (k := 1) (o' := o0) (i' := 2) ckX7 ho0 rfl (by decide) rfl rfl rfl fl_X7_20 dX7_routineProperty_1 ?_
  refine r_iload_n (k := 1) rfl rfl dX7_routineProperty_4 ?_
  obtain ⟨c1, H⟩ := H
  refine r_aaldR ho0 rfl c1 dX7_routineProperty_5 ?_
  refine r_astore_n (ls' := [(3, vR (3 * o0 + x1.toNat) 0), (0, vR o0 0), (1, vI x1), (2, vI x2)]) rfl (by decide) rfl dX7_routineProperty_6 ?_
  refine r_iload_n (k := 3) rfl rfl dX7_routineProperty_7 ?_
  by_cases h11 : x2 = 0
  · refine r_tsIn (tgt := 44) 0 g2 dX7_routineProperty_8 (by omega) (by decide) rfl (by decide) ?_
    have H := H.1 (by omega)
    refine r_aload_n (k := 0) rfl rfl dX7_routineProperty_44 ?_
    refine r_gI (k := 1) (kz := 1) rfl ckX5 (cl_rout ho0 c1) rfl (by decide) rfl rfl fl_X7_33 dX7_routineProperty_45 ?_
    refine r_iret rfl (hM _ _ _) dX7_routineProperty_48 ?_
    exact H
  by_cases h12 : x2 = 1
  · refine r_tsIn (tgt := 49) 1 g2 dX7_routineProperty_8 (by omega) (by decide) rfl (by decide) ?_
    have H := H.2.1 (by omega)
    refine r_aload_n (k := 0) rfl rfl dX7_routineProperty_49 ?_
    refine r_gI (k := 2) (kz := 2) rfl ckX5 (cl_rout ho0 c1) rfl (by decide) rfl rfl fl_X7_36 dX7_routineProperty_50 ?_
    refine r_callS (g := mJ6_bitCount_0f7a4) rfl mkJ6_bitCount_0f7a4 msJ6_bitCount_0f7a4 ml_X7_39 ⟨by decide, by decide⟩ rfl (Nat.le_of_ble_eq_true rfl) rfl (ok_i (hM _ _ _) ok_n) dX7_routineProperty_53 (sl_afterI (sl_RI.mono (fun y3 M2 gy3 hM2 H => ?_) H))
    refine r_iret rfl gy3 dX7_routineProperty_56 ?_
    exact H
  by_cases h13 : x2 = 2
  · refine r_tsIn (tgt := 57) 2 g2 dX7_routineProperty_8 (by omega) (by decide) rfl (by decide) ?_
    have H := H.2.2.1 (by omega)
    refine r_aload_n (k := 0) rfl rfl dX7_routineProperty_57 ?_
    refine r_gI (k := 3) (kz := 3) rfl ckX5 (cl_rout ho0 c1) rfl (by decide) rfl rfl fl_X7_45 dX7_routineProperty_58 ?_
    refine r_callS (g := mJ6_bitCount_0f7a4) rfl mkJ6_bitCount_0f7a4 msJ6_bitCount_0f7a4 ml_X7_39 ⟨by decide, by decide⟩ rfl (Nat.le_of_ble_eq_true rfl) rfl (ok_i (hM _ _ _) ok_n) dX7_routineProperty_61 (sl_afterI (sl_RI.mono (fun y5 M4 gy5 hM4 H => ?_) H))
    refine r_iret rfl gy5 dX7_routineProperty_64 ?_
    exact H
  by_cases h14 : x2 = 3
  · refine r_tsIn (tgt := 65) 3 g2 dX7_routineProperty_8 (by omega) (by decide) rfl (by decide) ?_
    have H := H.2.2.2.1 (by omega)
    refine r_aload_n (k := 0) rfl rfl dX7_routineProperty_65 ?_
    refine r_getR (k := 0) (o' := 3 * o0 + x1.toNat + 30) (i' := 0) ckX5 (cl_rout ho0 c1) rfl (by decide) rfl rfl rfl fl_X7_48 dX7_routineProperty_66 ?_
    refine r_gI (k := 11) (kz := 11) rfl ckX0 (cl_body (cl_rout ho0 c1)) rfl (by decide) rfl rfl fl_X7_51 dX7_routineProperty_69 ?_
    refine r_iret rfl (hM _ _ _) dX7_routineProperty_72 ?_
    exact H
  by_cases h15 : x2 = 4
  · refine r_tsIn (tgt := 73) 4 g2 dX7_routineProperty_8 (by omega) (by decide) rfl (by decide) ?_
    have H := H.2.2.2.2.1 (by omega)
    refine r_aload_n (k := 1) rfl rfl dX7_routineProperty_73 ?_
    refine r_iload_n (k := 2) rfl rfl dX7_routineProperty_74 ?_
    refine r_callV (g := mX7_callsOf) ckX7 ho0 rfl rfl rfl mkX7_callsOf mvX7_callsOf ml_X7_54 ⟨by decide, by decide⟩ rfl (Nat.le_of_ble_eq_true rfl) rfl (ok_i g1 ok_n) dX7_routineProperty_75 (sl_afterI (sl_RI.mono (fun y7 M6 gy7 hM6 H => ?_) H))
    refine r_iret rfl gy7 dX7_routineProperty_78 ?_
    exact H
  refine r_tsOut (tgt := 79) g2 dX7_routineProperty_8 (by omega) (by decide) ?_
  have H := H.2.2.2.2.2 (by omega)
  refine r_aload_n (k := 0) rfl rfl dX7_routineProperty_79 ?_
  refine r_getR (k := 0) (o' := 3 * o0 + x1.toNat + 30) (i' := 0) ckX5 (cl_rout ho0 c1) rfl (by decide) rfl rfl rfl fl_X7_48 dX7_routineProperty_80 ?_
  refine r_callV (g := mX0_mayFailToDivide) ckX0 (cl_body (cl_rout ho0 c1)) rfl rfl rfl mkX0_mayFailToDivide mvX0_mayFailToDivide ml_X7_57 ⟨by decide, by decide⟩ rfl (Nat.le_of_ble_eq_true rfl) rfl ok_n dX7_routineProperty_83 (sl_afterI (sl_RI.mono (fun y9 M8 gy9 hM8 H => ?_) H))
  have J : sl_At l mX7_routineProperty 94 [(3, vR (3 * o0 + x1.toNat) 0), (0, vR o0 0), (1, vI x1), (2, vI x2)] [vI (if ¬ (y9 = 0) then 1 else 0)] M8 Q := by
    refine r_iret rfl rg_b dX7_routineProperty_94 ?_
    exact H
  refine r_if_eq (tgt := 93) gy9 dX7_routineProperty_86 (by decide) (fun h10 => ?_) (fun h10 => ?_)
  · refine r_iconst dX7_routineProperty_93 ?_
    rw [if_neg (show ¬ (¬ (y9 = 0)) by omega)] at J
    exact J
  · refine r_iconst dX7_routineProperty_89 ?_
    refine r_goto (tgt := 94) dX7_routineProperty_90 (by decide) ?_
    rw [if_pos (show ¬ (y9 = 0) by omega)] at J
    exact J
theorem eX7_routineProperty {l : Launch} {M : sl_M} {Q : sl_R} {o0 : Nat} {x1 x2 : Int} (k : sl_At l mX7_routineProperty 0 [(0, vR o0 0), (1, vI x1), (2, vI x2)] [] M Q) : sl_Runs l mX7_routineProperty [vR o0 0, vI x1, vI x2] M Q := sl_Runs.of (ls := [(0, vR o0 0), (1, vI x1), (2, vI x2)]) rfl rfl (fun _ => rfl) (fun _ => Nat.le_of_ble_eq_true rfl) rfl (k)
theorem dX7_callsOf_0 : decode cX7_callsOf 0 = .ok (.iconst 0, 1) := by decide +kernel
theorem dX7_callsOf_1 : decode cX7_callsOf 1 = .ok (.istore_n 2, 1) := by decide +kernel
theorem dX7_callsOf_2 : decode cX7_callsOf 2 = .ok (.iconst 0, 1) := by decide +kernel
theorem dX7_callsOf_3 : decode cX7_callsOf 3 = .ok (.istore_n 3, 1) := by decide +kernel
theorem dX7_callsOf_4 : decode cX7_callsOf 4 = .ok (.iload_n 3, 1) := by decide +kernel
theorem dX7_callsOf_5 : decode cX7_callsOf 5 = .ok (.aload_n 0, 1) := by decide +kernel
theorem dX7_callsOf_6 : decode cX7_callsOf 6 = .ok (.getfield 12, 3) := by decide +kernel
theorem dX7_callsOf_9 : decode cX7_callsOf 9 = .ok (.getfield 51, 3) := by decide +kernel
theorem dX7_callsOf_12 : decode cX7_callsOf 12 = .ok (.if_icmp .ge 21, 3) := by decide +kernel
theorem dX7_callsOf_15 : decode cX7_callsOf 15 = .ok (.aload_n 0, 1) := by decide +kernel
theorem dX7_callsOf_16 : decode cX7_callsOf 16 = .ok (.iload_n 3, 1) := by decide +kernel
theorem dX7_callsOf_17 : decode cX7_callsOf 17 = .ok (.iload_n 1, 1) := by decide +kernel
theorem dX7_callsOf_18 : decode cX7_callsOf 18 = .ok (.invokevirtual 61, 3) := by decide +kernel
theorem dX7_callsOf_21 : decode cX7_callsOf 21 = .ok (.ifCond .eq 6, 3) := by decide +kernel
theorem dX7_callsOf_24 : decode cX7_callsOf 24 = .ok (.iinc 2 1, 3) := by decide +kernel
theorem dX7_callsOf_27 : decode cX7_callsOf 27 = .ok (.iinc 3 1, 3) := by decide +kernel
theorem dX7_callsOf_30 : decode cX7_callsOf 30 = .ok (.goto (-26), 3) := by decide +kernel
theorem dX7_callsOf_33 : decode cX7_callsOf 33 = .ok (.iload_n 2, 1) := by decide +kernel
theorem dX7_callsOf_34 : decode cX7_callsOf 34 = .ok (.ireturn, 1) := by decide +kernel
set_option maxHeartbeats 4000000 in
set_option maxRecDepth 10000 in
theorem vX7_callsOf_0 {l : Launch} {M : sl_M} {Q : sl_R} {o0 : Nat} {x1 : Int} (ho0 : sl_cls o0 = 7) (H : sl_RM M → sl_rg x1 → sl_At l mX7_callsOf 4 [(0, vR o0 0), (1, vI x1), (2, vI 0), (3, vI 0)] [] M Q) : sl_At l mX7_callsOf 0 [(0, vR o0 0), (1, vI x1)] [] M Q := by
  refine sl_At.in (fun hM hls => ?_)
  have g1 : sl_rg x1 := hls _ (List.mem_of_getElem? (i := 1) rfl)
  have H := H hM g1
  refine r_iconst dX7_callsOf_0 ?_
  refine r_istore_n (ls' := [(2, vI 0), (0, vR o0 0), (1, vI x1)]) ⟨by decide, by decide⟩ rfl (by decide) rfl dX7_callsOf_1 ?_
  refine r_iconst dX7_callsOf_2 ?_
  refine r_istore_n (ls' := [(3, vI 0), (2, vI 0), (0, vR o0 0), (1, vI x1)]) ⟨by decide, by decide⟩ rfl (by decide) rfl dX7_callsOf_3 ?_
  exact sl_At.sub [2, 3, 1, 0] rfl H
set_option maxHeartbeats 4000000 in
set_option maxRecDepth 10000 in
theorem vX7_callsOf_4 {l : Launch} {M : sl_M} {Q : sl_R} {o0 : Nat} {x1 x2 x3 : Int} (ho0 : sl_cls o0 = 7) (H : sl_RM M → sl_rg x1 → sl_rg x2 → sl_rg x3 → ((M (o0 + 10) 0 11 ≤ x3) → Q (some (vI x2)) M) ∧ ((¬ (M (o0 + 10) 0 11 ≤ x3)) → sl_RI l mX7_isCallOf [vR o0 0, vI x3, vI x1] M (fun y3 M2 => ((y3 = 0) → (sl_rg (x3 + 1)) ∧ sl_At l mX7_callsOf 4 [(0, vR o0 0), (1, vI x1), (2, vI x2), (3, vI (x3 + 1))] [] M2 Q) ∧ ((¬ (y3 = 0)) → (sl_rg (x2 + 1)) ∧ (sl_rg (x3 + 1)) ∧ sl_At l mX7_callsOf 4 [(0, vR o0 0), (1, vI x1), (2, vI (x2 + 1)), (3, vI (x3 + 1))] [] M2 Q)))) : sl_At l mX7_callsOf 4 [(0, vR o0 0), (1, vI x1), (2, vI x2), (3, vI x3)] [] M Q := by
  refine sl_At.in (fun hM hls => ?_)
  have g1 : sl_rg x1 := hls _ (List.mem_of_getElem? (i := 1) rfl)
  have g2 : sl_rg x2 := hls _ (List.mem_of_getElem? (i := 2) rfl)
  have g3 : sl_rg x3 := hls _ (List.mem_of_getElem? (i := 3) rfl)
  have H := H hM g1 g2 g3
  refine r_iload_n (k := 3) rfl rfl dX7_callsOf_4 ?_
  refine r_aload_n (k := 0) rfl rfl dX7_callsOf_5 ?_
  refine r_getR (k := 0) (o' := o0 + 10) (i' := 0) ckX7 ho0 rfl (by decide) rfl rfl rfl fl_X7_12 dX7_callsOf_6 ?_
  refine r_gI (k := 11) (kz := 11) rfl ckX0 (cl_prog ho0) rfl (by decide) rfl rfl fl_X7_51 dX7_callsOf_9 ?_
  refine r_icmp_ge (tgt := 33) g3 (hM _ _ _) dX7_callsOf_12 (by decide) (fun h1 => ?_) (fun h1 => ?_)
  · have H := H.1 h1
    refine r_iload_n (k := 2) rfl rfl dX7_callsOf_33 ?_
    refine r_iret rfl g2 dX7_callsOf_34 ?_
    exact H
  · have H := H.2 h1
    refine r_aload_n (k := 0) rfl rfl dX7_callsOf_15 ?_
    refine r_iload_n (k := 3) rfl rfl dX7_callsOf_16 ?_
    refine r_iload_n (k := 1) rfl rfl dX7_callsOf_17 ?_
    refine r_callV (g := mX7_isCallOf) ckX7 ho0 rfl rfl rfl mkX7_isCallOf mvX7_isCallOf ml_X7_61 ⟨by decide, by decide⟩ rfl (Nat.le_of_ble_eq_true rfl) rfl (ok_i g3 (ok_i g1 ok_n)) dX7_callsOf_18 (sl_afterI (sl_RI.mono (fun y3 M2 gy3 hM2 H => ?_) H))
    refine r_if_eq (tgt := 27) gy3 dX7_callsOf_21 (by decide) (fun h4 => ?_) (fun h4 => ?_)
    · have H := H.1 h4
      obtain ⟨c5, H⟩ := H
      refine r_iinc (k := 3) (ls' := [(3, vI (x3 + 1)), (0, vR o0 0), (1, vI x1), (2, vI x2)]) rfl c5 (by decide) rfl dX7_callsOf_27 ?_
      refine r_goto (tgt := 4) dX7_callsOf_30 (by decide) ?_
      exact sl_At.sub [1, 2, 3, 0] rfl H
    · have H := H.2 h4
      obtain ⟨c6, H⟩ := H
      refine r_iinc (k := 2) (ls' := [(2, vI (x2 + 1)), (0, vR o0 0), (1, vI x1), (3, vI x3)]) rfl c6 (by decide) rfl dX7_callsOf_24 ?_
      obtain ⟨c7, H⟩ := H
      refine r_iinc (k := 3) (ls' := [(3, vI (x3 + 1)), (2, vI (x2 + 1)), (0, vR o0 0), (1, vI x1)]) rfl c7 (by decide) rfl dX7_callsOf_27 ?_
      refine r_goto (tgt := 4) dX7_callsOf_30 (by decide) ?_
      exact sl_At.sub [2, 3, 1, 0] rfl H
theorem eX7_callsOf {l : Launch} {M : sl_M} {Q : sl_R} {o0 : Nat} {x1 : Int} (k : sl_At l mX7_callsOf 0 [(0, vR o0 0), (1, vI x1)] [] M Q) : sl_Runs l mX7_callsOf [vR o0 0, vI x1] M Q := sl_Runs.of (ls := [(0, vR o0 0), (1, vI x1)]) rfl rfl (fun _ => rfl) (fun _ => Nat.le_of_ble_eq_true rfl) rfl (k)
theorem dX7_isCallOf_0 : decode cX7_isCallOf 0 = .ok (.aload_n 0, 1) := by decide +kernel
theorem dX7_isCallOf_1 : decode cX7_isCallOf 1 = .ok (.getfield 12, 3) := by decide +kernel
theorem dX7_isCallOf_4 : decode cX7_isCallOf 4 = .ok (.getfield 65, 3) := by decide +kernel
theorem dX7_isCallOf_7 : decode cX7_isCallOf 7 = .ok (.iload_n 1, 1) := by decide +kernel
theorem dX7_isCallOf_8 : decode cX7_isCallOf 8 = .ok (.iaload, 1) := by decide +kernel
theorem dX7_isCallOf_9 : decode cX7_isCallOf 9 = .ok (.bipush 7, 2) := by decide +kernel
theorem dX7_isCallOf_11 : decode cX7_isCallOf 11 = .ok (.if_icmp .ne 20, 3) := by decide +kernel
theorem dX7_isCallOf_14 : decode cX7_isCallOf 14 = .ok (.aload_n 0, 1) := by decide +kernel
theorem dX7_isCallOf_15 : decode cX7_isCallOf 15 = .ok (.getfield 12, 3) := by decide +kernel
theorem dX7_isCallOf_18 : decode cX7_isCallOf 18 = .ok (.getfield 68, 3) := by decide +kernel
theorem dX7_isCallOf_21 : decode cX7_isCallOf 21 = .ok (.iload_n 1, 1) := by decide +kernel
theorem dX7_isCallOf_22 : decode cX7_isCallOf 22 = .ok (.iaload, 1) := by decide +kernel
theorem dX7_isCallOf_23 : decode cX7_isCallOf 23 = .ok (.iload_n 2, 1) := by decide +kernel
theorem dX7_isCallOf_24 : decode cX7_isCallOf 24 = .ok (.if_icmp .ne 7, 3) := by decide +kernel
theorem dX7_isCallOf_27 : decode cX7_isCallOf 27 = .ok (.iconst 1, 1) := by decide +kernel
theorem dX7_isCallOf_28 : decode cX7_isCallOf 28 = .ok (.goto 4, 3) := by decide +kernel
theorem dX7_isCallOf_31 : decode cX7_isCallOf 31 = .ok (.iconst 0, 1) := by decide +kernel
theorem dX7_isCallOf_32 : decode cX7_isCallOf 32 = .ok (.ireturn, 1) := by decide +kernel
set_option maxHeartbeats 4000000 in
set_option maxRecDepth 10000 in
theorem vX7_isCallOf_0 {l : Launch} {M : sl_M} {Q : sl_R} {o0 : Nat} {x1 x2 : Int} (ho0 : sl_cls o0 = 7) (H : sl_RM M → sl_rg x1 → sl_rg x2 → (0 ≤ x1 ∧ x1 < 40) ∧ Q (some (vI (if (¬ (M (o0 + 10) 1 x1 ≠ 7)) ∧ (¬ (M (o0 + 10) 6 x1 ≠ x2)) then 1 else 0))) M) : sl_At l mX7_isCallOf 0 [(0, vR o0 0), (1, vI x1), (2, vI x2)] [] M Q := by
  refine sl_At.in (fun hM hls => ?_)
  have g1 : sl_rg x1 := hls _ (List.mem_of_getElem? (i := 1) rfl)
  have g2 : sl_rg x2 := hls _ (List.mem_of_getElem? (i := 2) rfl)
  have H := H hM g1 g2
  refine r_aload_n (k := 0) rfl rfl dX7_isCallOf_0 ?_
  refine r_getR (k := 0) (o' := o0 + 10) (i' := 0) ckX7 ho0 rfl (by decide) rfl rfl rfl fl_X7_12 dX7_isCallOf_1 ?_
  refine r_getR (k := 0) (o' := o0 + 10) (i' := 1) ckX0 (cl_prog ho0) rfl (by decide) rfl rfl rfl fl_X7_65 dX7_isCallOf_4 ?_
  refine r_iload_n (k := 1) rfl rfl dX7_isCallOf_7 ?_
  obtain ⟨c1, H⟩ := H
  refine r_iald (cl_prog ho0) rfl rfl c1 dX7_isCallOf_8 ?_
  refine r_bipush dX7_isCallOf_9 (by decide) ?_
  have J : sl_At l mX7_isCallOf 32 [(0, vR o0 0), (1, vI x1), (2, vI x2)] [vI (if (¬ (M (o0 + 10) 1 x1 ≠ 7)) ∧ (¬ (M (o0 + 10) 6 x1 ≠ x2)) then 1 else 0)] M Q := by
    refine r_zret rfl b_01 dX7_isCallOf_32 ?_
    exact H
  refine r_icmp_ne (tgt := 31) (hM _ _ _) ⟨by decide, by decide⟩ dX7_isCallOf_11 (by decide) (fun h2 => ?_) (fun h2 => ?_)
  · refine r_iconst dX7_isCallOf_31 ?_
    rw [if_neg (show ¬ ((¬ (M (o0 + 10) 1 x1 ≠ 7)) ∧ (¬ (M (o0 + 10) 6 x1 ≠ x2))) by omega)] at J
    exact J
  · refine r_aload_n (k := 0) rfl rfl dX7_isCallOf_14 ?_
    refine r_getR (k := 0) (o' := o0 + 10) (i' := 0) ckX7 ho0 rfl (by decide) rfl rfl rfl fl_X7_12 dX7_isCallOf_15 ?_
    refine r_getR (k := 5) (o' := o0 + 10) (i' := 6) ckX0 (cl_prog ho0) rfl (by decide) rfl rfl rfl fl_X7_68 dX7_isCallOf_18 ?_
    refine r_iload_n (k := 1) rfl rfl dX7_isCallOf_21 ?_
    refine r_iald (cl_prog ho0) rfl rfl c1 dX7_isCallOf_22 ?_
    refine r_iload_n (k := 2) rfl rfl dX7_isCallOf_23 ?_
    refine r_icmp_ne (tgt := 31) (hM _ _ _) g2 dX7_isCallOf_24 (by decide) (fun h3 => ?_) (fun h3 => ?_)
    · refine r_iconst dX7_isCallOf_31 ?_
      rw [if_neg (show ¬ ((¬ (M (o0 + 10) 1 x1 ≠ 7)) ∧ (¬ (M (o0 + 10) 6 x1 ≠ x2))) by omega)] at J
      exact J
    · refine r_iconst dX7_isCallOf_27 ?_
      refine r_goto (tgt := 32) dX7_isCallOf_28 (by decide) ?_
      rw [if_pos (show (¬ (M (o0 + 10) 1 x1 ≠ 7)) ∧ (¬ (M (o0 + 10) 6 x1 ≠ x2)) by omega)] at J
      exact J
theorem eX7_isCallOf {l : Launch} {M : sl_M} {Q : sl_R} {o0 : Nat} {x1 x2 : Int} (k : sl_At l mX7_isCallOf 0 [(0, vR o0 0), (1, vI x1), (2, vI x2)] [] M Q) : sl_Runs l mX7_isCallOf [vR o0 0, vI x1, vI x2] M Q := sl_Runs.of (ls := [(0, vR o0 0), (1, vI x1), (2, vI x2)]) rfl rfl (fun _ => rfl) (fun _ => Nat.le_of_ble_eq_true rfl) rfl (k)
theorem dX7_isCall_0 : decode cX7_isCall 0 = .ok (.aload_n 0, 1) := by decide +kernel
theorem dX7_isCall_1 : decode cX7_isCall 1 = .ok (.getfield 12, 3) := by decide +kernel
theorem dX7_isCall_4 : decode cX7_isCall 4 = .ok (.getfield 65, 3) := by decide +kernel
theorem dX7_isCall_7 : decode cX7_isCall 7 = .ok (.iload_n 1, 1) := by decide +kernel
theorem dX7_isCall_8 : decode cX7_isCall 8 = .ok (.iaload, 1) := by decide +kernel
theorem dX7_isCall_9 : decode cX7_isCall 9 = .ok (.bipush 7, 2) := by decide +kernel
theorem dX7_isCall_11 : decode cX7_isCall 11 = .ok (.if_icmp .ne 35, 3) := by decide +kernel
theorem dX7_isCall_14 : decode cX7_isCall 14 = .ok (.aload_n 0, 1) := by decide +kernel
theorem dX7_isCall_15 : decode cX7_isCall 15 = .ok (.getfield 12, 3) := by decide +kernel
theorem dX7_isCall_18 : decode cX7_isCall 18 = .ok (.getfield 68, 3) := by decide +kernel
theorem dX7_isCall_21 : decode cX7_isCall 21 = .ok (.iload_n 1, 1) := by decide +kernel
theorem dX7_isCall_22 : decode cX7_isCall 22 = .ok (.iaload, 1) := by decide +kernel
theorem dX7_isCall_23 : decode cX7_isCall 23 = .ok (.ifCond .lt 23, 3) := by decide +kernel
theorem dX7_isCall_26 : decode cX7_isCall 26 = .ok (.aload_n 0, 1) := by decide +kernel
theorem dX7_isCall_27 : decode cX7_isCall 27 = .ok (.getfield 12, 3) := by decide +kernel
theorem dX7_isCall_30 : decode cX7_isCall 30 = .ok (.getfield 68, 3) := by decide +kernel
theorem dX7_isCall_33 : decode cX7_isCall 33 = .ok (.iload_n 1, 1) := by decide +kernel
theorem dX7_isCall_34 : decode cX7_isCall 34 = .ok (.iaload, 1) := by decide +kernel
theorem dX7_isCall_35 : decode cX7_isCall 35 = .ok (.aload_n 0, 1) := by decide +kernel
theorem dX7_isCall_36 : decode cX7_isCall 36 = .ok (.getfield 29, 3) := by decide +kernel
theorem dX7_isCall_39 : decode cX7_isCall 39 = .ok (.if_icmp .ge 7, 3) := by decide +kernel
theorem dX7_isCall_42 : decode cX7_isCall 42 = .ok (.iconst 1, 1) := by decide +kernel
theorem dX7_isCall_43 : decode cX7_isCall 43 = .ok (.goto 4, 3) := by decide +kernel
theorem dX7_isCall_46 : decode cX7_isCall 46 = .ok (.iconst 0, 1) := by decide +kernel
theorem dX7_isCall_47 : decode cX7_isCall 47 = .ok (.ireturn, 1) := by decide +kernel
set_option maxHeartbeats 4000000 in
set_option maxRecDepth 10000 in
theorem vX7_isCall_0 {l : Launch} {M : sl_M} {Q : sl_R} {o0 : Nat} {x1 : Int} (ho0 : sl_cls o0 = 7) (H : sl_RM M → sl_rg x1 → (0 ≤ x1 ∧ x1 < 40) ∧ Q (some (vI (if (¬ (M (o0 + 10) 1 x1 ≠ 7)) ∧ ((¬ (M (o0 + 10) 6 x1 < 0)) ∧ (¬ (M o0 0 2 ≤ M (o0 + 10) 6 x1))) then 1 else 0))) M) : sl_At l mX7_isCall 0 [(0, vR o0 0), (1, vI x1)] [] M Q := by
  refine sl_At.in (fun hM hls => ?_)
  have g1 : sl_rg x1 := hls _ (List.mem_of_getElem? (i := 1) rfl)
  have H := H hM g1
  refine r_aload_n (k := 0) rfl rfl dX7_isCall_0 ?_
  refine r_getR (k := 0) (o' := o0 + 10) (i' := 0) ckX7 ho0 rfl (by decide) rfl rfl rfl fl_X7_12 dX7_isCall_1 ?_
  refine r_getR (k := 0) (o' := o0 + 10) (i' := 1) ckX0 (cl_prog ho0) rfl (by decide) rfl rfl rfl fl_X7_65 dX7_isCall_4 ?_
  refine r_iload_n (k := 1) rfl rfl dX7_isCall_7 ?_
  obtain ⟨c1, H⟩ := H
  refine r_iald (cl_prog ho0) rfl rfl c1 dX7_isCall_8 ?_
  refine r_bipush dX7_isCall_9 (by decide) ?_
  have J : sl_At l mX7_isCall 47 [(0, vR o0 0), (1, vI x1)] [vI (if (¬ (M (o0 + 10) 1 x1 ≠ 7)) ∧ ((¬ (M (o0 + 10) 6 x1 < 0)) ∧ (¬ (M o0 0 2 ≤ M (o0 + 10) 6 x1))) then 1 else 0)] M Q := by
    refine r_zret rfl b_01 dX7_isCall_47 ?_
    exact H
  refine r_icmp_ne (tgt := 46) (hM _ _ _) ⟨by decide, by decide⟩ dX7_isCall_11 (by decide) (fun h2 => ?_) (fun h2 => ?_)
  · refine r_iconst dX7_isCall_46 ?_
    rw [if_neg (show ¬ ((¬ (M (o0 + 10) 1 x1 ≠ 7)) ∧ ((¬ (M (o0 + 10) 6 x1 < 0)) ∧ (¬ (M o0 0 2 ≤ M (o0 + 10) 6 x1)))) by omega)] at J
    exact J
  · refine r_aload_n (k := 0) rfl rfl dX7_isCall_14 ?_
    refine r_getR (k := 0) (o' := o0 + 10) (i' := 0) ckX7 ho0 rfl (by decide) rfl rfl rfl fl_X7_12 dX7_isCall_15 ?_
    refine r_getR (k := 5) (o' := o0 + 10) (i' := 6) ckX0 (cl_prog ho0) rfl (by decide) rfl rfl rfl fl_X7_68 dX7_isCall_18 ?_
    refine r_iload_n (k := 1) rfl rfl dX7_isCall_21 ?_
    refine r_iald (cl_prog ho0) rfl rfl c1 dX7_isCall_22 ?_
    refine r_if_lt (tgt := 46) (hM _ _ _) dX7_isCall_23 (by decide) (fun h3 => ?_) (fun h3 => ?_)
    · refine r_iconst dX7_isCall_46 ?_
      rw [if_neg (show ¬ ((¬ (M (o0 + 10) 1 x1 ≠ 7)) ∧ ((¬ (M (o0 + 10) 6 x1 < 0)) ∧ (¬ (M o0 0 2 ≤ M (o0 + 10) 6 x1)))) by omega)] at J
      exact J
    · refine r_aload_n (k := 0) rfl rfl dX7_isCall_26 ?_
      refine r_getR (k := 0) (o' := o0 + 10) (i' := 0) ckX7 ho0 rfl (by decide) rfl rfl rfl fl_X7_12 dX7_isCall_27 ?_
      refine r_getR (k := 5) (o' := o0 + 10) (i' := 6) ckX0 (cl_prog ho0) rfl (by decide) rfl rfl rfl fl_X7_68 dX7_isCall_30 ?_
      refine r_iload_n (k := 1) rfl rfl dX7_isCall_33 ?_
      refine r_iald (cl_prog ho0) rfl rfl c1 dX7_isCall_34 ?_
      refine r_aload_n (k := 0) rfl rfl dX7_isCall_35 ?_
      refine r_gI (k := 2) (kz := 2) rfl ckX7 ho0 rfl (by decide) rfl rfl fl_X7_29 dX7_isCall_36 ?_
      refine r_icmp_ge (tgt := 46) (hM _ _ _) (hM _ _ _) dX7_isCall_39 (by decide) (fun h4 => ?_) (fun h4 => ?_)
      · refine r_iconst dX7_isCall_46 ?_
        rw [if_neg (show ¬ ((¬ (M (o0 + 10) 1 x1 ≠ 7)) ∧ ((¬ (M (o0 + 10) 6 x1 < 0)) ∧ (¬ (M o0 0 2 ≤ M (o0 + 10) 6 x1)))) by omega)] at J
        exact J
      · refine r_iconst dX7_isCall_42 ?_
        refine r_goto (tgt := 47) dX7_isCall_43 (by decide) ?_
        rw [if_pos (show (¬ (M (o0 + 10) 1 x1 ≠ 7)) ∧ ((¬ (M (o0 + 10) 6 x1 < 0)) ∧ (¬ (M o0 0 2 ≤ M (o0 + 10) 6 x1))) by omega)] at J
        exact J
theorem eX7_isCall {l : Launch} {M : sl_M} {Q : sl_R} {o0 : Nat} {x1 : Int} (k : sl_At l mX7_isCall 0 [(0, vR o0 0), (1, vI x1)] [] M Q) : sl_Runs l mX7_isCall [vR o0 0, vI x1] M Q := sl_Runs.of (ls := [(0, vR o0 0), (1, vI x1)]) rfl rfl (fun _ => rfl) (fun _ => Nat.le_of_ble_eq_true rfl) rfl (k)
theorem dX7_exitsOf_0 : decode cX7_exitsOf 0 = .ok (.aload_n 0, 1) := by decide +kernel
theorem dX7_exitsOf_1 : decode cX7_exitsOf 1 = .ok (.getfield 12, 3) := by decide +kernel
theorem dX7_exitsOf_4 : decode cX7_exitsOf 4 = .ok (.getfield 65, 3) := by decide +kernel
theorem dX7_exitsOf_7 : decode cX7_exitsOf 7 = .ok (.iload_n 1, 1) := by decide +kernel
theorem dX7_exitsOf_8 : decode cX7_exitsOf 8 = .ok (.iaload, 1) := by decide +kernel
theorem dX7_exitsOf_9 : decode cX7_exitsOf 9 = .ok (.tableswitch 76 2 7 #[39, 42, 44, 76, 76, 46], 39) := by decide +kernel
theorem dX7_exitsOf_48 : decode cX7_exitsOf 48 = .ok (.bipush 8, 2) := by decide +kernel
theorem dX7_exitsOf_50 : decode cX7_exitsOf 50 = .ok (.ireturn, 1) := by decide +kernel
theorem dX7_exitsOf_51 : decode cX7_exitsOf 51 = .ok (.iconst 2, 1) := by decide +kernel
theorem dX7_exitsOf_52 : decode cX7_exitsOf 52 = .ok (.ireturn, 1) := by decide +kernel
theorem dX7_exitsOf_53 : decode cX7_exitsOf 53 = .ok (.iconst 4, 1) := by decide +kernel
theorem dX7_exitsOf_54 : decode cX7_exitsOf 54 = .ok (.ireturn, 1) := by decide +kernel
theorem dX7_exitsOf_55 : decode cX7_exitsOf 55 = .ok (.aload_n 0, 1) := by decide +kernel
theorem dX7_exitsOf_56 : decode cX7_exitsOf 56 = .ok (.iload_n 1, 1) := by decide +kernel
theorem dX7_exitsOf_57 : decode cX7_exitsOf 57 = .ok (.invokevirtual 71, 3) := by decide +kernel
theorem dX7_exitsOf_60 : decode cX7_exitsOf 60 = .ok (.ifCond .eq 23, 3) := by decide +kernel
theorem dX7_exitsOf_63 : decode cX7_exitsOf 63 = .ok (.aload_n 0, 1) := by decide +kernel
theorem dX7_exitsOf_64 : decode cX7_exitsOf 64 = .ok (.getfield 20, 3) := by decide +kernel
theorem dX7_exitsOf_67 : decode cX7_exitsOf 67 = .ok (.aload_n 0, 1) := by decide +kernel
theorem dX7_exitsOf_68 : decode cX7_exitsOf 68 = .ok (.getfield 12, 3) := by decide +kernel
theorem dX7_exitsOf_71 : decode cX7_exitsOf 71 = .ok (.getfield 68, 3) := by decide +kernel
theorem dX7_exitsOf_74 : decode cX7_exitsOf 74 = .ok (.iload_n 1, 1) := by decide +kernel
theorem dX7_exitsOf_75 : decode cX7_exitsOf 75 = .ok (.iaload, 1) := by decide +kernel
theorem dX7_exitsOf_76 : decode cX7_exitsOf 76 = .ok (.aaload, 1) := by decide +kernel
theorem dX7_exitsOf_77 : decode cX7_exitsOf 77 = .ok (.getfield 33, 3) := by decide +kernel
theorem dX7_exitsOf_80 : decode cX7_exitsOf 80 = .ok (.goto 4, 3) := by decide +kernel
theorem dX7_exitsOf_83 : decode cX7_exitsOf 83 = .ok (.iconst 1, 1) := by decide +kernel
theorem dX7_exitsOf_84 : decode cX7_exitsOf 84 = .ok (.ireturn, 1) := by decide +kernel
theorem dX7_exitsOf_85 : decode cX7_exitsOf 85 = .ok (.iconst 1, 1) := by decide +kernel
theorem dX7_exitsOf_86 : decode cX7_exitsOf 86 = .ok (.ireturn, 1) := by decide +kernel
set_option maxHeartbeats 4000000 in
set_option maxRecDepth 10000 in
theorem vX7_exitsOf_0 {l : Launch} {M : sl_M} {Q : sl_R} {o0 : Nat} {x1 : Int} (ho0 : sl_cls o0 = 7) (H : sl_RM M → sl_rg x1 → (0 ≤ x1 ∧ x1 < 40) ∧ ((M (o0 + 10) 1 x1 = 2) → Q (some (vI 8)) M) ∧ ((M (o0 + 10) 1 x1 = 3) → Q (some (vI 2)) M) ∧ ((M (o0 + 10) 1 x1 = 4) → Q (some (vI 4)) M) ∧ ((M (o0 + 10) 1 x1 = 7) → sl_RI l mX7_isCall [vR o0 0, vI x1] M (fun y3 M2 => ((y3 = 0) → Q (some (vI 1)) M2) ∧ ((¬ (y3 = 0)) → (0 ≤ M2 (o0 + 10) 6 x1 ∧ M2 (o0 + 10) 6 x1 < 3) ∧ Q (some (vI (M2 (3 * o0 + (M2 (o0 + 10) 6 x1).toNat) 0 1))) M2))) ∧ ((¬ (M (o0 + 10) 1 x1 = 2) ∧ ¬ (M (o0 + 10) 1 x1 = 3) ∧ ¬ (M (o0 + 10) 1 x1 = 4) ∧ ¬ (M (o0 + 10) 1 x1 = 7)) → Q (some (vI 1)) M)) : sl_At l mX7_exitsOf 0 [(0, vR o0 0), (1, vI x1)] [] M Q := by
  refine sl_At.in (fun hM hls => ?_)
  have g1 : sl_rg x1 := hls _ (List.mem_of_getElem? (i := 1) rfl)
  have H := H hM g1
  refine r_aload_n (k := 0) rfl rfl dX7_exitsOf_0 ?_
  refine r_getR (k := 0) (o' := o0 + 10) (i' := 0) ckX7 ho0 rfl (by decide) rfl rfl rfl fl_X7_12 dX7_exitsOf_1 ?_
  refine r_getR (k := 0) (o' := o0 + 10) (i' := 1) ckX0 (cl_prog ho0) rfl (by decide) rfl rfl rfl fl_X7_65 dX7_exitsOf_4 ?_
  refine r_iload_n (k := 1) rfl rfl dX7_exitsOf_7 ?_
  obtain ⟨c1, H⟩ := H
  refine r_iald (cl_prog ho0) rfl rfl c1 dX7_exitsOf_8 ?_
  by_cases h6 : M (o0 + 10) 1 x1 = 2
  · refine r_tsIn (tgt := 48) 0 (hM _ _ _) dX7_exitsOf_9 (by omega) (by decide) rfl (by decide) ?_
    have H := H.1 (by omega)
    refine r_bipush dX7_exitsOf_48 (by decide) ?_
    refine r_iret rfl ⟨by decide, by decide⟩ dX7_exitsOf_50 ?_
    exact H
  by_cases h7 : M (o0 + 10) 1 x1 = 3
  · refine r_tsIn (tgt := 51) 1 (hM _ _ _) dX7_exitsOf_9 (by omega) (by decide) rfl (by decide) ?_
    have H := H.2.1 (by omega)
    refine r_iconst dX7_exitsOf_51 ?_
    refine r_iret rfl ⟨by decide, by decide⟩ dX7_exitsOf_52 ?_
    exact H
  by_cases h8 : M (o0 + 10) 1 x1 = 4
  · refine r_tsIn (tgt := 53) 2 (hM _ _ _) dX7_exitsOf_9 (by omega) (by decide) rfl (by decide) ?_
    have H := H.2.2.1 (by omega)
    refine r_iconst dX7_exitsOf_53 ?_
    refine r_iret rfl ⟨by decide, by decide⟩ dX7_exitsOf_54 ?_
    exact H
  by_cases h9 : M (o0 + 10) 1 x1 = 5
  · refine r_tsIn (tgt := 85) 3 (hM _ _ _) dX7_exitsOf_9 (by omega) (by decide) rfl (by decide) ?_
    have H := H.2.2.2.2 (by omega)
    refine r_iconst dX7_exitsOf_85 ?_
    refine r_iret rfl ⟨by decide, by decide⟩ dX7_exitsOf_86 ?_
    exact H
  by_cases h10 : M (o0 + 10) 1 x1 = 6
  · refine r_tsIn (tgt := 85) 4 (hM _ _ _) dX7_exitsOf_9 (by omega) (by decide) rfl (by decide) ?_
    have H := H.2.2.2.2 (by omega)
    refine r_iconst dX7_exitsOf_85 ?_
    refine r_iret rfl ⟨by decide, by decide⟩ dX7_exitsOf_86 ?_
    exact H
  by_cases h11 : M (o0 + 10) 1 x1 = 7
  · refine r_tsIn (tgt := 55) 5 (hM _ _ _) dX7_exitsOf_9 (by omega) (by decide) rfl (by decide) ?_
    have H := H.2.2.2.1 (by omega)
    refine r_aload_n (k := 0) rfl rfl dX7_exitsOf_55 ?_
    refine r_iload_n (k := 1) rfl rfl dX7_exitsOf_56 ?_
    refine r_callV (g := mX7_isCall) ckX7 ho0 rfl rfl rfl mkX7_isCall mvX7_isCall ml_X7_71 ⟨by decide, by decide⟩ rfl (Nat.le_of_ble_eq_true rfl) rfl (ok_i g1 ok_n) dX7_exitsOf_57 (sl_afterI (sl_RI.mono (fun y3 M2 gy3 hM2 H => ?_) H))
    refine r_if_eq (tgt := 83) gy3 dX7_exitsOf_60 (by decide) (fun h4 => ?_) (fun h4 => ?_)
    · have H := H.1 h4
      refine r_iconst dX7_exitsOf_83 ?_
      refine r_iret rfl ⟨by decide, by decide⟩ dX7_exitsOf_84 ?_
      exact H
    · have H := H.2 h4
      refine r_aload_n (k := 0) rfl rfl dX7_exitsOf_63 ?_
      refine r_getR (k := 1) (o' := o0) (i' := 2) ckX7 ho0 rfl (by decide) rfl rfl rfl fl_X7_20 dX7_exitsOf_64 ?_
      refine r_aload_n (k := 0) rfl rfl dX7_exitsOf_67 ?_
      refine r_getR (k := 0) (o' := o0 + 10) (i' := 0) ckX7 ho0 rfl (by decide) rfl rfl rfl fl_X7_12 dX7_exitsOf_68 ?_
      refine r_getR (k := 5) (o' := o0 + 10) (i' := 6) ckX0 (cl_prog ho0) rfl (by decide) rfl rfl rfl fl_X7_68 dX7_exitsOf_71 ?_
      refine r_iload_n (k := 1) rfl rfl dX7_exitsOf_74 ?_
      refine r_iald (cl_prog ho0) rfl rfl c1 dX7_exitsOf_75 ?_
      obtain ⟨c5, H⟩ := H
      refine r_aaldR ho0 rfl c5 dX7_exitsOf_76 ?_
      refine r_gI (k := 1) (kz := 1) rfl ckX5 (cl_rout ho0 c5) rfl (by decide) rfl rfl fl_X7_33 dX7_exitsOf_77 ?_
      refine r_goto (tgt := 84) dX7_exitsOf_80 (by decide) ?_
      refine r_iret rfl (hM2 _ _ _) dX7_exitsOf_84 ?_
      exact H
  refine r_tsOut (tgt := 85) (hM _ _ _) dX7_exitsOf_9 (by omega) (by decide) ?_
  have H := H.2.2.2.2 (by omega)
  refine r_iconst dX7_exitsOf_85 ?_
  refine r_iret rfl ⟨by decide, by decide⟩ dX7_exitsOf_86 ?_
  exact H
theorem eX7_exitsOf {l : Launch} {M : sl_M} {Q : sl_R} {o0 : Nat} {x1 : Int} (k : sl_At l mX7_exitsOf 0 [(0, vR o0 0), (1, vI x1)] [] M Q) : sl_Runs l mX7_exitsOf [vR o0 0, vI x1] M Q := sl_Runs.of (ls := [(0, vR o0 0), (1, vI x1)]) rfl rfl (fun _ => rfl) (fun _ => Nat.le_of_ble_eq_true rfl) rfl (k)
theorem dX7_setBy_0 : decode cX7_setBy 0 = .ok (.aload_n 0, 1) := by decide +kernel
theorem dX7_setBy_1 : decode cX7_setBy 1 = .ok (.iload_n 1, 1) := by decide +kernel
theorem dX7_setBy_2 : decode cX7_setBy 2 = .ok (.invokevirtual 71, 3) := by decide +kernel
theorem dX7_setBy_5 : decode cX7_setBy 5 = .ok (.ifCond .eq 35, 3) := by decide +kernel
theorem dX7_setBy_8 : decode cX7_setBy 8 = .ok (.aload_n 0, 1) := by decide +kernel
theorem dX7_setBy_9 : decode cX7_setBy 9 = .ok (.getfield 12, 3) := by decide +kernel
theorem dX7_setBy_12 : decode cX7_setBy 12 = .ok (.getfield 75, 3) := by decide +kernel
theorem dX7_setBy_15 : decode cX7_setBy 15 = .ok (.iload_n 1, 1) := by decide +kernel
theorem dX7_setBy_16 : decode cX7_setBy 16 = .ok (.iaload, 1) := by decide +kernel
theorem dX7_setBy_17 : decode cX7_setBy 17 = .ok (.aload_n 0, 1) := by decide +kernel
theorem dX7_setBy_18 : decode cX7_setBy 18 = .ok (.getfield 20, 3) := by decide +kernel
theorem dX7_setBy_21 : decode cX7_setBy 21 = .ok (.aload_n 0, 1) := by decide +kernel
theorem dX7_setBy_22 : decode cX7_setBy 22 = .ok (.getfield 12, 3) := by decide +kernel
theorem dX7_setBy_25 : decode cX7_setBy 25 = .ok (.getfield 68, 3) := by decide +kernel
theorem dX7_setBy_28 : decode cX7_setBy 28 = .ok (.iload_n 1, 1) := by decide +kernel
theorem dX7_setBy_29 : decode cX7_setBy 29 = .ok (.iaload, 1) := by decide +kernel
theorem dX7_setBy_30 : decode cX7_setBy 30 = .ok (.aaload, 1) := by decide +kernel
theorem dX7_setBy_31 : decode cX7_setBy 31 = .ok (.getfield 78, 3) := by decide +kernel
theorem dX7_setBy_34 : decode cX7_setBy 34 = .ok (.iload_n 2, 1) := by decide +kernel
theorem dX7_setBy_35 : decode cX7_setBy 35 = .ok (.iaload, 1) := by decide +kernel
theorem dX7_setBy_36 : decode cX7_setBy 36 = .ok (.invokestatic 81, 3) := by decide +kernel
theorem dX7_setBy_39 : decode cX7_setBy 39 = .ok (.ireturn, 1) := by decide +kernel
theorem dX7_setBy_40 : decode cX7_setBy 40 = .ok (.aload_n 0, 1) := by decide +kernel
theorem dX7_setBy_41 : decode cX7_setBy 41 = .ok (.getfield 12, 3) := by decide +kernel
theorem dX7_setBy_44 : decode cX7_setBy 44 = .ok (.getfield 65, 3) := by decide +kernel
theorem dX7_setBy_47 : decode cX7_setBy 47 = .ok (.iload_n 1, 1) := by decide +kernel
theorem dX7_setBy_48 : decode cX7_setBy 48 = .ok (.iaload, 1) := by decide +kernel
theorem dX7_setBy_49 : decode cX7_setBy 49 = .ok (.ifCond .ne 17, 3) := by decide +kernel
theorem dX7_setBy_52 : decode cX7_setBy 52 = .ok (.iconst 1, 1) := by decide +kernel
theorem dX7_setBy_53 : decode cX7_setBy 53 = .ok (.aload_n 0, 1) := by decide +kernel
theorem dX7_setBy_54 : decode cX7_setBy 54 = .ok (.getfield 12, 3) := by decide +kernel
theorem dX7_setBy_57 : decode cX7_setBy 57 = .ok (.getfield 68, 3) := by decide +kernel
theorem dX7_setBy_60 : decode cX7_setBy 60 = .ok (.iload_n 1, 1) := by decide +kernel
theorem dX7_setBy_61 : decode cX7_setBy 61 = .ok (.iaload, 1) := by decide +kernel
theorem dX7_setBy_62 : decode cX7_setBy 62 = .ok (.ishl, 1) := by decide +kernel
theorem dX7_setBy_63 : decode cX7_setBy 63 = .ok (.goto 4, 3) := by decide +kernel
theorem dX7_setBy_66 : decode cX7_setBy 66 = .ok (.iconst 0, 1) := by decide +kernel
theorem dX7_setBy_67 : decode cX7_setBy 67 = .ok (.ireturn, 1) := by decide +kernel
set_option maxHeartbeats 4000000 in
set_option maxRecDepth 10000 in
theorem vX7_setBy_0 {l : Launch} {M : sl_M} {Q : sl_R} {o0 : Nat} {x1 x2 : Int} (ho0 : sl_cls o0 = 7) (H : sl_RM M → sl_rg x1 → sl_rg x2 → sl_RI l mX7_isCall [vR o0 0, vI x1] M (fun y2 M1 => ((y2 = 0) → (0 ≤ x1 ∧ x1 < 40) ∧ Q (some (vI (if M1 (o0 + 10) 1 x1 ≠ 0 then 0 else ishl 1 (M1 (o0 + 10) 6 x1)))) M1) ∧ ((¬ (y2 = 0)) → (0 ≤ x1 ∧ x1 < 40) ∧ (0 ≤ M1 (o0 + 10) 6 x1 ∧ M1 (o0 + 10) 6 x1 < 3) ∧ (0 ≤ x2 ∧ x2 < 9) ∧ sl_RI l mX9_renamedSet [vI (M1 (o0 + 10) 7 x1), vI (M1 (3 * o0 + (M1 (o0 + 10) 6 x1).toNat) 5 x2)] M1 (fun y10 M9 => Q (some (vI y10)) M9)))) : sl_At l mX7_setBy 0 [(0, vR o0 0), (1, vI x1), (2, vI x2)] [] M Q := by
  refine sl_At.in (fun hM hls => ?_)
  have g1 : sl_rg x1 := hls _ (List.mem_of_getElem? (i := 1) rfl)
  have g2 : sl_rg x2 := hls _ (List.mem_of_getElem? (i := 2) rfl)
  have H := H hM g1 g2
  refine r_aload_n (k := 0) rfl rfl dX7_setBy_0 ?_
  refine r_iload_n (k := 1) rfl rfl dX7_setBy_1 ?_
  refine r_callV (g := mX7_isCall) ckX7 ho0 rfl rfl rfl mkX7_isCall mvX7_isCall ml_X7_71 ⟨by decide, by decide⟩ rfl (Nat.le_of_ble_eq_true rfl) rfl (ok_i g1 ok_n) dX7_setBy_2 (sl_afterI (sl_RI.mono (fun y2 M1 gy2 hM1 H => ?_) H))
  refine r_if_eq (tgt := 40) gy2 dX7_setBy_5 (by decide) (fun h3 => ?_) (fun h3 => ?_)
  · have H := H.1 h3
    refine r_aload_n (k := 0) rfl rfl dX7_setBy_40 ?_
    refine r_getR (k := 0) (o' := o0 + 10) (i' := 0) ckX7 ho0 rfl (by decide) rfl rfl rfl fl_X7_12 dX7_setBy_41 ?_
    refine r_getR (k := 0) (o' := o0 + 10) (i' := 1) ckX0 (cl_prog ho0) rfl (by decide) rfl rfl rfl fl_X7_65 dX7_setBy_44 ?_
    refine r_iload_n (k := 1) rfl rfl dX7_setBy_47 ?_
    obtain ⟨c4, H⟩ := H
    refine r_iald (cl_prog ho0) rfl rfl c4 dX7_setBy_48 ?_
    have J : sl_At l mX7_setBy 67 [(0, vR o0 0), (1, vI x1), (2, vI x2)] [vI (if M1 (o0 + 10) 1 x1 ≠ 0 then 0 else ishl 1 (M1 (o0 + 10) 6 x1))] M1 Q := by
      refine r_iret rfl (sl_rgite ⟨by decide, by decide⟩ (rg_ishl _ _)) dX7_setBy_67 ?_
      exact H
    refine r_if_ne (tgt := 66) (hM1 _ _ _) dX7_setBy_49 (by decide) (fun h5 => ?_) (fun h5 => ?_)
    · refine r_iconst dX7_setBy_66 ?_
      rw [if_pos h5] at J
      exact J
    · refine r_iconst dX7_setBy_52 ?_
      refine r_aload_n (k := 0) rfl rfl dX7_setBy_53 ?_
      refine r_getR (k := 0) (o' := o0 + 10) (i' := 0) ckX7 ho0 rfl (by decide) rfl rfl rfl fl_X7_12 dX7_setBy_54 ?_
      refine r_getR (k := 5) (o' := o0 + 10) (i' := 6) ckX0 (cl_prog ho0) rfl (by decide) rfl rfl rfl fl_X7_68 dX7_setBy_57 ?_
      refine r_iload_n (k := 1) rfl rfl dX7_setBy_60 ?_
      refine r_iald (cl_prog ho0) rfl rfl c4 dX7_setBy_61 ?_
      refine r_ishl dX7_setBy_62 ?_
      refine r_goto (tgt := 67) dX7_setBy_63 (by decide) ?_
      rw [if_neg h5] at J
      exact J
  · have H := H.2 h3
    refine r_aload_n (k := 0) rfl rfl dX7_setBy_8 ?_
    refine r_getR (k := 0) (o' := o0 + 10) (i' := 0) ckX7 ho0 rfl (by decide) rfl rfl rfl fl_X7_12 dX7_setBy_9 ?_
    refine r_getR (k := 6) (o' := o0 + 10) (i' := 7) ckX0 (cl_prog ho0) rfl (by decide) rfl rfl rfl fl_X7_75 dX7_setBy_12 ?_
    refine r_iload_n (k := 1) rfl rfl dX7_setBy_15 ?_
    obtain ⟨c6, H⟩ := H
    refine r_iald (cl_prog ho0) rfl rfl c6 dX7_setBy_16 ?_
    refine r_aload_n (k := 0) rfl rfl dX7_setBy_17 ?_
    refine r_getR (k := 1) (o' := o0) (i' := 2) ckX7 ho0 rfl (by decide) rfl rfl rfl fl_X7_20 dX7_setBy_18 ?_
    refine r_aload_n (k := 0) rfl rfl dX7_setBy_21 ?_
    refine r_getR (k := 0) (o' := o0 + 10) (i' := 0) ckX7 ho0 rfl (by decide) rfl rfl rfl fl_X7_12 dX7_setBy_22 ?_
    refine r_getR (k := 5) (o' := o0 + 10) (i' := 6) ckX0 (cl_prog ho0) rfl (by decide) rfl rfl rfl fl_X7_68 dX7_setBy_25 ?_
    refine r_iload_n (k := 1) rfl rfl dX7_setBy_28 ?_
    refine r_iald (cl_prog ho0) rfl rfl c6 dX7_setBy_29 ?_
    obtain ⟨c7, H⟩ := H
    refine r_aaldR ho0 rfl c7 dX7_setBy_30 ?_
    refine r_getR (k := 4) (o' := 3 * o0 + (M1 (o0 + 10) 6 x1).toNat) (i' := 5) ckX5 (cl_rout ho0 c7) rfl (by decide) rfl rfl rfl fl_X7_78 dX7_setBy_31 ?_
    refine r_iload_n (k := 2) rfl rfl dX7_setBy_34 ?_
    obtain ⟨c8, H⟩ := H
    refine r_iald (cl_rout ho0 c7) rfl rfl c8 dX7_setBy_35 ?_
    refine r_callSN (g := mX9_renamedSet) rfl mkX9_renamedSet msX9_renamedSet mn_X7_81 ⟨by decide, by decide⟩ rfl (Nat.le_of_ble_eq_true rfl) rfl (ok_i (hM1 _ _ _) (ok_i (hM1 _ _ _) ok_n)) dX7_setBy_36 (sl_afterI (sl_RI.mono (fun y10 M9 gy10 hM9 H => ?_) H))
    refine r_iret rfl gy10 dX7_setBy_39 ?_
    exact H
theorem eX7_setBy {l : Launch} {M : sl_M} {Q : sl_R} {o0 : Nat} {x1 x2 : Int} (k : sl_At l mX7_setBy 0 [(0, vR o0 0), (1, vI x1), (2, vI x2)] [] M Q) : sl_Runs l mX7_setBy [vR o0 0, vI x1, vI x2] M Q := sl_Runs.of (ls := [(0, vR o0 0), (1, vI x1), (2, vI x2)]) rfl rfl (fun _ => rfl) (fun _ => Nat.le_of_ble_eq_true rfl) rfl (k)
theorem dX7_changedBy_0 : decode cX7_changedBy 0 = .ok (.aload_n 0, 1) := by decide +kernel
theorem dX7_changedBy_1 : decode cX7_changedBy 1 = .ok (.iload_n 1, 1) := by decide +kernel
theorem dX7_changedBy_2 : decode cX7_changedBy 2 = .ok (.invokevirtual 71, 3) := by decide +kernel
theorem dX7_changedBy_5 : decode cX7_changedBy 5 = .ok (.ifCond .eq 33, 3) := by decide +kernel
theorem dX7_changedBy_8 : decode cX7_changedBy 8 = .ok (.aload_n 0, 1) := by decide +kernel
theorem dX7_changedBy_9 : decode cX7_changedBy 9 = .ok (.getfield 12, 3) := by decide +kernel
theorem dX7_changedBy_12 : decode cX7_changedBy 12 = .ok (.getfield 75, 3) := by decide +kernel
theorem dX7_changedBy_15 : decode cX7_changedBy 15 = .ok (.iload_n 1, 1) := by decide +kernel
theorem dX7_changedBy_16 : decode cX7_changedBy 16 = .ok (.iaload, 1) := by decide +kernel
theorem dX7_changedBy_17 : decode cX7_changedBy 17 = .ok (.aload_n 0, 1) := by decide +kernel
theorem dX7_changedBy_18 : decode cX7_changedBy 18 = .ok (.getfield 20, 3) := by decide +kernel
theorem dX7_changedBy_21 : decode cX7_changedBy 21 = .ok (.aload_n 0, 1) := by decide +kernel
theorem dX7_changedBy_22 : decode cX7_changedBy 22 = .ok (.getfield 12, 3) := by decide +kernel
theorem dX7_changedBy_25 : decode cX7_changedBy 25 = .ok (.getfield 68, 3) := by decide +kernel
theorem dX7_changedBy_28 : decode cX7_changedBy 28 = .ok (.iload_n 1, 1) := by decide +kernel
theorem dX7_changedBy_29 : decode cX7_changedBy 29 = .ok (.iaload, 1) := by decide +kernel
theorem dX7_changedBy_30 : decode cX7_changedBy 30 = .ok (.aaload, 1) := by decide +kernel
theorem dX7_changedBy_31 : decode cX7_changedBy 31 = .ok (.getfield 45, 3) := by decide +kernel
theorem dX7_changedBy_34 : decode cX7_changedBy 34 = .ok (.invokestatic 81, 3) := by decide +kernel
theorem dX7_changedBy_37 : decode cX7_changedBy 37 = .ok (.ireturn, 1) := by decide +kernel
theorem dX7_changedBy_38 : decode cX7_changedBy 38 = .ok (.aload_n 0, 1) := by decide +kernel
theorem dX7_changedBy_39 : decode cX7_changedBy 39 = .ok (.getfield 12, 3) := by decide +kernel
theorem dX7_changedBy_42 : decode cX7_changedBy 42 = .ok (.getfield 65, 3) := by decide +kernel
theorem dX7_changedBy_45 : decode cX7_changedBy 45 = .ok (.iload_n 1, 1) := by decide +kernel
theorem dX7_changedBy_46 : decode cX7_changedBy 46 = .ok (.iaload, 1) := by decide +kernel
theorem dX7_changedBy_47 : decode cX7_changedBy 47 = .ok (.ifCond .ne 17, 3) := by decide +kernel
theorem dX7_changedBy_50 : decode cX7_changedBy 50 = .ok (.iconst 1, 1) := by decide +kernel
theorem dX7_changedBy_51 : decode cX7_changedBy 51 = .ok (.aload_n 0, 1) := by decide +kernel
theorem dX7_changedBy_52 : decode cX7_changedBy 52 = .ok (.getfield 12, 3) := by decide +kernel
theorem dX7_changedBy_55 : decode cX7_changedBy 55 = .ok (.getfield 68, 3) := by decide +kernel
theorem dX7_changedBy_58 : decode cX7_changedBy 58 = .ok (.iload_n 1, 1) := by decide +kernel
theorem dX7_changedBy_59 : decode cX7_changedBy 59 = .ok (.iaload, 1) := by decide +kernel
theorem dX7_changedBy_60 : decode cX7_changedBy 60 = .ok (.ishl, 1) := by decide +kernel
theorem dX7_changedBy_61 : decode cX7_changedBy 61 = .ok (.goto 4, 3) := by decide +kernel
theorem dX7_changedBy_64 : decode cX7_changedBy 64 = .ok (.iconst 0, 1) := by decide +kernel
theorem dX7_changedBy_65 : decode cX7_changedBy 65 = .ok (.ireturn, 1) := by decide +kernel
set_option maxHeartbeats 4000000 in
set_option maxRecDepth 10000 in
theorem vX7_changedBy_0 {l : Launch} {M : sl_M} {Q : sl_R} {o0 : Nat} {x1 : Int} (ho0 : sl_cls o0 = 7) (H : sl_RM M → sl_rg x1 → sl_RI l mX7_isCall [vR o0 0, vI x1] M (fun y2 M1 => ((y2 = 0) → (0 ≤ x1 ∧ x1 < 40) ∧ Q (some (vI (if M1 (o0 + 10) 1 x1 ≠ 0 then 0 else ishl 1 (M1 (o0 + 10) 6 x1)))) M1) ∧ ((¬ (y2 = 0)) → (0 ≤ x1 ∧ x1 < 40) ∧ (0 ≤ M1 (o0 + 10) 6 x1 ∧ M1 (o0 + 10) 6 x1 < 3) ∧ sl_RI l mX9_renamedSet [vI (M1 (o0 + 10) 7 x1), vI (M1 (3 * o0 + (M1 (o0 + 10) 6 x1).toNat) 0 3)] M1 (fun y9 M8 => Q (some (vI y9)) M8)))) : sl_At l mX7_changedBy 0 [(0, vR o0 0), (1, vI x1)] [] M Q := by
  refine sl_At.in (fun hM hls => ?_)
  have g1 : sl_rg x1 := hls _ (List.mem_of_getElem? (i := 1) rfl)
  have H := H hM g1
  refine r_aload_n (k := 0) rfl rfl dX7_changedBy_0 ?_
  refine r_iload_n (k := 1) rfl rfl dX7_changedBy_1 ?_
  refine r_callV (g := mX7_isCall) ckX7 ho0 rfl rfl rfl mkX7_isCall mvX7_isCall ml_X7_71 ⟨by decide, by decide⟩ rfl (Nat.le_of_ble_eq_true rfl) rfl (ok_i g1 ok_n) dX7_changedBy_2 (sl_afterI (sl_RI.mono (fun y2 M1 gy2 hM1 H => ?_) H))
  refine r_if_eq (tgt := 38) gy2 dX7_changedBy_5 (by decide) (fun h3 => ?_) (fun h3 => ?_)
  · have H := H.1 h3
    refine r_aload_n (k := 0) rfl rfl dX7_changedBy_38 ?_
    refine r_getR (k := 0) (o' := o0 + 10) (i' := 0) ckX7 ho0 rfl (by decide) rfl rfl rfl fl_X7_12 dX7_changedBy_39 ?_
    refine r_getR (k := 0) (o' := o0 + 10) (i' := 1) ckX0 (cl_prog ho0) rfl (by decide) rfl rfl rfl fl_X7_65 dX7_changedBy_42 ?_
    refine r_iload_n (k := 1) rfl rfl dX7_changedBy_45 ?_
    obtain ⟨c4, H⟩ := H
    refine r_iald (cl_prog ho0) rfl rfl c4 dX7_changedBy_46 ?_
    have J : sl_At l mX7_changedBy 65 [(0, vR o0 0), (1, vI x1)] [vI (if M1 (o0 + 10) 1 x1 ≠ 0 then 0 else ishl 1 (M1 (o0 + 10) 6 x1))] M1 Q := by
      refine r_iret rfl (sl_rgite ⟨by decide, by decide⟩ (rg_ishl _ _)) dX7_changedBy_65 ?_
      exact H
    refine r_if_ne (tgt := 64) (hM1 _ _ _) dX7_changedBy_47 (by decide) (fun h5 => ?_) (fun h5 => ?_)
    · refine r_iconst dX7_changedBy_64 ?_
      rw [if_pos h5] at J
      exact J
    · refine r_iconst dX7_changedBy_50 ?_
      refine r_aload_n (k := 0) rfl rfl dX7_changedBy_51 ?_
      refine r_getR (k := 0) (o' := o0 + 10) (i' := 0) ckX7 ho0 rfl (by decide) rfl rfl rfl fl_X7_12 dX7_changedBy_52 ?_
      refine r_getR (k := 5) (o' := o0 + 10) (i' := 6) ckX0 (cl_prog ho0) rfl (by decide) rfl rfl rfl fl_X7_68 dX7_changedBy_55 ?_
      refine r_iload_n (k := 1) rfl rfl dX7_changedBy_58 ?_
      refine r_iald (cl_prog ho0) rfl rfl c4 dX7_changedBy_59 ?_
      refine r_ishl dX7_changedBy_60 ?_
      refine r_goto (tgt := 65) dX7_changedBy_61 (by decide) ?_
      rw [if_neg h5] at J
      exact J
  · have H := H.2 h3
    refine r_aload_n (k := 0) rfl rfl dX7_changedBy_8 ?_
    refine r_getR (k := 0) (o' := o0 + 10) (i' := 0) ckX7 ho0 rfl (by decide) rfl rfl rfl fl_X7_12 dX7_changedBy_9 ?_
    refine r_getR (k := 6) (o' := o0 + 10) (i' := 7) ckX0 (cl_prog ho0) rfl (by decide) rfl rfl rfl fl_X7_75 dX7_changedBy_12 ?_
    refine r_iload_n (k := 1) rfl rfl dX7_changedBy_15 ?_
    obtain ⟨c6, H⟩ := H
    refine r_iald (cl_prog ho0) rfl rfl c6 dX7_changedBy_16 ?_
    refine r_aload_n (k := 0) rfl rfl dX7_changedBy_17 ?_
    refine r_getR (k := 1) (o' := o0) (i' := 2) ckX7 ho0 rfl (by decide) rfl rfl rfl fl_X7_20 dX7_changedBy_18 ?_
    refine r_aload_n (k := 0) rfl rfl dX7_changedBy_21 ?_
    refine r_getR (k := 0) (o' := o0 + 10) (i' := 0) ckX7 ho0 rfl (by decide) rfl rfl rfl fl_X7_12 dX7_changedBy_22 ?_
    refine r_getR (k := 5) (o' := o0 + 10) (i' := 6) ckX0 (cl_prog ho0) rfl (by decide) rfl rfl rfl fl_X7_68 dX7_changedBy_25 ?_
    refine r_iload_n (k := 1) rfl rfl dX7_changedBy_28 ?_
    refine r_iald (cl_prog ho0) rfl rfl c6 dX7_changedBy_29 ?_
    obtain ⟨c7, H⟩ := H
    refine r_aaldR ho0 rfl c7 dX7_changedBy_30 ?_
    refine r_gI (k := 3) (kz := 3) rfl ckX5 (cl_rout ho0 c7) rfl (by decide) rfl rfl fl_X7_45 dX7_changedBy_31 ?_
    refine r_callSN (g := mX9_renamedSet) rfl mkX9_renamedSet msX9_renamedSet mn_X7_81 ⟨by decide, by decide⟩ rfl (Nat.le_of_ble_eq_true rfl) rfl (ok_i (hM1 _ _ _) (ok_i (hM1 _ _ _) ok_n)) dX7_changedBy_34 (sl_afterI (sl_RI.mono (fun y9 M8 gy9 hM8 H => ?_) H))
    refine r_iret rfl gy9 dX7_changedBy_37 ?_
    exact H
theorem eX7_changedBy {l : Launch} {M : sl_M} {Q : sl_R} {o0 : Nat} {x1 : Int} (k : sl_At l mX7_changedBy 0 [(0, vR o0 0), (1, vI x1)] [] M Q) : sl_Runs l mX7_changedBy [vR o0 0, vI x1] M Q := sl_Runs.of (ls := [(0, vR o0 0), (1, vI x1)]) rfl rfl (fun _ => rfl) (fun _ => Nat.le_of_ble_eq_true rfl) rfl (k)
theorem dX7_buildLifted_0 : decode cX7_buildLifted 0 = .ok (.iconst 0, 1) := by decide +kernel
theorem dX7_buildLifted_1 : decode cX7_buildLifted 1 = .ok (.istore 4, 2) := by decide +kernel
theorem dX7_buildLifted_3 : decode cX7_buildLifted 3 = .ok (.iload 4, 2) := by decide +kernel
theorem dX7_buildLifted_5 : decode cX7_buildLifted 5 = .ok (.aload_n 1, 1) := by decide +kernel
theorem dX7_buildLifted_6 : decode cX7_buildLifted 6 = .ok (.getfield 29, 3) := by decide +kernel
theorem dX7_buildLifted_9 : decode cX7_buildLifted 9 = .ok (.if_icmp .ge 26, 3) := by decide +kernel
theorem dX7_buildLifted_12 : decode cX7_buildLifted 12 = .ok (.aload_n 0, 1) := by decide +kernel
theorem dX7_buildLifted_13 : decode cX7_buildLifted 13 = .ok (.getfield 20, 3) := by decide +kernel
theorem dX7_buildLifted_16 : decode cX7_buildLifted 16 = .ok (.iload 4, 2) := by decide +kernel
theorem dX7_buildLifted_18 : decode cX7_buildLifted 18 = .ok (.aaload, 1) := by decide +kernel
theorem dX7_buildLifted_19 : decode cX7_buildLifted 19 = .ok (.aload_n 1, 1) := by decide +kernel
theorem dX7_buildLifted_20 : decode cX7_buildLifted 20 = .ok (.getfield 20, 3) := by decide +kernel
theorem dX7_buildLifted_23 : decode cX7_buildLifted 23 = .ok (.iload 4, 2) := by decide +kernel
theorem dX7_buildLifted_25 : decode cX7_buildLifted 25 = .ok (.aaload, 1) := by decide +kernel
theorem dX7_buildLifted_26 : decode cX7_buildLifted 26 = .ok (.invokevirtual 85, 3) := by decide +kernel
theorem dX7_buildLifted_29 : decode cX7_buildLifted 29 = .ok (.iinc 4 1, 3) := by decide +kernel
theorem dX7_buildLifted_32 : decode cX7_buildLifted 32 = .ok (.goto (-29), 3) := by decide +kernel
theorem dX7_buildLifted_35 : decode cX7_buildLifted 35 = .ok (.aload_n 1, 1) := by decide +kernel
theorem dX7_buildLifted_36 : decode cX7_buildLifted 36 = .ok (.getfield 29, 3) := by decide +kernel
theorem dX7_buildLifted_39 : decode cX7_buildLifted 39 = .ok (.iconst 2, 1) := by decide +kernel
theorem dX7_buildLifted_40 : decode cX7_buildLifted 40 = .ok (.invokestatic 89, 3) := by decide +kernel
theorem dX7_buildLifted_43 : decode cX7_buildLifted 43 = .ok (.istore 4, 2) := by decide +kernel
theorem dX7_buildLifted_45 : decode cX7_buildLifted 45 = .ok (.aload_n 0, 1) := by decide +kernel
theorem dX7_buildLifted_46 : decode cX7_buildLifted 46 = .ok (.getfield 20, 3) := by decide +kernel
theorem dX7_buildLifted_49 : decode cX7_buildLifted 49 = .ok (.iload 4, 2) := by decide +kernel
theorem dX7_buildLifted_51 : decode cX7_buildLifted 51 = .ok (.aaload, 1) := by decide +kernel
theorem dX7_buildLifted_52 : decode cX7_buildLifted 52 = .ok (.aload_n 1, 1) := by decide +kernel
theorem dX7_buildLifted_53 : decode cX7_buildLifted 53 = .ok (.getfield 12, 3) := by decide +kernel
theorem dX7_buildLifted_56 : decode cX7_buildLifted 56 = .ok (.aload_n 2, 1) := by decide +kernel
theorem dX7_buildLifted_57 : decode cX7_buildLifted 57 = .ok (.invokevirtual 94, 3) := by decide +kernel
theorem dX7_buildLifted_60 : decode cX7_buildLifted 60 = .ok (.aload_n 0, 1) := by decide +kernel
theorem dX7_buildLifted_61 : decode cX7_buildLifted 61 = .ok (.iload 4, 2) := by decide +kernel
theorem dX7_buildLifted_63 : decode cX7_buildLifted 63 = .ok (.iconst 1, 1) := by decide +kernel
theorem dX7_buildLifted_64 : decode cX7_buildLifted 64 = .ok (.iadd, 1) := by decide +kernel
theorem dX7_buildLifted_65 : decode cX7_buildLifted 65 = .ok (.putfield 29, 3) := by decide +kernel
theorem dX7_buildLifted_68 : decode cX7_buildLifted 68 = .ok (.aload_n 0, 1) := by decide +kernel
theorem dX7_buildLifted_69 : decode cX7_buildLifted 69 = .ok (.getfield 12, 3) := by decide +kernel
theorem dX7_buildLifted_72 : decode cX7_buildLifted 72 = .ok (.invokevirtual 98, 3) := by decide +kernel
theorem dX7_buildLifted_75 : decode cX7_buildLifted 75 = .ok (.aload_n 2, 1) := by decide +kernel
theorem dX7_buildLifted_76 : decode cX7_buildLifted 76 = .ok (.getfield 101, 3) := by decide +kernel
theorem dX7_buildLifted_79 : decode cX7_buildLifted 79 = .ok (.aload_n 2, 1) := by decide +kernel
theorem dX7_buildLifted_80 : decode cX7_buildLifted 80 = .ok (.getfield 106, 3) := by decide +kernel
theorem dX7_buildLifted_83 : decode cX7_buildLifted 83 = .ok (.isub, 1) := by decide +kernel
theorem dX7_buildLifted_84 : decode cX7_buildLifted 84 = .ok (.iconst 1, 1) := by decide +kernel
theorem dX7_buildLifted_85 : decode cX7_buildLifted 85 = .ok (.iadd, 1) := by decide +kernel
theorem dX7_buildLifted_86 : decode cX7_buildLifted 86 = .ok (.istore 5, 2) := by decide +kernel
theorem dX7_buildLifted_88 : decode cX7_buildLifted 88 = .ok (.iconst 0, 1) := by decide +kernel
theorem dX7_buildLifted_89 : decode cX7_buildLifted 89 = .ok (.istore 6, 2) := by decide +kernel
theorem dX7_buildLifted_91 : decode cX7_buildLifted 91 = .ok (.iconst 0, 1) := by decide +kernel
theorem dX7_buildLifted_92 : decode cX7_buildLifted 92 = .ok (.istore 7, 2) := by decide +kernel
theorem dX7_buildLifted_94 : decode cX7_buildLifted 94 = .ok (.iload 7, 2) := by decide +kernel
theorem dX7_buildLifted_96 : decode cX7_buildLifted 96 = .ok (.bipush 40, 2) := by decide +kernel
theorem dX7_buildLifted_98 : decode cX7_buildLifted 98 = .ok (.if_icmp .ge 105, 3) := by decide +kernel
theorem dX7_buildLifted_101 : decode cX7_buildLifted 101 = .ok (.iload 6, 2) := by decide +kernel
theorem dX7_buildLifted_103 : decode cX7_buildLifted 103 = .ok (.aload_n 1, 1) := by decide +kernel
theorem dX7_buildLifted_104 : decode cX7_buildLifted 104 = .ok (.getfield 12, 3) := by decide +kernel
theorem dX7_buildLifted_107 : decode cX7_buildLifted 107 = .ok (.getfield 51, 3) := by decide +kernel
theorem dX7_buildLifted_110 : decode cX7_buildLifted 110 = .ok (.if_icmp .ge 93, 3) := by decide +kernel
theorem dX7_buildLifted_113 : decode cX7_buildLifted 113 = .ok (.iload 6, 2) := by decide +kernel
theorem dX7_buildLifted_115 : decode cX7_buildLifted 115 = .ok (.aload_n 2, 1) := by decide +kernel
theorem dX7_buildLifted_116 : decode cX7_buildLifted 116 = .ok (.getfield 106, 3) := by decide +kernel
theorem dX7_buildLifted_119 : decode cX7_buildLifted 119 = .ok (.if_icmp .ne 8, 3) := by decide +kernel
theorem dX7_buildLifted_122 : decode cX7_buildLifted 122 = .ok (.ldc 109, 2) := by decide +kernel
theorem dX7_buildLifted_124 : decode cX7_buildLifted 124 = .ok (.goto 9, 3) := by decide +kernel
theorem dX7_buildLifted_127 : decode cX7_buildLifted 127 = .ok (.aload_n 3, 1) := by decide +kernel
theorem dX7_buildLifted_128 : decode cX7_buildLifted 128 = .ok (.iload 6, 2) := by decide +kernel
theorem dX7_buildLifted_130 : decode cX7_buildLifted 130 = .ok (.invokevirtual 110, 3) := by decide +kernel
theorem dX7_buildLifted_133 : decode cX7_buildLifted 133 = .ok (.istore 8, 2) := by decide +kernel
theorem dX7_buildLifted_135 : decode cX7_buildLifted 135 = .ok (.iload 8, 2) := by decide +kernel
theorem dX7_buildLifted_137 : decode cX7_buildLifted 137 = .ok (.iconst (-1), 1) := by decide +kernel
theorem dX7_buildLifted_138 : decode cX7_buildLifted 138 = .ok (.if_icmp .ne 20, 3) := by decide +kernel
theorem dX7_buildLifted_141 : decode cX7_buildLifted 141 = .ok (.aload_n 0, 1) := by decide +kernel
theorem dX7_buildLifted_142 : decode cX7_buildLifted 142 = .ok (.aload_n 1, 1) := by decide +kernel
theorem dX7_buildLifted_143 : decode cX7_buildLifted 143 = .ok (.getfield 12, 3) := by decide +kernel
theorem dX7_buildLifted_146 : decode cX7_buildLifted 146 = .ok (.iload 6, 2) := by decide +kernel
theorem dX7_buildLifted_148 : decode cX7_buildLifted 148 = .ok (.invokevirtual 115, 3) := by decide +kernel
theorem dX7_buildLifted_151 : decode cX7_buildLifted 151 = .ok (.pop, 1) := by decide +kernel
theorem dX7_buildLifted_152 : decode cX7_buildLifted 152 = .ok (.iinc 6 1, 3) := by decide +kernel
theorem dX7_buildLifted_155 : decode cX7_buildLifted 155 = .ok (.goto 42, 3) := by decide +kernel
theorem dX7_buildLifted_158 : decode cX7_buildLifted 158 = .ok (.aload_n 0, 1) := by decide +kernel
theorem dX7_buildLifted_159 : decode cX7_buildLifted 159 = .ok (.aload_n 0, 1) := by decide +kernel
theorem dX7_buildLifted_160 : decode cX7_buildLifted 160 = .ok (.aload_n 1, 1) := by decide +kernel
theorem dX7_buildLifted_161 : decode cX7_buildLifted 161 = .ok (.getfield 12, 3) := by decide +kernel
theorem dX7_buildLifted_164 : decode cX7_buildLifted 164 = .ok (.getfield 119, 3) := by decide +kernel
theorem dX7_buildLifted_167 : decode cX7_buildLifted 167 = .ok (.iload 6, 2) := by decide +kernel
theorem dX7_buildLifted_169 : decode cX7_buildLifted 169 = .ok (.iaload, 1) := by decide +kernel
theorem dX7_buildLifted_170 : decode cX7_buildLifted 170 = .ok (.invokevirtual 122, 3) := by decide +kernel
theorem dX7_buildLifted_173 : decode cX7_buildLifted 173 = .ok (.aload_n 1, 1) := by decide +kernel
theorem dX7_buildLifted_174 : decode cX7_buildLifted 174 = .ok (.getfield 12, 3) := by decide +kernel
theorem dX7_buildLifted_177 : decode cX7_buildLifted 177 = .ok (.getfield 125, 3) := by decide +kernel
theorem dX7_buildLifted_180 : decode cX7_buildLifted 180 = .ok (.iload 6, 2) := by decide +kernel
theorem dX7_buildLifted_182 : decode cX7_buildLifted 182 = .ok (.iaload, 1) := by decide +kernel
theorem dX7_buildLifted_183 : decode cX7_buildLifted 183 = .ok (.iload 4, 2) := by decide +kernel
theorem dX7_buildLifted_185 : decode cX7_buildLifted 185 = .ok (.iload 8, 2) := by decide +kernel
theorem dX7_buildLifted_187 : decode cX7_buildLifted 187 = .ok (.invokevirtual 128, 3) := by decide +kernel
theorem dX7_buildLifted_190 : decode cX7_buildLifted 190 = .ok (.iload 6, 2) := by decide +kernel
theorem dX7_buildLifted_192 : decode cX7_buildLifted 192 = .ok (.iload 5, 2) := by decide +kernel
theorem dX7_buildLifted_194 : decode cX7_buildLifted 194 = .ok (.iadd, 1) := by decide +kernel
theorem dX7_buildLifted_195 : decode cX7_buildLifted 195 = .ok (.istore 6, 2) := by decide +kernel
theorem dX7_buildLifted_197 : decode cX7_buildLifted 197 = .ok (.iinc 7 1, 3) := by decide +kernel
theorem dX7_buildLifted_200 : decode cX7_buildLifted 200 = .ok (.goto (-106), 3) := by decide +kernel
theorem dX7_buildLifted_203 : decode cX7_buildLifted 203 = .ok (.return_, 1) := by decide +kernel
set_option maxHeartbeats 4000000 in
set_option maxRecDepth 10000 in
theorem vX7_buildLifted_0 {l : Launch} {M : sl_M} {Q : sl_R} {o0 o1 o2 : Nat} (ho0 : sl_cls o0 = 7) (ho1 : sl_cls o1 = 7) (ho2 : sl_cls o2 = 6) (H : sl_RM M → sl_At l mX7_buildLifted 3 [(0, vR o0 0), (1, vR o1 0), (2, vR o2 0), (3, vR 8 0), (4, vI 0)] [] M Q) : sl_At l mX7_buildLifted 0 [(0, vR o0 0), (1, vR o1 0), (2, vR o2 0), (3, vR 8 0)] [] M Q := by
  refine sl_At.in (fun hM hls => ?_)
  have H := H hM
  refine r_iconst dX7_buildLifted_0 ?_
  refine r_istore (ls' := [(4, vI 0), (0, vR o0 0), (1, vR o1 0), (2, vR o2 0), (3, vR 8 0)]) ⟨by decide, by decide⟩ (by decide) rfl dX7_buildLifted_1 ?_
  exact sl_At.sub [1, 2, 3, 4, 0] rfl H
set_option maxHeartbeats 4000000 in
set_option maxRecDepth 10000 in
theorem vX7_buildLifted_3 {l : Launch} {M : sl_M} {Q : sl_R} {o0 o1 o2 : Nat} {x4 : Int} (ho0 : sl_cls o0 = 7) (ho1 : sl_cls o1 = 7) (ho2 : sl_cls o2 = 6) (H : sl_RM M → sl_rg x4 → ((M o1 0 2 ≤ x4) → (∀ y2 : Int, y2 = min (M o1 0 2) 2 → (0 ≤ y2 ∧ y2 < 3) ∧ sl_RV l mX5_takeFrom [vR (3 * o0 + y2.toNat) 0, vR (o1 + 10) 0, vR o2 0] M (fun M4 => (sl_rg (y2 + 1)) ∧ (∀ M6, M6 = sl_wr M4 o0 0 2 (y2 + 1) → sl_RV l mX0_empty [vR (o0 + 10) 0] M6 (fun M7 => (sl_rg (M7 o2 0 2 - (M7 o2 0 0) + 1)) ∧ (∀ y9 : Int, y9 = M7 o2 0 2 - (M7 o2 0 0) + 1 → sl_At l mX7_buildLifted 94 [(0, vR o0 0), (1, vR o1 0), (2, vR o2 0), (3, vR 8 0), (4, vI y2), (5, vI y9), (6, vI 0), (7, vI 0)] [] M7 Q)))))) ∧ ((¬ (M o1 0 2 ≤ x4)) → (0 ≤ x4 ∧ x4 < 3) ∧ sl_RV l mX5_copyFrom [vR (3 * o0 + x4.toNat) 0, vR (3 * o1 + x4.toNat) 0] M (fun M11 => (sl_rg (x4 + 1)) ∧ sl_At l mX7_buildLifted 3 [(0, vR o0 0), (1, vR o1 0), (2, vR o2 0), (3, vR 8 0), (4, vI (x4 + 1))] [] M11 Q))) : sl_At l mX7_buildLifted 3 [(0, vR o0 0), (1, vR o1 0), (2, vR o2 0), (3, vR 8 0), (4, vI x4)] [] M Q := by
  refine sl_At.in (fun hM hls => ?_)
  have g4 : sl_rg x4 := hls _ (List.mem_of_getElem? (i := 4) rfl)
  have H := H hM g4
  refine r_iload (k := 4) rfl dX7_buildLifted_3 ?_
  refine r_aload_n (k := 1) rfl rfl dX7_buildLifted_5 ?_
  refine r_gI (k := 2) (kz := 2) rfl ckX7 ho1 rfl (by decide) rfl rfl fl_X7_29 dX7_buildLifted_6 ?_
  refine r_icmp_ge (tgt := 35) g4 (hM _ _ _) dX7_buildLifted_9 (by decide) (fun h1 => ?_) (fun h1 => ?_)
  · have H := H.1 h1
    refine r_aload_n (k := 1) rfl rfl dX7_buildLifted_35 ?_
    refine r_gI (k := 2) (kz := 2) rfl ckX7 ho1 rfl (by decide) rfl rfl fl_X7_29 dX7_buildLifted_36 ?_
    refine r_iconst dX7_buildLifted_39 ?_
    refine r_min (hM _ _ _) ⟨by decide, by decide⟩ ml_X7_89 w_min1 w_min2 w_min3 ⟨by decide, Nat.le_of_ble_eq_true rfl⟩ dX7_buildLifted_40 ?_
    refine r_nm (fun y2 fy2 => ?_)
    have H := H y2 fy2
    have gy2 : sl_rg y2 := by rw [fy2]; exact (sl_rgmin (hM _ _ _) ⟨by decide, by decide⟩)
    refine r_istore (ls' := [(4, vI y2), (0, vR o0 0), (1, vR o1 0), (2, vR o2 0), (3, vR 8 0)]) gy2 (by decide) rfl dX7_buildLifted_43 ?_
    refine r_aload_n (k := 1) rfl rfl dX7_buildLifted_45 ?_
    refine r_getR (k := 1) (o' := o0) (i' := 2) ckX7 ho0 rfl (by decide) rfl rfl rfl fl_X7_20 dX7_buildLifted_46 ?_
    refine r_iload (k := 0) rfl dX7_buildLifted_49 ?_
    obtain ⟨c3, H⟩ := H
    refine r_aaldR ho0 rfl c3 dX7_buildLifted_51 ?_
    refine r_aload_n (k := 2) rfl rfl dX7_buildLifted_52 ?_
    refine r_getR (k := 0) (o' := o1 + 10) (i' := 0) ckX7 ho1 rfl (by decide) rfl rfl rfl fl_X7_12 dX7_buildLifted_53 ?_
    refine r_aload_n (k := 3) rfl rfl dX7_buildLifted_56 ?_
    refine r_callV (g := mX5_takeFrom) ckX5 (cl_rout ho0 c3) rfl rfl rfl mkX5_takeFrom mvX5_takeFrom ml_X7_94 ⟨by decide, by decide⟩ rfl (Nat.le_of_ble_eq_true rfl) rfl (ok_r (ok_r ok_n)) dX7_buildLifted_57 (sl_afterV (sl_RV.mono (fun M4 hM4 H => ?_) H))
    refine r_aload_n (k := 1) rfl rfl dX7_buildLifted_60 ?_
    refine r_iload (k := 0) rfl dX7_buildLifted_61 ?_
    refine r_iconst dX7_buildLifted_63 ?_
    refine r_iadd dX7_buildLifted_64 ?_
    obtain ⟨c5, H⟩ := H
    refine r_pI (k := 2) (kz := 2) rfl ckX7 ho0 rfl (by decide) rfl rfl rfl rfl fl_X7_29 c5 dX7_buildLifted_65 ?_
    refine r_mm (fun M6 e6 => ?_)
    have H := H M6 e6
    have hM6 : sl_RM M6 := by rw [e6]; exact sl_wr_RM hM4 c5
    refine r_aload_n (k := 1) rfl rfl dX7_buildLifted_68 ?_
    refine r_getR (k := 0) (o' := o0 + 10) (i' := 0) ckX7 ho0 rfl (by decide) rfl rfl rfl fl_X7_12 dX7_buildLifted_69 ?_
    refine r_callV (g := mX0_empty) ckX0 (cl_prog ho0) rfl rfl rfl mkX0_empty mvX0_empty ml_X7_98 ⟨by decide, by decide⟩ rfl (Nat.le_of_ble_eq_true rfl) rfl ok_n dX7_buildLifted_72 (sl_afterV (sl_RV.mono (fun M7 hM7 H => ?_) H))
    refine r_aload_n (k := 3) rfl rfl dX7_buildLifted_75 ?_
    refine r_gI (k := 2) (kz := 2) rfl ckX6 ho2 rfl (by decide) rfl rfl fl_X7_101 dX7_buildLifted_76 ?_
    refine r_aload_n (k := 3) rfl rfl dX7_buildLifted_79 ?_
    refine r_gI (k := 0) (kz := 0) rfl ckX6 ho2 rfl (by decide) rfl rfl fl_X7_106 dX7_buildLifted_80 ?_
    refine r_isub dX7_buildLifted_83 ?_
    refine r_iconst dX7_buildLifted_84 ?_
    refine r_iadd dX7_buildLifted_85 ?_
    obtain ⟨c8, H⟩ := H
    refine r_nm (fun y9 fy9 => ?_)
    have H := H y9 fy9
    have gy9 : sl_rg y9 := by rw [fy9]; exact c8
    refine r_istore (ls' := [(5, vI y9), (4, vI y2), (0, vR o0 0), (1, vR o1 0), (2, vR o2 0), (3, vR 8 0)]) gy9 (by decide) rfl dX7_buildLifted_86 ?_
    refine r_iconst dX7_buildLifted_88 ?_
    refine r_istore (ls' := [(6, vI 0), (5, vI y9), (4, vI y2), (0, vR o0 0), (1, vR o1 0), (2, vR o2 0), (3, vR 8 0)]) ⟨by decide, by decide⟩ (by decide) rfl dX7_buildLifted_89 ?_
    refine r_iconst dX7_buildLifted_91 ?_
    refine r_istore (ls' := [(7, vI 0), (6, vI 0), (5, vI y9), (4, vI y2), (0, vR o0 0), (1, vR o1 0), (2, vR o2 0), (3, vR 8 0)]) ⟨by decide, by decide⟩ (by decide) rfl dX7_buildLifted_92 ?_
    exact sl_At.sub [4, 5, 6, 7, 3, 2, 1, 0] rfl H
  · have H := H.2 h1
    refine r_aload_n (k := 0) rfl rfl dX7_buildLifted_12 ?_
    refine r_getR (k := 1) (o' := o0) (i' := 2) ckX7 ho0 rfl (by decide) rfl rfl rfl fl_X7_20 dX7_buildLifted_13 ?_
    refine r_iload (k := 4) rfl dX7_buildLifted_16 ?_
    obtain ⟨c10, H⟩ := H
    refine r_aaldR ho0 rfl c10 dX7_buildLifted_18 ?_
    refine r_aload_n (k := 1) rfl rfl dX7_buildLifted_19 ?_
    refine r_getR (k := 1) (o' := o1) (i' := 2) ckX7 ho1 rfl (by decide) rfl rfl rfl fl_X7_20 dX7_buildLifted_20 ?_
    refine r_iload (k := 4) rfl dX7_buildLifted_23 ?_
    refine r_aaldR ho1 rfl c10 dX7_buildLifted_25 ?_
    refine r_callV (g := mX5_copyFrom) ckX5 (cl_rout ho0 c10) rfl rfl rfl mkX5_copyFrom mvX5_copyFrom ml_X7_85 ⟨by decide, by decide⟩ rfl (Nat.le_of_ble_eq_true rfl) rfl (ok_r ok_n) dX7_buildLifted_26 (sl_afterV (sl_RV.mono (fun M11 hM11 H => ?_) H))
    obtain ⟨c12, H⟩ := H
    refine r_iinc (k := 4) (ls' := [(4, vI (x4 + 1)), (0, vR o0 0), (1, vR o1 0), (2, vR o2 0), (3, vR 8 0)]) rfl c12 (by decide) rfl dX7_buildLifted_29 ?_
    refine r_goto (tgt := 3) dX7_buildLifted_32 (by decide) ?_
    exact sl_At.sub [1, 2, 3, 4, 0] rfl H
set_option maxHeartbeats 4000000 in
set_option maxRecDepth 10000 in
theorem vX7_buildLifted_94 {l : Launch} {M : sl_M} {Q : sl_R} {o0 o1 o2 : Nat} {x4 x5 x6 x7 : Int} (ho0 : sl_cls o0 = 7) (ho1 : sl_cls o1 = 7) (ho2 : sl_cls o2 = 6) (H : sl_RM M → sl_rg x4 → sl_rg x5 → sl_rg x6 → sl_rg x7 → ((40 ≤ x7) → Q none M) ∧ ((¬ (40 ≤ x7)) → ((M (o1 + 10) 0 11 ≤ x6) → Q none M) ∧ ((¬ (M (o1 + 10) 0 11 ≤ x6)) → ((x6 ≠ M o2 0 0) → sl_RI l mX8_renamingAt [vR 8 0, vI x6] M (fun y5 M4 => sl_At l mX7_buildLifted 133 [(0, vR o0 0), (1, vR o1 0), (2, vR o2 0), (3, vR 8 0), (4, vI x4), (5, vI x5), (6, vI x6), (7, vI x7)] [vI y5] M4 Q)) ∧ ((¬ (x6 ≠ M o2 0 0)) → sl_At l mX7_buildLifted 133 [(0, vR o0 0), (1, vR o1 0), (2, vR o2 0), (3, vR 8 0), (4, vI x4), (5, vI x5), (6, vI x6), (7, vI x7)] [vI 16434824] M Q)))) : sl_At l mX7_buildLifted 94 [(0, vR o0 0), (1, vR o1 0), (2, vR o2 0), (3, vR 8 0), (4, vI x4), (5, vI x5), (6, vI x6), (7, vI x7)] [] M Q := by
  refine sl_At.in (fun hM hls => ?_)
  have g4 : sl_rg x4 := hls _ (List.mem_of_getElem? (i := 4) rfl)
  have g5 : sl_rg x5 := hls _ (List.mem_of_getElem? (i := 5) rfl)
  have g6 : sl_rg x6 := hls _ (List.mem_of_getElem? (i := 6) rfl)
  have g7 : sl_rg x7 := hls _ (List.mem_of_getElem? (i := 7) rfl)
  have H := H hM g4 g5 g6 g7
  refine r_iload (k := 7) rfl dX7_buildLifted_94 ?_
  refine r_bipush dX7_buildLifted_96 (by decide) ?_
  refine r_icmp_ge (tgt := 203) g7 ⟨by decide, by decide⟩ dX7_buildLifted_98 (by decide) (fun h1 => ?_) (fun h1 => ?_)
  · have H := H.1 h1
    refine r_vret rfl dX7_buildLifted_203 ?_
    exact H
  · have H := H.2 h1
    refine r_iload (k := 6) rfl dX7_buildLifted_101 ?_
    refine r_aload_n (k := 1) rfl rfl dX7_buildLifted_103 ?_
    refine r_getR (k := 0) (o' := o1 + 10) (i' := 0) ckX7 ho1 rfl (by decide) rfl rfl rfl fl_X7_12 dX7_buildLifted_104 ?_
    refine r_gI (k := 11) (kz := 11) rfl ckX0 (cl_prog ho1) rfl (by decide) rfl rfl fl_X7_51 dX7_buildLifted_107 ?_
    refine r_icmp_ge (tgt := 203) g6 (hM _ _ _) dX7_buildLifted_110 (by decide) (fun h2 => ?_) (fun h2 => ?_)
    · have H := H.1 h2
      refine r_vret rfl dX7_buildLifted_203 ?_
      exact H
    · have H := H.2 h2
      refine r_iload (k := 6) rfl dX7_buildLifted_113 ?_
      refine r_aload_n (k := 2) rfl rfl dX7_buildLifted_115 ?_
      refine r_gI (k := 0) (kz := 0) rfl ckX6 ho2 rfl (by decide) rfl rfl fl_X7_106 dX7_buildLifted_116 ?_
      refine r_icmp_ne (tgt := 127) g6 (hM _ _ _) dX7_buildLifted_119 (by decide) (fun h3 => ?_) (fun h3 => ?_)
      · have H := H.1 h3
        refine r_aload_n (k := 3) rfl rfl dX7_buildLifted_127 ?_
        refine r_iload (k := 6) rfl dX7_buildLifted_128 ?_
        refine r_callV (g := mX8_renamingAt) ckX8 rfl rfl rfl rfl mkX8_renamingAt mvX8_renamingAt ml_X7_110 ⟨by decide, by decide⟩ rfl (Nat.le_of_ble_eq_true rfl) rfl (ok_i g6 ok_n) dX7_buildLifted_130 (sl_afterI (sl_RI.mono (fun y5 M4 gy5 hM4 H => ?_) H))
        exact H
      · have H := H.2 h3
        refine r_ldc (n := 16434824) co_X7_109 dX7_buildLifted_122 ?_
        refine r_goto (tgt := 133) dX7_buildLifted_124 (by decide) ?_
        exact H
set_option maxHeartbeats 4000000 in
set_option maxRecDepth 10000 in
theorem vX7_buildLifted_133 {l : Launch} {M : sl_M} {Q : sl_R} {o0 o1 o2 : Nat} {x4 x5 x6 x7 s0 : Int} (ho0 : sl_cls o0 = 7) (ho1 : sl_cls o1 = 7) (ho2 : sl_cls o2 = 6) (gs0 : sl_rg s0) (H : sl_RM M → sl_rg x4 → sl_rg x5 → sl_rg x6 → sl_rg x7 → ((s0 ≠ (-1)) → (0 ≤ x6 ∧ x6 < 40) ∧ sl_RI l mX7_placeOf [vR o0 0, vI (M (o1 + 10) 2 x6)] M (fun y4 M3 => sl_RV l mX7_addCall [vR o0 0, vI y4, vI (M3 (o1 + 10) 4 x6), vI x4, vI s0] M3 (fun M5 => (sl_rg (x6 + x5)) ∧ (∀ y7 : Int, y7 = x6 + x5 → (sl_rg (x7 + 1)) ∧ sl_At l mX7_buildLifted 94 [(0, vR o0 0), (1, vR o1 0), (2, vR o2 0), (3, vR 8 0), (4, vI x4), (5, vI x5), (6, vI y7), (7, vI (x7 + 1))] [] M5 Q)))) ∧ ((¬ (s0 ≠ (-1))) → sl_RI l mX7_keep [vR o0 0, vR (o1 + 10) 0, vI x6] M (fun y10 M9 => (sl_rg (x6 + 1)) ∧ (sl_rg (x7 + 1)) ∧ sl_At l mX7_buildLifted 94 [(0, vR o0 0), (1, vR o1 0), (2, vR o2 0), (3, vR 8 0), (4, vI x4), (5, vI x5), (6, vI (x6 + 1)), (7, vI (x7 + 1))] [] M9 Q))) : sl_At l mX7_buildLifted 133 [(0, vR o0 0), (1, vR o1 0), (2, vR o2 0), (3, vR 8 0), (4, vI x4), (5, vI x5), (6, vI x6), (7, vI x7)] [vI s0] M Q := by
  refine sl_At.in (fun hM hls => ?_)
  have g4 : sl_rg x4 := hls _ (List.mem_of_getElem? (i := 4) rfl)
  have g5 : sl_rg x5 := hls _ (List.mem_of_getElem? (i := 5) rfl)
  have g6 : sl_rg x6 := hls _ (List.mem_of_getElem? (i := 6) rfl)
  have g7 : sl_rg x7 := hls _ (List.mem_of_getElem? (i := 7) rfl)
  have H := H hM g4 g5 g6 g7
  refine r_istore (ls' := [(8, vI s0), (0, vR o0 0), (1, vR o1 0), (2, vR o2 0), (3, vR 8 0), (4, vI x4), (5, vI x5), (6, vI x6), (7, vI x7)]) gs0 (by decide) rfl dX7_buildLifted_133 ?_
  refine r_iload (k := 0) rfl dX7_buildLifted_135 ?_
  refine r_iconst dX7_buildLifted_137 ?_
  refine r_icmp_ne (tgt := 158) gs0 ⟨by decide, by decide⟩ dX7_buildLifted_138 (by decide) (fun h1 => ?_) (fun h1 => ?_)
  · have H := H.1 h1
    refine r_aload_n (k := 1) rfl rfl dX7_buildLifted_158 ?_
    refine r_aload_n (k := 1) rfl rfl dX7_buildLifted_159 ?_
    refine r_aload_n (k := 2) rfl rfl dX7_buildLifted_160 ?_
    refine r_getR (k := 0) (o' := o1 + 10) (i' := 0) ckX7 ho1 rfl (by decide) rfl rfl rfl fl_X7_12 dX7_buildLifted_161 ?_
    refine r_getR (k := 1) (o' := o1 + 10) (i' := 2) ckX0 (cl_prog ho1) rfl (by decide) rfl rfl rfl fl_X7_119 dX7_buildLifted_164 ?_
    refine r_iload (k := 7) rfl dX7_buildLifted_167 ?_
    obtain ⟨c2, H⟩ := H
    refine r_iald (cl_prog ho1) rfl rfl c2 dX7_buildLifted_169 ?_
    refine r_callV (g := mX7_placeOf) ckX7 ho0 rfl rfl rfl mkX7_placeOf mvX7_placeOf ml_X7_122 ⟨by decide, by decide⟩ rfl (Nat.le_of_ble_eq_true rfl) rfl (ok_i (hM _ _ _) ok_n) dX7_buildLifted_170 (sl_afterI (sl_RI.mono (fun y4 M3 gy4 hM3 H => ?_) H))
    refine r_aload_n (k := 2) rfl rfl dX7_buildLifted_173 ?_
    refine r_getR (k := 0) (o' := o1 + 10) (i' := 0) ckX7 ho1 rfl (by decide) rfl rfl rfl fl_X7_12 dX7_buildLifted_174 ?_
    refine r_getR (k := 3) (o' := o1 + 10) (i' := 4) ckX0 (cl_prog ho1) rfl (by decide) rfl rfl rfl fl_X7_125 dX7_buildLifted_177 ?_
    refine r_iload (k := 7) rfl dX7_buildLifted_180 ?_
    refine r_iald (cl_prog ho1) rfl rfl c2 dX7_buildLifted_182 ?_
    refine r_iload (k := 5) rfl dX7_buildLifted_183 ?_
    refine r_iload (k := 0) rfl dX7_buildLifted_185 ?_
    refine r_callV (g := mX7_addCall) ckX7 ho0 rfl rfl rfl mkX7_addCall mvX7_addCall ml_X7_128 ⟨by decide, by decide⟩ rfl (Nat.le_of_ble_eq_true rfl) rfl (ok_i gy4 (ok_i (hM3 _ _ _) (ok_i g4 (ok_i gs0 ok_n)))) dX7_buildLifted_187 (sl_afterV (sl_RV.mono (fun M5 hM5 H => ?_) H))
    refine r_iload (k := 7) rfl dX7_buildLifted_190 ?_
    refine r_iload (k := 6) rfl dX7_buildLifted_192 ?_
    refine r_iadd dX7_buildLifted_194 ?_
    obtain ⟨c6, H⟩ := H
    refine r_nm (fun y7 fy7 => ?_)
    have H := H y7 fy7
    have gy7 : sl_rg y7 := by rw [fy7]; exact c6
    refine r_istore (ls' := [(6, vI y7), (8, vI s0), (0, vR o0 0), (1, vR o1 0), (2, vR o2 0), (3, vR 8 0), (4, vI x4), (5, vI x5), (7, vI x7)]) gy7 (by decide) rfl dX7_buildLifted_195 ?_
    obtain ⟨c8, H⟩ := H
    refine r_iinc (k := 8) (ls' := [(7, vI (x7 + 1)), (6, vI y7), (8, vI s0), (0, vR o0 0), (1, vR o1 0), (2, vR o2 0), (3, vR 8 0), (4, vI x4), (5, vI x5)]) rfl c8 (by decide) rfl dX7_buildLifted_197 ?_
    refine r_goto (tgt := 94) dX7_buildLifted_200 (by decide) ?_
    exact sl_At.sub [3, 4, 5, 6, 7, 8, 1, 0] rfl H
  · have H := H.2 h1
    refine r_aload_n (k := 1) rfl rfl dX7_buildLifted_141 ?_
    refine r_aload_n (k := 2) rfl rfl dX7_buildLifted_142 ?_
    refine r_getR (k := 0) (o' := o1 + 10) (i' := 0) ckX7 ho1 rfl (by decide) rfl rfl rfl fl_X7_12 dX7_buildLifted_143 ?_
    refine r_iload (k := 7) rfl dX7_buildLifted_146 ?_
    refine r_callV (g := mX7_keep) ckX7 ho0 rfl rfl rfl mkX7_keep mvX7_keep ml_X7_115 ⟨by decide, by decide⟩ rfl (Nat.le_of_ble_eq_true rfl) rfl (ok_r (ok_i g6 ok_n)) dX7_buildLifted_148 (sl_afterI (sl_RI.mono (fun y10 M9 gy10 hM9 H => ?_) H))
    refine r_pop rfl dX7_buildLifted_151 ?_
    obtain ⟨c11, H⟩ := H
    refine r_iinc (k := 7) (ls' := [(6, vI (x6 + 1)), (8, vI s0), (0, vR o0 0), (1, vR o1 0), (2, vR o2 0), (3, vR 8 0), (4, vI x4), (5, vI x5), (7, vI x7)]) rfl c11 (by decide) rfl dX7_buildLifted_152 ?_
    refine r_goto (tgt := 197) dX7_buildLifted_155 (by decide) ?_
    obtain ⟨c12, H⟩ := H
    refine r_iinc (k := 8) (ls' := [(7, vI (x7 + 1)), (6, vI (x6 + 1)), (8, vI s0), (0, vR o0 0), (1, vR o1 0), (2, vR o2 0), (3, vR 8 0), (4, vI x4), (5, vI x5)]) rfl c12 (by decide) rfl dX7_buildLifted_197 ?_
    refine r_goto (tgt := 94) dX7_buildLifted_200 (by decide) ?_
    exact sl_At.sub [3, 4, 5, 6, 7, 8, 1, 0] rfl H
theorem eX7_buildLifted {l : Launch} {M : sl_M} {Q : sl_R} {o0 o1 o2 : Nat} (k : sl_At l mX7_buildLifted 0 [(0, vR o0 0), (1, vR o1 0), (2, vR o2 0), (3, vR 8 0)] [] M Q) : sl_Runs l mX7_buildLifted [vR o0 0, vR o1 0, vR o2 0, vR 8 0] M Q := sl_Runs.of (ls := [(0, vR o0 0), (1, vR o1 0), (2, vR o2 0), (3, vR 8 0)]) rfl rfl (fun _ => rfl) (fun _ => Nat.le_of_ble_eq_true rfl) rfl (k)
theorem dX7_buildSettled_0 : decode cX7_buildSettled 0 = .ok (.aload_n 0, 1) := by decide +kernel
theorem dX7_buildSettled_1 : decode cX7_buildSettled 1 = .ok (.iconst 0, 1) := by decide +kernel
theorem dX7_buildSettled_2 : decode cX7_buildSettled 2 = .ok (.putfield 29, 3) := by decide +kernel
theorem dX7_buildSettled_5 : decode cX7_buildSettled 5 = .ok (.iconst 0, 1) := by decide +kernel
theorem dX7_buildSettled_6 : decode cX7_buildSettled 6 = .ok (.istore_n 3, 1) := by decide +kernel
theorem dX7_buildSettled_7 : decode cX7_buildSettled 7 = .ok (.iload_n 3, 1) := by decide +kernel
theorem dX7_buildSettled_8 : decode cX7_buildSettled 8 = .ok (.aload_n 1, 1) := by decide +kernel
theorem dX7_buildSettled_9 : decode cX7_buildSettled 9 = .ok (.getfield 29, 3) := by decide +kernel
theorem dX7_buildSettled_12 : decode cX7_buildSettled 12 = .ok (.if_icmp .ge 42, 3) := by decide +kernel
theorem dX7_buildSettled_15 : decode cX7_buildSettled 15 = .ok (.iload_n 3, 1) := by decide +kernel
theorem dX7_buildSettled_16 : decode cX7_buildSettled 16 = .ok (.iload_n 2, 1) := by decide +kernel
theorem dX7_buildSettled_17 : decode cX7_buildSettled 17 = .ok (.if_icmp .eq 31, 3) := by decide +kernel
theorem dX7_buildSettled_20 : decode cX7_buildSettled 20 = .ok (.aload_n 0, 1) := by decide +kernel
theorem dX7_buildSettled_21 : decode cX7_buildSettled 21 = .ok (.getfield 20, 3) := by decide +kernel
theorem dX7_buildSettled_24 : decode cX7_buildSettled 24 = .ok (.aload_n 0, 1) := by decide +kernel
theorem dX7_buildSettled_25 : decode cX7_buildSettled 25 = .ok (.getfield 29, 3) := by decide +kernel
theorem dX7_buildSettled_28 : decode cX7_buildSettled 28 = .ok (.aaload, 1) := by decide +kernel
theorem dX7_buildSettled_29 : decode cX7_buildSettled 29 = .ok (.aload_n 1, 1) := by decide +kernel
theorem dX7_buildSettled_30 : decode cX7_buildSettled 30 = .ok (.getfield 20, 3) := by decide +kernel
theorem dX7_buildSettled_33 : decode cX7_buildSettled 33 = .ok (.iload_n 3, 1) := by decide +kernel
theorem dX7_buildSettled_34 : decode cX7_buildSettled 34 = .ok (.aaload, 1) := by decide +kernel
theorem dX7_buildSettled_35 : decode cX7_buildSettled 35 = .ok (.invokevirtual 85, 3) := by decide +kernel
theorem dX7_buildSettled_38 : decode cX7_buildSettled 38 = .ok (.aload_n 0, 1) := by decide +kernel
theorem dX7_buildSettled_39 : decode cX7_buildSettled 39 = .ok (.dup, 1) := by decide +kernel
theorem dX7_buildSettled_40 : decode cX7_buildSettled 40 = .ok (.getfield 29, 3) := by decide +kernel
theorem dX7_buildSettled_43 : decode cX7_buildSettled 43 = .ok (.iconst 1, 1) := by decide +kernel
theorem dX7_buildSettled_44 : decode cX7_buildSettled 44 = .ok (.iadd, 1) := by decide +kernel
theorem dX7_buildSettled_45 : decode cX7_buildSettled 45 = .ok (.putfield 29, 3) := by decide +kernel
theorem dX7_buildSettled_48 : decode cX7_buildSettled 48 = .ok (.iinc 3 1, 3) := by decide +kernel
theorem dX7_buildSettled_51 : decode cX7_buildSettled 51 = .ok (.goto (-44), 3) := by decide +kernel
theorem dX7_buildSettled_54 : decode cX7_buildSettled 54 = .ok (.aload_n 0, 1) := by decide +kernel
theorem dX7_buildSettled_55 : decode cX7_buildSettled 55 = .ok (.getfield 12, 3) := by decide +kernel
theorem dX7_buildSettled_58 : decode cX7_buildSettled 58 = .ok (.invokevirtual 98, 3) := by decide +kernel
theorem dX7_buildSettled_61 : decode cX7_buildSettled 61 = .ok (.aload_n 1, 1) := by decide +kernel
theorem dX7_buildSettled_62 : decode cX7_buildSettled 62 = .ok (.getfield 20, 3) := by decide +kernel
theorem dX7_buildSettled_65 : decode cX7_buildSettled 65 = .ok (.iload_n 2, 1) := by decide +kernel
theorem dX7_buildSettled_66 : decode cX7_buildSettled 66 = .ok (.aaload, 1) := by decide +kernel
theorem dX7_buildSettled_67 : decode cX7_buildSettled 67 = .ok (.getfield 48, 3) := by decide +kernel
theorem dX7_buildSettled_70 : decode cX7_buildSettled 70 = .ok (.astore_n 3, 1) := by decide +kernel
theorem dX7_buildSettled_71 : decode cX7_buildSettled 71 = .ok (.iconst 0, 1) := by decide +kernel
theorem dX7_buildSettled_72 : decode cX7_buildSettled 72 = .ok (.istore 4, 2) := by decide +kernel
theorem dX7_buildSettled_74 : decode cX7_buildSettled 74 = .ok (.iload 4, 2) := by decide +kernel
theorem dX7_buildSettled_76 : decode cX7_buildSettled 76 = .ok (.aload_n 1, 1) := by decide +kernel
theorem dX7_buildSettled_77 : decode cX7_buildSettled 77 = .ok (.getfield 12, 3) := by decide +kernel
theorem dX7_buildSettled_80 : decode cX7_buildSettled 80 = .ok (.getfield 51, 3) := by decide +kernel
theorem dX7_buildSettled_83 : decode cX7_buildSettled 83 = .ok (.if_icmp .ge 136, 3) := by decide +kernel
theorem dX7_buildSettled_86 : decode cX7_buildSettled 86 = .ok (.aload_n 1, 1) := by decide +kernel
theorem dX7_buildSettled_87 : decode cX7_buildSettled 87 = .ok (.iload 4, 2) := by decide +kernel
theorem dX7_buildSettled_89 : decode cX7_buildSettled 89 = .ok (.iload_n 2, 1) := by decide +kernel
theorem dX7_buildSettled_90 : decode cX7_buildSettled 90 = .ok (.invokevirtual 61, 3) := by decide +kernel
theorem dX7_buildSettled_93 : decode cX7_buildSettled 93 = .ok (.ifCond .eq 59, 3) := by decide +kernel
theorem dX7_buildSettled_96 : decode cX7_buildSettled 96 = .ok (.aload_n 0, 1) := by decide +kernel
theorem dX7_buildSettled_97 : decode cX7_buildSettled 97 = .ok (.aload_n 1, 1) := by decide +kernel
theorem dX7_buildSettled_98 : decode cX7_buildSettled 98 = .ok (.getfield 12, 3) := by decide +kernel
theorem dX7_buildSettled_101 : decode cX7_buildSettled 101 = .ok (.getfield 119, 3) := by decide +kernel
theorem dX7_buildSettled_104 : decode cX7_buildSettled 104 = .ok (.iload 4, 2) := by decide +kernel
theorem dX7_buildSettled_106 : decode cX7_buildSettled 106 = .ok (.iaload, 1) := by decide +kernel
theorem dX7_buildSettled_107 : decode cX7_buildSettled 107 = .ok (.invokevirtual 122, 3) := by decide +kernel
theorem dX7_buildSettled_110 : decode cX7_buildSettled 110 = .ok (.istore 5, 2) := by decide +kernel
theorem dX7_buildSettled_112 : decode cX7_buildSettled 112 = .ok (.aload_n 0, 1) := by decide +kernel
theorem dX7_buildSettled_113 : decode cX7_buildSettled 113 = .ok (.getfield 12, 3) := by decide +kernel
theorem dX7_buildSettled_116 : decode cX7_buildSettled 116 = .ok (.aload_n 3, 1) := by decide +kernel
theorem dX7_buildSettled_117 : decode cX7_buildSettled 117 = .ok (.iconst 0, 1) := by decide +kernel
theorem dX7_buildSettled_118 : decode cX7_buildSettled 118 = .ok (.aload_n 3, 1) := by decide +kernel
theorem dX7_buildSettled_119 : decode cX7_buildSettled 119 = .ok (.getfield 51, 3) := by decide +kernel
theorem dX7_buildSettled_122 : decode cX7_buildSettled 122 = .ok (.iconst 1, 1) := by decide +kernel
theorem dX7_buildSettled_123 : decode cX7_buildSettled 123 = .ok (.isub, 1) := by decide +kernel
theorem dX7_buildSettled_124 : decode cX7_buildSettled 124 = .ok (.iload 5, 2) := by decide +kernel
theorem dX7_buildSettled_126 : decode cX7_buildSettled 126 = .ok (.aload_n 1, 1) := by decide +kernel
theorem dX7_buildSettled_127 : decode cX7_buildSettled 127 = .ok (.getfield 12, 3) := by decide +kernel
theorem dX7_buildSettled_130 : decode cX7_buildSettled 130 = .ok (.getfield 125, 3) := by decide +kernel
theorem dX7_buildSettled_133 : decode cX7_buildSettled 133 = .ok (.iload 4, 2) := by decide +kernel
theorem dX7_buildSettled_135 : decode cX7_buildSettled 135 = .ok (.iaload, 1) := by decide +kernel
theorem dX7_buildSettled_136 : decode cX7_buildSettled 136 = .ok (.aload_n 1, 1) := by decide +kernel
theorem dX7_buildSettled_137 : decode cX7_buildSettled 137 = .ok (.getfield 12, 3) := by decide +kernel
theorem dX7_buildSettled_140 : decode cX7_buildSettled 140 = .ok (.getfield 75, 3) := by decide +kernel
theorem dX7_buildSettled_143 : decode cX7_buildSettled 143 = .ok (.iload 4, 2) := by decide +kernel
theorem dX7_buildSettled_145 : decode cX7_buildSettled 145 = .ok (.iaload, 1) := by decide +kernel
theorem dX7_buildSettled_146 : decode cX7_buildSettled 146 = .ok (.invokevirtual 132, 3) := by decide +kernel
theorem dX7_buildSettled_149 : decode cX7_buildSettled 149 = .ok (.goto 64, 3) := by decide +kernel
theorem dX7_buildSettled_152 : decode cX7_buildSettled 152 = .ok (.aload_n 0, 1) := by decide +kernel
theorem dX7_buildSettled_153 : decode cX7_buildSettled 153 = .ok (.aload_n 1, 1) := by decide +kernel
theorem dX7_buildSettled_154 : decode cX7_buildSettled 154 = .ok (.getfield 12, 3) := by decide +kernel
theorem dX7_buildSettled_157 : decode cX7_buildSettled 157 = .ok (.iload 4, 2) := by decide +kernel
theorem dX7_buildSettled_159 : decode cX7_buildSettled 159 = .ok (.invokevirtual 115, 3) := by decide +kernel
theorem dX7_buildSettled_162 : decode cX7_buildSettled 162 = .ok (.istore 5, 2) := by decide +kernel
theorem dX7_buildSettled_164 : decode cX7_buildSettled 164 = .ok (.iload 5, 2) := by decide +kernel
theorem dX7_buildSettled_166 : decode cX7_buildSettled 166 = .ok (.iconst (-1), 1) := by decide +kernel
theorem dX7_buildSettled_167 : decode cX7_buildSettled 167 = .ok (.if_icmp .eq 46, 3) := by decide +kernel
theorem dX7_buildSettled_170 : decode cX7_buildSettled 170 = .ok (.aload_n 0, 1) := by decide +kernel
theorem dX7_buildSettled_171 : decode cX7_buildSettled 171 = .ok (.getfield 12, 3) := by decide +kernel
theorem dX7_buildSettled_174 : decode cX7_buildSettled 174 = .ok (.getfield 65, 3) := by decide +kernel
theorem dX7_buildSettled_177 : decode cX7_buildSettled 177 = .ok (.iload 5, 2) := by decide +kernel
theorem dX7_buildSettled_179 : decode cX7_buildSettled 179 = .ok (.iaload, 1) := by decide +kernel
theorem dX7_buildSettled_180 : decode cX7_buildSettled 180 = .ok (.bipush 7, 2) := by decide +kernel
theorem dX7_buildSettled_182 : decode cX7_buildSettled 182 = .ok (.if_icmp .ne 31, 3) := by decide +kernel
theorem dX7_buildSettled_185 : decode cX7_buildSettled 185 = .ok (.aload_n 0, 1) := by decide +kernel
theorem dX7_buildSettled_186 : decode cX7_buildSettled 186 = .ok (.getfield 12, 3) := by decide +kernel
theorem dX7_buildSettled_189 : decode cX7_buildSettled 189 = .ok (.getfield 68, 3) := by decide +kernel
theorem dX7_buildSettled_192 : decode cX7_buildSettled 192 = .ok (.iload 5, 2) := by decide +kernel
theorem dX7_buildSettled_194 : decode cX7_buildSettled 194 = .ok (.iaload, 1) := by decide +kernel
theorem dX7_buildSettled_195 : decode cX7_buildSettled 195 = .ok (.iload_n 2, 1) := by decide +kernel
theorem dX7_buildSettled_196 : decode cX7_buildSettled 196 = .ok (.if_icmp .le 17, 3) := by decide +kernel
theorem dX7_buildSettled_199 : decode cX7_buildSettled 199 = .ok (.aload_n 0, 1) := by decide +kernel
theorem dX7_buildSettled_200 : decode cX7_buildSettled 200 = .ok (.getfield 12, 3) := by decide +kernel
theorem dX7_buildSettled_203 : decode cX7_buildSettled 203 = .ok (.getfield 68, 3) := by decide +kernel
theorem dX7_buildSettled_206 : decode cX7_buildSettled 206 = .ok (.iload 5, 2) := by decide +kernel
theorem dX7_buildSettled_208 : decode cX7_buildSettled 208 = .ok (.dup2, 1) := by decide +kernel
theorem dX7_buildSettled_209 : decode cX7_buildSettled 209 = .ok (.iaload, 1) := by decide +kernel
theorem dX7_buildSettled_210 : decode cX7_buildSettled 210 = .ok (.iconst 1, 1) := by decide +kernel
theorem dX7_buildSettled_211 : decode cX7_buildSettled 211 = .ok (.isub, 1) := by decide +kernel
theorem dX7_buildSettled_212 : decode cX7_buildSettled 212 = .ok (.iastore, 1) := by decide +kernel
theorem dX7_buildSettled_213 : decode cX7_buildSettled 213 = .ok (.iinc 4 1, 3) := by decide +kernel
theorem dX7_buildSettled_216 : decode cX7_buildSettled 216 = .ok (.goto (-142), 3) := by decide +kernel
theorem dX7_buildSettled_219 : decode cX7_buildSettled 219 = .ok (.return_, 1) := by decide +kernel
set_option maxHeartbeats 4000000 in
set_option maxRecDepth 10000 in
theorem vX7_buildSettled_0 {l : Launch} {M : sl_M} {Q : sl_R} {o0 o1 : Nat} {x2 : Int} (ho0 : sl_cls o0 = 7) (ho1 : sl_cls o1 = 7) (H : sl_RM M → sl_rg x2 → (∀ M1, M1 = sl_wr M o0 0 2 0 → sl_At l mX7_buildSettled 7 [(0, vR o0 0), (1, vR o1 0), (2, vI x2), (3, vI 0)] [] M1 Q)) : sl_At l mX7_buildSettled 0 [(0, vR o0 0), (1, vR o1 0), (2, vI x2)] [] M Q := by
  refine sl_At.in (fun hM hls => ?_)
  have g2 : sl_rg x2 := hls _ (List.mem_of_getElem? (i := 2) rfl)
  have H := H hM g2
  refine r_aload_n (k := 0) rfl rfl dX7_buildSettled_0 ?_
  refine r_iconst dX7_buildSettled_1 ?_
  refine r_pI (k := 2) (kz := 2) rfl ckX7 ho0 rfl (by decide) rfl rfl rfl rfl fl_X7_29 ⟨by decide, by decide⟩ dX7_buildSettled_2 ?_
  refine r_mm (fun M1 e1 => ?_)
  have H := H M1 e1
  have hM1 : sl_RM M1 := by rw [e1]; exact sl_wr_RM hM ⟨by decide, by decide⟩
  refine r_iconst dX7_buildSettled_5 ?_
  refine r_istore_n (ls' := [(3, vI 0), (0, vR o0 0), (1, vR o1 0), (2, vI x2)]) ⟨by decide, by decide⟩ rfl (by decide) rfl dX7_buildSettled_6 ?_
  exact sl_At.sub [1, 2, 3, 0] rfl H
set_option maxHeartbeats 4000000 in
set_option maxRecDepth 10000 in
theorem vX7_buildSettled_7 {l : Launch} {M : sl_M} {Q : sl_R} {o0 o1 : Nat} {x2 x3 : Int} (ho0 : sl_cls o0 = 7) (ho1 : sl_cls o1 = 7) (H : sl_RM M → sl_rg x2 → sl_rg x3 → ((M o1 0 2 ≤ x3) → sl_RV l mX0_empty [vR (o0 + 10) 0] M (fun M2 => (0 ≤ x2 ∧ x2 < 3) ∧ sl_At l mX7_buildSettled 74 [(0, vR o0 0), (1, vR o1 0), (2, vI x2), (3, vR (3 * o1 + x2.toNat + 30) 0), (4, vI 0)] [] M2 Q)) ∧ ((¬ (M o1 0 2 ≤ x3)) → ((x3 = x2) → (sl_rg (x3 + 1)) ∧ sl_At l mX7_buildSettled 7 [(0, vR o0 0), (1, vR o1 0), (2, vI x2), (3, vI (x3 + 1))] [] M Q) ∧ ((¬ (x3 = x2)) → (0 ≤ M o0 0 2 ∧ M o0 0 2 < 3) ∧ (0 ≤ x3 ∧ x3 < 3) ∧ sl_RV l mX5_copyFrom [vR (3 * o0 + (M o0 0 2).toNat) 0, vR (3 * o1 + x3.toNat) 0] M (fun M8 => (sl_rg (M8 o0 0 2 + 1)) ∧ (∀ M10, M10 = sl_wr M8 o0 0 2 (M8 o0 0 2 + 1) → (sl_rg (x3 + 1)) ∧ sl_At l mX7_buildSettled 7 [(0, vR o0 0), (1, vR o1 0), (2, vI x2), (3, vI (x3 + 1))] [] M10 Q))))) : sl_At l mX7_buildSettled 7 [(0, vR o0 0), (1, vR o1 0), (2, vI x2), (3, vI x3)] [] M Q := by
  refine sl_At.in (fun hM hls => ?_)
  have g2 : sl_rg x2 := hls _ (List.mem_of_getElem? (i := 2) rfl)
  have g3 : sl_rg x3 := hls _ (List.mem_of_getElem? (i := 3) rfl)
  have H := H hM g2 g3
  refine r_iload_n (k := 3) rfl rfl dX7_buildSettled_7 ?_
  refine r_aload_n (k := 1) rfl rfl dX7_buildSettled_8 ?_
  refine r_gI (k := 2) (kz := 2) rfl ckX7 ho1 rfl (by decide) rfl rfl fl_X7_29 dX7_buildSettled_9 ?_
  refine r_icmp_ge (tgt := 54) g3 (hM _ _ _) dX7_buildSettled_12 (by decide) (fun h1 => ?_) (fun h1 => ?_)
  · have H := H.1 h1
    refine r_aload_n (k := 0) rfl rfl dX7_buildSettled_54 ?_
    refine r_getR (k := 0) (o' := o0 + 10) (i' := 0) ckX7 ho0 rfl (by decide) rfl rfl rfl fl_X7_12 dX7_buildSettled_55 ?_
    refine r_callV (g := mX0_empty) ckX0 (cl_prog ho0) rfl rfl rfl mkX0_empty mvX0_empty ml_X7_98 ⟨by decide, by decide⟩ rfl (Nat.le_of_ble_eq_true rfl) rfl ok_n dX7_buildSettled_58 (sl_afterV (sl_RV.mono (fun M2 hM2 H => ?_) H))
    refine r_aload_n (k := 1) rfl rfl dX7_buildSettled_61 ?_
    refine r_getR (k := 1) (o' := o1) (i' := 2) ckX7 ho1 rfl (by decide) rfl rfl rfl fl_X7_20 dX7_buildSettled_62 ?_
    refine r_iload_n (k := 2) rfl rfl dX7_buildSettled_65 ?_
    obtain ⟨c3, H⟩ := H
    refine r_aaldR ho1 rfl c3 dX7_buildSettled_66 ?_
    refine r_getR (k := 0) (o' := 3 * o1 + x2.toNat + 30) (i' := 0) ckX5 (cl_rout ho1 c3) rfl (by decide) rfl rfl rfl fl_X7_48 dX7_buildSettled_67 ?_
    refine r_astore_n (ls' := [(3, vR (3 * o1 + x2.toNat + 30) 0), (0, vR o0 0), (1, vR o1 0), (2, vI x2)]) rfl (by decide) rfl dX7_buildSettled_70 ?_
    refine r_iconst dX7_buildSettled_71 ?_
    refine r_istore (ls' := [(4, vI 0), (3, vR (3 * o1 + x2.toNat + 30) 0), (0, vR o0 0), (1, vR o1 0), (2, vI x2)]) ⟨by decide, by decide⟩ (by decide) rfl dX7_buildSettled_72 ?_
    exact sl_At.sub [2, 3, 4, 1, 0] rfl H
  · have H := H.2 h1
    refine r_iload_n (k := 3) rfl rfl dX7_buildSettled_15 ?_
    refine r_iload_n (k := 2) rfl rfl dX7_buildSettled_16 ?_
    refine r_icmp_eq (tgt := 48) g3 g2 dX7_buildSettled_17 (by decide) (fun h4 => ?_) (fun h4 => ?_)
    · have H := H.1 h4
      obtain ⟨c5, H⟩ := H
      refine r_iinc (k := 3) (ls' := [(3, vI (x3 + 1)), (0, vR o0 0), (1, vR o1 0), (2, vI x2)]) rfl c5 (by decide) rfl dX7_buildSettled_48 ?_
      refine r_goto (tgt := 7) dX7_buildSettled_51 (by decide) ?_
      exact sl_At.sub [1, 2, 3, 0] rfl H
    · have H := H.2 h4
      refine r_aload_n (k := 0) rfl rfl dX7_buildSettled_20 ?_
      refine r_getR (k := 1) (o' := o0) (i' := 2) ckX7 ho0 rfl (by decide) rfl rfl rfl fl_X7_20 dX7_buildSettled_21 ?_
      refine r_aload_n (k := 0) rfl rfl dX7_buildSettled_24 ?_
      refine r_gI (k := 2) (kz := 2) rfl ckX7 ho0 rfl (by decide) rfl rfl fl_X7_29 dX7_buildSettled_25 ?_
      obtain ⟨c6, H⟩ := H
      refine r_aaldR ho0 rfl c6 dX7_buildSettled_28 ?_
      refine r_aload_n (k := 1) rfl rfl dX7_buildSettled_29 ?_
      refine r_getR (k := 1) (o' := o1) (i' := 2) ckX7 ho1 rfl (by decide) rfl rfl rfl fl_X7_20 dX7_buildSettled_30 ?_
      refine r_iload_n (k := 3) rfl rfl dX7_buildSettled_33 ?_
      obtain ⟨c7, H⟩ := H
      refine r_aaldR ho1 rfl c7 dX7_buildSettled_34 ?_
      refine r_callV (g := mX5_copyFrom) ckX5 (cl_rout ho0 c6) rfl rfl rfl mkX5_copyFrom mvX5_copyFrom ml_X7_85 ⟨by decide, by decide⟩ rfl (Nat.le_of_ble_eq_true rfl) rfl (ok_r ok_n) dX7_buildSettled_35 (sl_afterV (sl_RV.mono (fun M8 hM8 H => ?_) H))
      refine r_aload_n (k := 0) rfl rfl dX7_buildSettled_38 ?_
      refine r_dup rfl dX7_buildSettled_39 ?_
      refine r_gI (k := 2) (kz := 2) rfl ckX7 ho0 rfl (by decide) rfl rfl fl_X7_29 dX7_buildSettled_40 ?_
      refine r_iconst dX7_buildSettled_43 ?_
      refine r_iadd dX7_buildSettled_44 ?_
      obtain ⟨c9, H⟩ := H
      refine r_pI (k := 2) (kz := 2) rfl ckX7 ho0 rfl (by decide) rfl rfl rfl rfl fl_X7_29 c9 dX7_buildSettled_45 ?_
      refine r_mm (fun M10 e10 => ?_)
      have H := H M10 e10
      have hM10 : sl_RM M10 := by rw [e10]; exact sl_wr_RM hM8 c9
      obtain ⟨c11, H⟩ := H
      refine r_iinc (k := 3) (ls' := [(3, vI (x3 + 1)), (0, vR o0 0), (1, vR o1 0), (2, vI x2)]) rfl c11 (by decide) rfl dX7_buildSettled_48 ?_
      refine r_goto (tgt := 7) dX7_buildSettled_51 (by decide) ?_
      exact sl_At.sub [1, 2, 3, 0] rfl H
set_option maxHeartbeats 4000000 in
set_option maxRecDepth 10000 in
theorem vX7_buildSettled_74 {l : Launch} {M : sl_M} {Q : sl_R} {o0 o1 o3 : Nat} {x2 x4 : Int} (ho0 : sl_cls o0 = 7) (ho1 : sl_cls o1 = 7) (ho3 : sl_cls o3 = 0) (H : sl_RM M → sl_rg x2 → sl_rg x4 → ((M (o1 + 10) 0 11 ≤ x4) → Q none M) ∧ ((¬ (M (o1 + 10) 0 11 ≤ x4)) → sl_RI l mX7_isCallOf [vR o1 0, vI x4, vI x2] M (fun y3 M2 => ((y3 = 0) → sl_RI l mX7_keep [vR o0 0, vR (o1 + 10) 0, vI x4] M2 (fun y6 M5 => ((y6 = (-1)) → (sl_rg (x4 + 1)) ∧ sl_At l mX7_buildSettled 74 [(0, vR o0 0), (1, vR o1 0), (2, vI x2), (3, vR o3 0), (4, vI (x4 + 1))] [] M5 Q) ∧ ((¬ (y6 = (-1))) → (0 ≤ y6 ∧ y6 < 40) ∧ ((M5 (o0 + 10) 1 y6 ≠ 7) → (sl_rg (x4 + 1)) ∧ sl_At l mX7_buildSettled 74 [(0, vR o0 0), (1, vR o1 0), (2, vI x2), (3, vR o3 0), (4, vI (x4 + 1))] [] M5 Q) ∧ ((¬ (M5 (o0 + 10) 1 y6 ≠ 7)) → ((M5 (o0 + 10) 6 y6 ≤ x2) → (sl_rg (x4 + 1)) ∧ sl_At l mX7_buildSettled 74 [(0, vR o0 0), (1, vR o1 0), (2, vI x2), (3, vR o3 0), (4, vI (x4 + 1))] [] M5 Q) ∧ ((¬ (M5 (o0 + 10) 6 y6 ≤ x2)) → (sl_rg (M5 (o0 + 10) 6 y6 - 1)) ∧ (∀ M15, M15 = sl_wr M5 (o0 + 10) 6 y6 (M5 (o0 + 10) 6 y6 - 1) → (sl_rg (x4 + 1)) ∧ sl_At l mX7_buildSettled 74 [(0, vR o0 0), (1, vR o1 0), (2, vI x2), (3, vR o3 0), (4, vI (x4 + 1))] [] M15 Q)))))) ∧ ((¬ (y3 = 0)) → (0 ≤ x4 ∧ x4 < 40) ∧ sl_RI l mX7_placeOf [vR o0 0, vI (M2 (o1 + 10) 2 x4)] M2 (fun y19 M18 => (sl_rg (M18 o3 0 11 - 1)) ∧ sl_RV l mX0_addRange [vR (o0 + 10) 0, vR o3 0, vI 0, vI (M18 o3 0 11 - 1), vI y19, vI (M18 (o1 + 10) 4 x4), vI (M18 (o1 + 10) 7 x4)] M18 (fun M21 => (sl_rg (x4 + 1)) ∧ sl_At l mX7_buildSettled 74 [(0, vR o0 0), (1, vR o1 0), (2, vI x2), (3, vR o3 0), (4, vI (x4 + 1))] [] M21 Q)))))) : sl_At l mX7_buildSettled 74 [(0, vR o0 0), (1, vR o1 0), (2, vI x2), (3, vR o3 0), (4, vI x4)] [] M Q := by
  refine sl_At.in (fun hM hls => ?_)
  have g2 : sl_rg x2 := hls _ (List.mem_of_getElem? (i := 2) rfl)
  have g4 : sl_rg x4 := hls _ (List.mem_of_getElem? (i := 4) rfl)
  have H := H hM g2 g4
  refine r_iload (k := 4) rfl dX7_buildSettled_74 ?_
  refine r_aload_n (k := 1) rfl rfl dX7_buildSettled_76 ?_
  refine r_getR (k := 0) (o' := o1 + 10) (i' := 0) ckX7 ho1 rfl (by decide) rfl rfl rfl fl_X7_12 dX7_buildSettled_77 ?_
  refine r_gI (k := 11) (kz := 11) rfl ckX0 (cl_prog ho1) rfl (by decide) rfl rfl fl_X7_51 dX7_buildSettled_80 ?_
  refine r_icmp_ge (tgt := 219) g4 (hM _ _ _) dX7_buildSettled_83 (by decide) (fun h1 => ?_) (fun h1 => ?_)
  · have H := H.1 h1
    refine r_vret rfl dX7_buildSettled_219 ?_
    exact H
  · have H := H.2 h1
    refine r_aload_n (k := 1) rfl rfl dX7_buildSettled_86 ?_
    refine r_iload (k := 4) rfl dX7_buildSettled_87 ?_
    refine r_iload_n (k := 2) rfl rfl dX7_buildSettled_89 ?_
    refine r_callV (g := mX7_isCallOf) ckX7 ho1 rfl rfl rfl mkX7_isCallOf mvX7_isCallOf ml_X7_61 ⟨by decide, by decide⟩ rfl (Nat.le_of_ble_eq_true rfl) rfl (ok_i g4 (ok_i g2 ok_n)) dX7_buildSettled_90 (sl_afterI (sl_RI.mono (fun y3 M2 gy3 hM2 H => ?_) H))
    refine r_if_eq (tgt := 152) gy3 dX7_buildSettled_93 (by decide) (fun h4 => ?_) (fun h4 => ?_)
    · have H := H.1 h4
      refine r_aload_n (k := 0) rfl rfl dX7_buildSettled_152 ?_
      refine r_aload_n (k := 1) rfl rfl dX7_buildSettled_153 ?_
      refine r_getR (k := 0) (o' := o1 + 10) (i' := 0) ckX7 ho1 rfl (by decide) rfl rfl rfl fl_X7_12 dX7_buildSettled_154 ?_
      refine r_iload (k := 4) rfl dX7_buildSettled_157 ?_
      refine r_callV (g := mX7_keep) ckX7 ho0 rfl rfl rfl mkX7_keep mvX7_keep ml_X7_115 ⟨by decide, by decide⟩ rfl (Nat.le_of_ble_eq_true rfl) rfl (ok_r (ok_i g4 ok_n)) dX7_buildSettled_159 (sl_afterI (sl_RI.mono (fun y6 M5 gy6 hM5 H => ?_) H))
      refine r_istore (ls' := [(5, vI y6), (0, vR o0 0), (1, vR o1 0), (2, vI x2), (3, vR o3 0), (4, vI x4)]) gy6 (by decide) rfl dX7_buildSettled_162 ?_
      refine r_iload (k := 0) rfl dX7_buildSettled_164 ?_
      refine r_iconst dX7_buildSettled_166 ?_
      refine r_icmp_eq (tgt := 213) gy6 ⟨by decide, by decide⟩ dX7_buildSettled_167 (by decide) (fun h7 => ?_) (fun h7 => ?_)
      · have H := H.1 h7
        obtain ⟨c8, H⟩ := H
        refine r_iinc (k := 5) (ls' := [(4, vI (x4 + 1)), (5, vI y6), (0, vR o0 0), (1, vR o1 0), (2, vI x2), (3, vR o3 0)]) rfl c8 (by decide) rfl dX7_buildSettled_213 ?_
        refine r_goto (tgt := 74) dX7_buildSettled_216 (by decide) ?_
        exact sl_At.sub [2, 3, 4, 5, 0] rfl H
      · have H := H.2 h7
        refine r_aload_n (k := 1) rfl rfl dX7_buildSettled_170 ?_
        refine r_getR (k := 0) (o' := o0 + 10) (i' := 0) ckX7 ho0 rfl (by decide) rfl rfl rfl fl_X7_12 dX7_buildSettled_171 ?_
        refine r_getR (k := 0) (o' := o0 + 10) (i' := 1) ckX0 (cl_prog ho0) rfl (by decide) rfl rfl rfl fl_X7_65 dX7_buildSettled_174 ?_
        refine r_iload (k := 0) rfl dX7_buildSettled_177 ?_
        obtain ⟨c9, H⟩ := H
        refine r_iald (cl_prog ho0) rfl rfl c9 dX7_buildSettled_179 ?_
        refine r_bipush dX7_buildSettled_180 (by decide) ?_
        refine r_icmp_ne (tgt := 213) (hM5 _ _ _) ⟨by decide, by decide⟩ dX7_buildSettled_182 (by decide) (fun h10 => ?_) (fun h10 => ?_)
        · have H := H.1 h10
          obtain ⟨c11, H⟩ := H
          refine r_iinc (k := 5) (ls' := [(4, vI (x4 + 1)), (5, vI y6), (0, vR o0 0), (1, vR o1 0), (2, vI x2), (3, vR o3 0)]) rfl c11 (by decide) rfl dX7_buildSettled_213 ?_
          refine r_goto (tgt := 74) dX7_buildSettled_216 (by decide) ?_
          exact sl_At.sub [2, 3, 4, 5, 0] rfl H
        · have H := H.2 h10
          refine r_aload_n (k := 1) rfl rfl dX7_buildSettled_185 ?_
          refine r_getR (k := 0) (o' := o0 + 10) (i' := 0) ckX7 ho0 rfl (by decide) rfl rfl rfl fl_X7_12 dX7_buildSettled_186 ?_
          refine r_getR (k := 5) (o' := o0 + 10) (i' := 6) ckX0 (cl_prog ho0) rfl (by decide) rfl rfl rfl fl_X7_68 dX7_buildSettled_189 ?_
          refine r_iload (k := 0) rfl dX7_buildSettled_192 ?_
          refine r_iald (cl_prog ho0) rfl rfl c9 dX7_buildSettled_194 ?_
          refine r_iload_n (k := 3) rfl rfl dX7_buildSettled_195 ?_
          refine r_icmp_le (tgt := 213) (hM5 _ _ _) g2 dX7_buildSettled_196 (by decide) (fun h12 => ?_) (fun h12 => ?_)
          · have H := H.1 h12
            obtain ⟨c13, H⟩ := H
            refine r_iinc (k := 5) (ls' := [(4, vI (x4 + 1)), (5, vI y6), (0, vR o0 0), (1, vR o1 0), (2, vI x2), (3, vR o3 0)]) rfl c13 (by decide) rfl dX7_buildSettled_213 ?_
            refine r_goto (tgt := 74) dX7_buildSettled_216 (by decide) ?_
            exact sl_At.sub [2, 3, 4, 5, 0] rfl H
          · have H := H.2 h12
            refine r_aload_n (k := 1) rfl rfl dX7_buildSettled_199 ?_
            refine r_getR (k := 0) (o' := o0 + 10) (i' := 0) ckX7 ho0 rfl (by decide) rfl rfl rfl fl_X7_12 dX7_buildSettled_200 ?_
            refine r_getR (k := 5) (o' := o0 + 10) (i' := 6) ckX0 (cl_prog ho0) rfl (by decide) rfl rfl rfl fl_X7_68 dX7_buildSettled_203 ?_
            refine r_iload (k := 0) rfl dX7_buildSettled_206 ?_
            refine r_dup2 rfl rfl dX7_buildSettled_208 ?_
            refine r_iald (cl_prog ho0) rfl rfl c9 dX7_buildSettled_209 ?_
            refine r_iconst dX7_buildSettled_210 ?_
            refine r_isub dX7_buildSettled_211 ?_
            obtain ⟨c14, H⟩ := H
            refine r_iast (cl_prog ho0) rfl rfl c9 c14 dX7_buildSettled_212 ?_
            refine r_mm (fun M15 e15 => ?_)
            have H := H M15 e15
            have hM15 : sl_RM M15 := by rw [e15]; exact sl_wr_RM hM5 c14
            obtain ⟨c16, H⟩ := H
            refine r_iinc (k := 5) (ls' := [(4, vI (x4 + 1)), (5, vI y6), (0, vR o0 0), (1, vR o1 0), (2, vI x2), (3, vR o3 0)]) rfl c16 (by decide) rfl dX7_buildSettled_213 ?_
            refine r_goto (tgt := 74) dX7_buildSettled_216 (by decide) ?_
            exact sl_At.sub [2, 3, 4, 5, 0] rfl H
    · have H := H.2 h4
      refine r_aload_n (k := 0) rfl rfl dX7_buildSettled_96 ?_
      refine r_aload_n (k := 1) rfl rfl dX7_buildSettled_97 ?_
      refine r_getR (k := 0) (o' := o1 + 10) (i' := 0) ckX7 ho1 rfl (by decide) rfl rfl rfl fl_X7_12 dX7_buildSettled_98 ?_
      refine r_getR (k := 1) (o' := o1 + 10) (i' := 2) ckX0 (cl_prog ho1) rfl (by decide) rfl rfl rfl fl_X7_119 dX7_buildSettled_101 ?_
      refine r_iload (k := 4) rfl dX7_buildSettled_104 ?_
      obtain ⟨c17, H⟩ := H
      refine r_iald (cl_prog ho1) rfl rfl c17 dX7_buildSettled_106 ?_
      refine r_callV (g := mX7_placeOf) ckX7 ho0 rfl rfl rfl mkX7_placeOf mvX7_placeOf ml_X7_122 ⟨by decide, by decide⟩ rfl (Nat.le_of_ble_eq_true rfl) rfl (ok_i (hM2 _ _ _) ok_n) dX7_buildSettled_107 (sl_afterI (sl_RI.mono (fun y19 M18 gy19 hM18 H => ?_) H))
      refine r_istore (ls' := [(5, vI y19), (0, vR o0 0), (1, vR o1 0), (2, vI x2), (3, vR o3 0), (4, vI x4)]) gy19 (by decide) rfl dX7_buildSettled_110 ?_
      refine r_aload_n (k := 1) rfl rfl dX7_buildSettled_112 ?_
      refine r_getR (k := 0) (o' := o0 + 10) (i' := 0) ckX7 ho0 rfl (by decide) rfl rfl rfl fl_X7_12 dX7_buildSettled_113 ?_
      refine r_aload_n (k := 4) rfl rfl dX7_buildSettled_116 ?_
      refine r_iconst dX7_buildSettled_117 ?_
      refine r_aload_n (k := 4) rfl rfl dX7_buildSettled_118 ?_
      refine r_gI (k := 11) (kz := 11) rfl ckX0 ho3 rfl (by decide) rfl rfl fl_X7_51 dX7_buildSettled_119 ?_
      refine r_iconst dX7_buildSettled_122 ?_
      refine r_isub dX7_buildSettled_123 ?_
      refine r_iload (k := 0) rfl dX7_buildSettled_124 ?_
      refine r_aload_n (k := 2) rfl rfl dX7_buildSettled_126 ?_
      refine r_getR (k := 0) (o' := o1 + 10) (i' := 0) ckX7 ho1 rfl (by decide) rfl rfl rfl fl_X7_12 dX7_buildSettled_127 ?_
      refine r_getR (k := 3) (o' := o1 + 10) (i' := 4) ckX0 (cl_prog ho1) rfl (by decide) rfl rfl rfl fl_X7_125 dX7_buildSettled_130 ?_
      refine r_iload (k := 5) rfl dX7_buildSettled_133 ?_
      refine r_iald (cl_prog ho1) rfl rfl c17 dX7_buildSettled_135 ?_
      refine r_aload_n (k := 2) rfl rfl dX7_buildSettled_136 ?_
      refine r_getR (k := 0) (o' := o1 + 10) (i' := 0) ckX7 ho1 rfl (by decide) rfl rfl rfl fl_X7_12 dX7_buildSettled_137 ?_
      refine r_getR (k := 6) (o' := o1 + 10) (i' := 7) ckX0 (cl_prog ho1) rfl (by decide) rfl rfl rfl fl_X7_75 dX7_buildSettled_140 ?_
      refine r_iload (k := 5) rfl dX7_buildSettled_143 ?_
      refine r_iald (cl_prog ho1) rfl rfl c17 dX7_buildSettled_145 ?_
      obtain ⟨c20, H⟩ := H
      refine r_callV (g := mX0_addRange) ckX0 (cl_prog ho0) rfl rfl rfl mkX0_addRange mvX0_addRange ml_X7_132 ⟨by decide, by decide⟩ rfl (Nat.le_of_ble_eq_true rfl) rfl (ok_r (ok_i ⟨by decide, by decide⟩ (ok_i c20 (ok_i gy19 (ok_i (hM18 _ _ _) (ok_i (hM18 _ _ _) ok_n)))))) dX7_buildSettled_146 (sl_afterV (sl_RV.mono (fun M21 hM21 H => ?_) H))
      refine r_goto (tgt := 213) dX7_buildSettled_149 (by decide) ?_
      obtain ⟨c22, H⟩ := H
      refine r_iinc (k := 5) (ls' := [(4, vI (x4 + 1)), (5, vI y19), (0, vR o0 0), (1, vR o1 0), (2, vI x2), (3, vR o3 0)]) rfl c22 (by decide) rfl dX7_buildSettled_213 ?_
      refine r_goto (tgt := 74) dX7_buildSettled_216 (by decide) ?_
      exact sl_At.sub [2, 3, 4, 5, 0] rfl H
theorem eX7_buildSettled {l : Launch} {M : sl_M} {Q : sl_R} {o0 o1 : Nat} {x2 : Int} (k : sl_At l mX7_buildSettled 0 [(0, vR o0 0), (1, vR o1 0), (2, vI x2)] [] M Q) : sl_Runs l mX7_buildSettled [vR o0 0, vR o1 0, vI x2] M Q := sl_Runs.of (ls := [(0, vR o0 0), (1, vR o1 0), (2, vI x2)]) rfl rfl (fun _ => rfl) (fun _ => Nat.le_of_ble_eq_true rfl) rfl (k)
theorem dX7_placeOf_0 : decode cX7_placeOf 0 = .ok (.iload_n 1, 1) := by decide +kernel
theorem dX7_placeOf_1 : decode cX7_placeOf 1 = .ok (.ifCond .lt 12, 3) := by decide +kernel
theorem dX7_placeOf_4 : decode cX7_placeOf 4 = .ok (.aload_n 0, 1) := by decide +kernel
theorem dX7_placeOf_5 : decode cX7_placeOf 5 = .ok (.getfield 24, 3) := by decide +kernel
theorem dX7_placeOf_8 : decode cX7_placeOf 8 = .ok (.iload_n 1, 1) := by decide +kernel
theorem dX7_placeOf_9 : decode cX7_placeOf 9 = .ok (.iaload, 1) := by decide +kernel
theorem dX7_placeOf_10 : decode cX7_placeOf 10 = .ok (.goto 4, 3) := by decide +kernel
theorem dX7_placeOf_13 : decode cX7_placeOf 13 = .ok (.iconst (-1), 1) := by decide +kernel
theorem dX7_placeOf_14 : decode cX7_placeOf 14 = .ok (.ireturn, 1) := by decide +kernel
set_option maxHeartbeats 4000000 in
set_option maxRecDepth 10000 in
theorem vX7_placeOf_0 {l : Launch} {M : sl_M} {Q : sl_R} {o0 : Nat} {x1 : Int} (ho0 : sl_cls o0 = 7) (H : sl_RM M → sl_rg x1 → (((¬ (x1 < 0)) → (0 ≤ x1 ∧ x1 < 40))) ∧ Q (some (vI (if x1 < 0 then (-1) else M o0 4 x1))) M) : sl_At l mX7_placeOf 0 [(0, vR o0 0), (1, vI x1)] [] M Q := by
  refine sl_At.in (fun hM hls => ?_)
  have g1 : sl_rg x1 := hls _ (List.mem_of_getElem? (i := 1) rfl)
  have H := H hM g1
  refine r_iload_n (k := 1) rfl rfl dX7_placeOf_0 ?_
  obtain ⟨K, H⟩ := H
  have J : sl_At l mX7_placeOf 14 [(0, vR o0 0), (1, vI x1)] [vI (if x1 < 0 then (-1) else M o0 4 x1)] M Q := by
    refine r_iret rfl (sl_rgite ⟨by decide, by decide⟩ (hM _ _ _)) dX7_placeOf_14 ?_
    exact H
  refine r_if_lt (tgt := 13) g1 dX7_placeOf_1 (by decide) (fun h2 => ?_) (fun h2 => ?_)
  · refine r_iconst dX7_placeOf_13 ?_
    rw [if_pos h2] at J
    exact J
  · replace K := K h2
    have c1 := K
    refine r_aload_n (k := 0) rfl rfl dX7_placeOf_4 ?_
    refine r_getR (k := 3) (o' := o0) (i' := 4) ckX7 ho0 rfl (by decide) rfl rfl rfl fl_X7_24 dX7_placeOf_5 ?_
    refine r_iload_n (k := 1) rfl rfl dX7_placeOf_8 ?_
    refine r_iald ho0 rfl rfl c1 dX7_placeOf_9 ?_
    refine r_goto (tgt := 14) dX7_placeOf_10 (by decide) ?_
    rw [if_neg h2] at J
    exact J
theorem eX7_placeOf {l : Launch} {M : sl_M} {Q : sl_R} {o0 : Nat} {x1 : Int} (k : sl_At l mX7_placeOf 0 [(0, vR o0 0), (1, vI x1)] [] M Q) : sl_Runs l mX7_placeOf [vR o0 0, vI x1] M Q := sl_Runs.of (ls := [(0, vR o0 0), (1, vI x1)]) rfl rfl (fun _ => rfl) (fun _ => Nat.le_of_ble_eq_true rfl) rfl (k)
theorem dX7_keep_0 : decode cX7_keep 0 = .ok (.aload_n 0, 1) := by decide +kernel
theorem dX7_keep_1 : decode cX7_keep 1 = .ok (.getfield 24, 3) := by decide +kernel
theorem dX7_keep_4 : decode cX7_keep 4 = .ok (.iload_n 2, 1) := by decide +kernel
theorem dX7_keep_5 : decode cX7_keep 5 = .ok (.aload_n 0, 1) := by decide +kernel
theorem dX7_keep_6 : decode cX7_keep 6 = .ok (.getfield 12, 3) := by decide +kernel
theorem dX7_keep_9 : decode cX7_keep 9 = .ok (.aload_n 1, 1) := by decide +kernel
theorem dX7_keep_10 : decode cX7_keep 10 = .ok (.iload_n 2, 1) := by decide +kernel
theorem dX7_keep_11 : decode cX7_keep 11 = .ok (.aload_n 0, 1) := by decide +kernel
theorem dX7_keep_12 : decode cX7_keep 12 = .ok (.aload_n 1, 1) := by decide +kernel
theorem dX7_keep_13 : decode cX7_keep 13 = .ok (.getfield 119, 3) := by decide +kernel
theorem dX7_keep_16 : decode cX7_keep 16 = .ok (.iload_n 2, 1) := by decide +kernel
theorem dX7_keep_17 : decode cX7_keep 17 = .ok (.iaload, 1) := by decide +kernel
theorem dX7_keep_18 : decode cX7_keep 18 = .ok (.invokevirtual 122, 3) := by decide +kernel
theorem dX7_keep_21 : decode cX7_keep 21 = .ok (.aload_n 1, 1) := by decide +kernel
theorem dX7_keep_22 : decode cX7_keep 22 = .ok (.getfield 125, 3) := by decide +kernel
theorem dX7_keep_25 : decode cX7_keep 25 = .ok (.iload_n 2, 1) := by decide +kernel
theorem dX7_keep_26 : decode cX7_keep 26 = .ok (.iaload, 1) := by decide +kernel
theorem dX7_keep_27 : decode cX7_keep 27 = .ok (.ldc 109, 2) := by decide +kernel
theorem dX7_keep_29 : decode cX7_keep 29 = .ok (.invokevirtual 136, 3) := by decide +kernel
theorem dX7_keep_32 : decode cX7_keep 32 = .ok (.iastore, 1) := by decide +kernel
theorem dX7_keep_33 : decode cX7_keep 33 = .ok (.aload_n 0, 1) := by decide +kernel
theorem dX7_keep_34 : decode cX7_keep 34 = .ok (.getfield 24, 3) := by decide +kernel
theorem dX7_keep_37 : decode cX7_keep 37 = .ok (.iload_n 2, 1) := by decide +kernel
theorem dX7_keep_38 : decode cX7_keep 38 = .ok (.iaload, 1) := by decide +kernel
theorem dX7_keep_39 : decode cX7_keep 39 = .ok (.ireturn, 1) := by decide +kernel
set_option maxHeartbeats 4000000 in
set_option maxRecDepth 10000 in
theorem vX7_keep_0 {l : Launch} {M : sl_M} {Q : sl_R} {o0 o1 : Nat} {x2 : Int} (ho0 : sl_cls o0 = 7) (ho1 : sl_cls o1 = 0) (H : sl_RM M → sl_rg x2 → (0 ≤ x2 ∧ x2 < 40) ∧ sl_RI l mX7_placeOf [vR o0 0, vI (M o1 2 x2)] M (fun y3 M2 => sl_RI l mX0_addLike [vR (o0 + 10) 0, vR o1 0, vI x2, vI y3, vI (M2 o1 4 x2), vI 16434824] M2 (fun y5 M4 => (∀ M6, M6 = sl_wr M4 o0 4 x2 y5 → Q (some (vI (M6 o0 4 x2))) M6)))) : sl_At l mX7_keep 0 [(0, vR o0 0), (1, vR o1 0), (2, vI x2)] [] M Q := by
  refine sl_At.in (fun hM hls => ?_)
  have g2 : sl_rg x2 := hls _ (List.mem_of_getElem? (i := 2) rfl)
  have H := H hM g2
  refine r_aload_n (k := 0) rfl rfl dX7_keep_0 ?_
  refine r_getR (k := 3) (o' := o0) (i' := 4) ckX7 ho0 rfl (by decide) rfl rfl rfl fl_X7_24 dX7_keep_1 ?_
  refine r_iload_n (k := 2) rfl rfl dX7_keep_4 ?_
  refine r_aload_n (k := 0) rfl rfl dX7_keep_5 ?_
  refine r_getR (k := 0) (o' := o0 + 10) (i' := 0) ckX7 ho0 rfl (by decide) rfl rfl rfl fl_X7_12 dX7_keep_6 ?_
  refine r_aload_n (k := 1) rfl rfl dX7_keep_9 ?_
  refine r_iload_n (k := 2) rfl rfl dX7_keep_10 ?_
  refine r_aload_n (k := 0) rfl rfl dX7_keep_11 ?_
  refine r_aload_n (k := 1) rfl rfl dX7_keep_12 ?_
  refine r_getR (k := 1) (o' := o1) (i' := 2) ckX0 ho1 rfl (by decide) rfl rfl rfl fl_X7_119 dX7_keep_13 ?_
  refine r_iload_n (k := 2) rfl rfl dX7_keep_16 ?_
  obtain ⟨c1, H⟩ := H
  refine r_iald ho1 rfl rfl c1 dX7_keep_17 ?_
  refine r_callV (g := mX7_placeOf) ckX7 ho0 rfl rfl rfl mkX7_placeOf mvX7_placeOf ml_X7_122 ⟨by decide, by decide⟩ rfl (Nat.le_of_ble_eq_true rfl) rfl (ok_i (hM _ _ _) ok_n) dX7_keep_18 (sl_afterI (sl_RI.mono (fun y3 M2 gy3 hM2 H => ?_) H))
  refine r_aload_n (k := 1) rfl rfl dX7_keep_21 ?_
  refine r_getR (k := 3) (o' := o1) (i' := 4) ckX0 ho1 rfl (by decide) rfl rfl rfl fl_X7_125 dX7_keep_22 ?_
  refine r_iload_n (k := 2) rfl rfl dX7_keep_25 ?_
  refine r_iald ho1 rfl rfl c1 dX7_keep_26 ?_
  refine r_ldc (n := 16434824) co_X7_109 dX7_keep_27 ?_
  refine r_callV (g := mX0_addLike) ckX0 (cl_prog ho0) rfl rfl rfl mkX0_addLike mvX0_addLike ml_X7_136 ⟨by decide, by decide⟩ rfl (Nat.le_of_ble_eq_true rfl) rfl (ok_r (ok_i g2 (ok_i gy3 (ok_i (hM2 _ _ _) (ok_i ⟨by decide, by decide⟩ ok_n))))) dX7_keep_29 (sl_afterI (sl_RI.mono (fun y5 M4 gy5 hM4 H => ?_) H))
  refine r_iast ho0 rfl rfl c1 gy5 dX7_keep_32 ?_
  refine r_mm (fun M6 e6 => ?_)
  have H := H M6 e6
  have hM6 : sl_RM M6 := by rw [e6]; exact sl_wr_RM hM4 gy5
  refine r_aload_n (k := 0) rfl rfl dX7_keep_33 ?_
  refine r_getR (k := 3) (o' := o0) (i' := 4) ckX7 ho0 rfl (by decide) rfl rfl rfl fl_X7_24 dX7_keep_34 ?_
  refine r_iload_n (k := 2) rfl rfl dX7_keep_37 ?_
  refine r_iald ho0 rfl rfl c1 dX7_keep_38 ?_
  refine r_iret rfl (hM6 _ _ _) dX7_keep_39 ?_
  exact H
theorem eX7_keep {l : Launch} {M : sl_M} {Q : sl_R} {o0 o1 : Nat} {x2 : Int} (k : sl_At l mX7_keep 0 [(0, vR o0 0), (1, vR o1 0), (2, vI x2)] [] M Q) : sl_Runs l mX7_keep [vR o0 0, vR o1 0, vI x2] M Q := sl_Runs.of (ls := [(0, vR o0 0), (1, vR o1 0), (2, vI x2)]) rfl rfl (fun _ => rfl) (fun _ => Nat.le_of_ble_eq_true rfl) rfl (k)
theorem dX7_addCall_0 : decode cX7_addCall 0 = .ok (.aload_n 0, 1) := by decide +kernel
theorem dX7_addCall_1 : decode cX7_addCall 1 = .ok (.getfield 12, 3) := by decide +kernel
theorem dX7_addCall_4 : decode cX7_addCall 4 = .ok (.bipush 7, 2) := by decide +kernel
theorem dX7_addCall_6 : decode cX7_addCall 6 = .ok (.iload_n 1, 1) := by decide +kernel
theorem dX7_addCall_7 : decode cX7_addCall 7 = .ok (.iload_n 2, 1) := by decide +kernel
theorem dX7_addCall_8 : decode cX7_addCall 8 = .ok (.invokevirtual 140, 3) := by decide +kernel
theorem dX7_addCall_11 : decode cX7_addCall 11 = .ok (.istore 5, 2) := by decide +kernel
theorem dX7_addCall_13 : decode cX7_addCall 13 = .ok (.iload 5, 2) := by decide +kernel
theorem dX7_addCall_15 : decode cX7_addCall 15 = .ok (.iconst (-1), 1) := by decide +kernel
theorem dX7_addCall_16 : decode cX7_addCall 16 = .ok (.if_icmp .ne 4, 3) := by decide +kernel
theorem dX7_addCall_19 : decode cX7_addCall 19 = .ok (.return_, 1) := by decide +kernel
theorem dX7_addCall_20 : decode cX7_addCall 20 = .ok (.aload_n 0, 1) := by decide +kernel
theorem dX7_addCall_21 : decode cX7_addCall 21 = .ok (.getfield 20, 3) := by decide +kernel
theorem dX7_addCall_24 : decode cX7_addCall 24 = .ok (.iload_n 3, 1) := by decide +kernel
theorem dX7_addCall_25 : decode cX7_addCall 25 = .ok (.aaload, 1) := by decide +kernel
theorem dX7_addCall_26 : decode cX7_addCall 26 = .ok (.astore 6, 2) := by decide +kernel
theorem dX7_addCall_28 : decode cX7_addCall 28 = .ok (.aload_n 0, 1) := by decide +kernel
theorem dX7_addCall_29 : decode cX7_addCall 29 = .ok (.getfield 12, 3) := by decide +kernel
theorem dX7_addCall_32 : decode cX7_addCall 32 = .ok (.getfield 68, 3) := by decide +kernel
theorem dX7_addCall_35 : decode cX7_addCall 35 = .ok (.iload 5, 2) := by decide +kernel
theorem dX7_addCall_37 : decode cX7_addCall 37 = .ok (.iload_n 3, 1) := by decide +kernel
theorem dX7_addCall_38 : decode cX7_addCall 38 = .ok (.iastore, 1) := by decide +kernel
theorem dX7_addCall_39 : decode cX7_addCall 39 = .ok (.aload_n 0, 1) := by decide +kernel
theorem dX7_addCall_40 : decode cX7_addCall 40 = .ok (.getfield 12, 3) := by decide +kernel
theorem dX7_addCall_43 : decode cX7_addCall 43 = .ok (.getfield 75, 3) := by decide +kernel
theorem dX7_addCall_46 : decode cX7_addCall 46 = .ok (.iload 5, 2) := by decide +kernel
theorem dX7_addCall_48 : decode cX7_addCall 48 = .ok (.iload 4, 2) := by decide +kernel
theorem dX7_addCall_50 : decode cX7_addCall 50 = .ok (.iastore, 1) := by decide +kernel
theorem dX7_addCall_51 : decode cX7_addCall 51 = .ok (.aload_n 0, 1) := by decide +kernel
theorem dX7_addCall_52 : decode cX7_addCall 52 = .ok (.aload 6, 2) := by decide +kernel
theorem dX7_addCall_54 : decode cX7_addCall 54 = .ok (.aload 6, 2) := by decide +kernel
theorem dX7_addCall_56 : decode cX7_addCall 56 = .ok (.getfield 36, 3) := by decide +kernel
theorem dX7_addCall_59 : decode cX7_addCall 59 = .ok (.iload 4, 2) := by decide +kernel
theorem dX7_addCall_61 : decode cX7_addCall 61 = .ok (.invokevirtual 144, 3) := by decide +kernel
theorem dX7_addCall_64 : decode cX7_addCall 64 = .ok (.aload_n 0, 1) := by decide +kernel
theorem dX7_addCall_65 : decode cX7_addCall 65 = .ok (.getfield 12, 3) := by decide +kernel
theorem dX7_addCall_68 : decode cX7_addCall 68 = .ok (.bipush 62, 2) := by decide +kernel
theorem dX7_addCall_70 : decode cX7_addCall 70 = .ok (.invokevirtual 148, 3) := by decide +kernel
theorem dX7_addCall_73 : decode cX7_addCall 73 = .ok (.aload_n 0, 1) := by decide +kernel
theorem dX7_addCall_74 : decode cX7_addCall 74 = .ok (.aload 6, 2) := by decide +kernel
theorem dX7_addCall_76 : decode cX7_addCall 76 = .ok (.aload 6, 2) := by decide +kernel
theorem dX7_addCall_78 : decode cX7_addCall 78 = .ok (.getfield 45, 3) := by decide +kernel
theorem dX7_addCall_81 : decode cX7_addCall 81 = .ok (.iload 4, 2) := by decide +kernel
theorem dX7_addCall_83 : decode cX7_addCall 83 = .ok (.invokevirtual 144, 3) := by decide +kernel
theorem dX7_addCall_86 : decode cX7_addCall 86 = .ok (.aload_n 0, 1) := by decide +kernel
theorem dX7_addCall_87 : decode cX7_addCall 87 = .ok (.getfield 12, 3) := by decide +kernel
theorem dX7_addCall_90 : decode cX7_addCall 90 = .ok (.getfield 152, 3) := by decide +kernel
theorem dX7_addCall_93 : decode cX7_addCall 93 = .ok (.iload 5, 2) := by decide +kernel
theorem dX7_addCall_95 : decode cX7_addCall 95 = .ok (.iload 4, 2) := by decide +kernel
theorem dX7_addCall_97 : decode cX7_addCall 97 = .ok (.aload 6, 2) := by decide +kernel
theorem dX7_addCall_99 : decode cX7_addCall 99 = .ok (.getfield 36, 3) := by decide +kernel
theorem dX7_addCall_102 : decode cX7_addCall 102 = .ok (.invokestatic 81, 3) := by decide +kernel
theorem dX7_addCall_105 : decode cX7_addCall 105 = .ok (.iastore, 1) := by decide +kernel
theorem dX7_addCall_106 : decode cX7_addCall 106 = .ok (.return_, 1) := by decide +kernel
set_option maxHeartbeats 4000000 in
set_option maxRecDepth 10000 in
theorem vX7_addCall_0 {l : Launch} {M : sl_M} {Q : sl_R} {o0 : Nat} {x1 x2 x3 x4 : Int} (ho0 : sl_cls o0 = 7) (H : sl_RM M → sl_rg x1 → sl_rg x2 → sl_rg x3 → sl_rg x4 → sl_RI l mX0_add [vR (o0 + 10) 0, vI 7, vI x1, vI x2] M (fun y2 M1 => ((y2 ≠ (-1)) → (0 ≤ x3 ∧ x3 < 3) ∧ (0 ≤ y2 ∧ y2 < 40) ∧ (∀ M6, M6 = sl_wr M1 (o0 + 10) 6 y2 x3 → (∀ M7, M7 = sl_wr M6 (o0 + 10) 7 y2 x4 → sl_RV l mX7_putNames [vR o0 0, vR (3 * o0 + x3.toNat) 0, vI (M7 (3 * o0 + x3.toNat) 0 2), vI x4] M7 (fun M8 => sl_RV l mX0_put [vR (o0 + 10) 0, vI 62] M8 (fun M9 => sl_RV l mX7_putNames [vR o0 0, vR (3 * o0 + x3.toNat) 0, vI (M9 (3 * o0 + x3.toNat) 0 3), vI x4] M9 (fun M10 => sl_RI l mX9_renamedSet [vI x4, vI (M10 (3 * o0 + x3.toNat) 0 2)] M10 (fun y12 M11 => (∀ M13, M13 = sl_wr M11 (o0 + 10) 10 y2 y12 → Q none M13)))))))) ∧ ((¬ (y2 ≠ (-1))) → Q none M1))) : sl_At l mX7_addCall 0 [(0, vR o0 0), (1, vI x1), (2, vI x2), (3, vI x3), (4, vI x4)] [] M Q := by
  refine sl_At.in (fun hM hls => ?_)
  have g1 : sl_rg x1 := hls _ (List.mem_of_getElem? (i := 1) rfl)
  have g2 : sl_rg x2 := hls _ (List.mem_of_getElem? (i := 2) rfl)
  have g3 : sl_rg x3 := hls _ (List.mem_of_getElem? (i := 3) rfl)
  have g4 : sl_rg x4 := hls _ (List.mem_of_getElem? (i := 4) rfl)
  have H := H hM g1 g2 g3 g4
  refine r_aload_n (k := 0) rfl rfl dX7_addCall_0 ?_
  refine r_getR (k := 0) (o' := o0 + 10) (i' := 0) ckX7 ho0 rfl (by decide) rfl rfl rfl fl_X7_12 dX7_addCall_1 ?_
  refine r_bipush dX7_addCall_4 (by decide) ?_
  refine r_iload_n (k := 1) rfl rfl dX7_addCall_6 ?_
  refine r_iload_n (k := 2) rfl rfl dX7_addCall_7 ?_
  refine r_callV (g := mX0_add) ckX0 (cl_prog ho0) rfl rfl rfl mkX0_add mvX0_add ml_X7_140 ⟨by decide, by decide⟩ rfl (Nat.le_of_ble_eq_true rfl) rfl (ok_i ⟨by decide, by decide⟩ (ok_i g1 (ok_i g2 ok_n))) dX7_addCall_8 (sl_afterI (sl_RI.mono (fun y2 M1 gy2 hM1 H => ?_) H))
  refine r_istore (ls' := [(5, vI y2), (0, vR o0 0), (1, vI x1), (2, vI x2), (3, vI x3), (4, vI x4)]) gy2 (by decide) rfl dX7_addCall_11 ?_
  refine r_iload (k := 0) rfl dX7_addCall_13 ?_
  refine r_iconst dX7_addCall_15 ?_
  refine r_icmp_ne (tgt := 20) gy2 ⟨by decide, by decide⟩ dX7_addCall_16 (by decide) (fun h3 => ?_) (fun h3 => ?_)
  · have H := H.1 h3
    refine r_aload_n (k := 1) rfl rfl dX7_addCall_20 ?_
    refine r_getR (k := 1) (o' := o0) (i' := 2) ckX7 ho0 rfl (by decide) rfl rfl rfl fl_X7_20 dX7_addCall_21 ?_
    refine r_iload_n (k := 4) rfl rfl dX7_addCall_24 ?_
    obtain ⟨c4, H⟩ := H
    refine r_aaldR ho0 rfl c4 dX7_addCall_25 ?_
    refine r_astore (ls' := [(6, vR (3 * o0 + x3.toNat) 0), (5, vI y2), (0, vR o0 0), (1, vI x1), (2, vI x2), (3, vI x3), (4, vI x4)]) (by decide) rfl dX7_addCall_26 ?_
    refine r_aload_n (k := 2) rfl rfl dX7_addCall_28 ?_
    refine r_getR (k := 0) (o' := o0 + 10) (i' := 0) ckX7 ho0 rfl (by decide) rfl rfl rfl fl_X7_12 dX7_addCall_29 ?_
    refine r_getR (k := 5) (o' := o0 + 10) (i' := 6) ckX0 (cl_prog ho0) rfl (by decide) rfl rfl rfl fl_X7_68 dX7_addCall_32 ?_
    refine r_iload (k := 1) rfl dX7_addCall_35 ?_
    refine r_iload_n (k := 5) rfl rfl dX7_addCall_37 ?_
    obtain ⟨c5, H⟩ := H
    refine r_iast (cl_prog ho0) rfl rfl c5 g3 dX7_addCall_38 ?_
    refine r_mm (fun M6 e6 => ?_)
    have H := H M6 e6
    have hM6 : sl_RM M6 := by rw [e6]; exact sl_wr_RM hM1 g3
    refine r_aload_n (k := 2) rfl rfl dX7_addCall_39 ?_
    refine r_getR (k := 0) (o' := o0 + 10) (i' := 0) ckX7 ho0 rfl (by decide) rfl rfl rfl fl_X7_12 dX7_addCall_40 ?_
    refine r_getR (k := 6) (o' := o0 + 10) (i' := 7) ckX0 (cl_prog ho0) rfl (by decide) rfl rfl rfl fl_X7_75 dX7_addCall_43 ?_
    refine r_iload (k := 1) rfl dX7_addCall_46 ?_
    refine r_iload (k := 6) rfl dX7_addCall_48 ?_
    refine r_iast (cl_prog ho0) rfl rfl c5 g4 dX7_addCall_50 ?_
    refine r_mm (fun M7 e7 => ?_)
    have H := H M7 e7
    have hM7 : sl_RM M7 := by rw [e7]; exact sl_wr_RM hM6 g4
    refine r_aload_n (k := 2) rfl rfl dX7_addCall_51 ?_
    refine r_aload (k := 0) rfl dX7_addCall_52 ?_
    refine r_aload (k := 0) rfl dX7_addCall_54 ?_
    refine r_gI (k := 2) (kz := 2) rfl ckX5 (cl_rout ho0 c4) rfl (by decide) rfl rfl fl_X7_36 dX7_addCall_56 ?_
    refine r_iload (k := 6) rfl dX7_addCall_59 ?_
    refine r_callV (g := mX7_putNames) ckX7 ho0 rfl rfl rfl mkX7_putNames mvX7_putNames ml_X7_144 ⟨by decide, by decide⟩ rfl (Nat.le_of_ble_eq_true rfl) rfl (ok_r (ok_i (hM7 _ _ _) (ok_i g4 ok_n))) dX7_addCall_61 (sl_afterV (sl_RV.mono (fun M8 hM8 H => ?_) H))
    refine r_aload_n (k := 2) rfl rfl dX7_addCall_64 ?_
    refine r_getR (k := 0) (o' := o0 + 10) (i' := 0) ckX7 ho0 rfl (by decide) rfl rfl rfl fl_X7_12 dX7_addCall_65 ?_
    refine r_bipush dX7_addCall_68 (by decide) ?_
    refine r_callV (g := mX0_put) ckX0 (cl_prog ho0) rfl rfl rfl mkX0_put mvX0_put ml_X7_148 ⟨by decide, by decide⟩ rfl (Nat.le_of_ble_eq_true rfl) rfl (ok_i ⟨by decide, by decide⟩ ok_n) dX7_addCall_70 (sl_afterV (sl_RV.mono (fun M9 hM9 H => ?_) H))
    refine r_aload_n (k := 2) rfl rfl dX7_addCall_73 ?_
    refine r_aload (k := 0) rfl dX7_addCall_74 ?_
    refine r_aload (k := 0) rfl dX7_addCall_76 ?_
    refine r_gI (k := 3) (kz := 3) rfl ckX5 (cl_rout ho0 c4) rfl (by decide) rfl rfl fl_X7_45 dX7_addCall_78 ?_
    refine r_iload (k := 6) rfl dX7_addCall_81 ?_
    refine r_callV (g := mX7_putNames) ckX7 ho0 rfl rfl rfl mkX7_putNames mvX7_putNames ml_X7_144 ⟨by decide, by decide⟩ rfl (Nat.le_of_ble_eq_true rfl) rfl (ok_r (ok_i (hM9 _ _ _) (ok_i g4 ok_n))) dX7_addCall_83 (sl_afterV (sl_RV.mono (fun M10 hM10 H => ?_) H))
    refine r_aload_n (k := 2) rfl rfl dX7_addCall_86 ?_
    refine r_getR (k := 0) (o' := o0 + 10) (i' := 0) ckX7 ho0 rfl (by decide) rfl rfl rfl fl_X7_12 dX7_addCall_87 ?_
    refine r_getR (k := 9) (o' := o0 + 10) (i' := 10) ckX0 (cl_prog ho0) rfl (by decide) rfl rfl rfl fl_X7_152 dX7_addCall_90 ?_
    refine r_iload (k := 1) rfl dX7_addCall_93 ?_
    refine r_iload (k := 6) rfl dX7_addCall_95 ?_
    refine r_aload (k := 0) rfl dX7_addCall_97 ?_
    refine r_gI (k := 2) (kz := 2) rfl ckX5 (cl_rout ho0 c4) rfl (by decide) rfl rfl fl_X7_36 dX7_addCall_99 ?_
    refine r_callSN (g := mX9_renamedSet) rfl mkX9_renamedSet msX9_renamedSet mn_X7_81 ⟨by decide, by decide⟩ rfl (Nat.le_of_ble_eq_true rfl) rfl (ok_i g4 (ok_i (hM10 _ _ _) ok_n)) dX7_addCall_102 (sl_afterI (sl_RI.mono (fun y12 M11 gy12 hM11 H => ?_) H))
    refine r_iast (cl_prog ho0) rfl rfl c5 gy12 dX7_addCall_105 ?_
    refine r_mm (fun M13 e13 => ?_)
    have H := H M13 e13
    have hM13 : sl_RM M13 := by rw [e13]; exact sl_wr_RM hM11 gy12
    refine r_vret rfl dX7_addCall_106 ?_
    exact H
  · have H := H.2 h3
    refine r_vret rfl dX7_addCall_19 ?_
    exact H
theorem eX7_addCall {l : Launch} {M : sl_M} {Q : sl_R} {o0 : Nat} {x1 x2 x3 x4 : Int} (k : sl_At l mX7_addCall 0 [(0, vR o0 0), (1, vI x1), (2, vI x2), (3, vI x3), (4, vI x4)] [] M Q) : sl_Runs l mX7_addCall [vR o0 0, vI x1, vI x2, vI x3, vI x4] M Q := sl_Runs.of (ls := [(0, vR o0 0), (1, vI x1), (2, vI x2), (3, vI x3), (4, vI x4)]) rfl rfl (fun _ => rfl) (fun _ => Nat.le_of_ble_eq_true rfl) rfl (k)
theorem dX7_putNames_0 : decode cX7_putNames 0 = .ok (.iload_n 2, 1) := by decide +kernel
theorem dX7_putNames_1 : decode cX7_putNames 1 = .ok (.invokestatic 39, 3) := by decide +kernel
theorem dX7_putNames_4 : decode cX7_putNames 4 = .ok (.istore 4, 2) := by decide +kernel
theorem dX7_putNames_6 : decode cX7_putNames 6 = .ok (.iconst 0, 1) := by decide +kernel
theorem dX7_putNames_7 : decode cX7_putNames 7 = .ok (.istore 5, 2) := by decide +kernel
theorem dX7_putNames_9 : decode cX7_putNames 9 = .ok (.iload 5, 2) := by decide +kernel
theorem dX7_putNames_11 : decode cX7_putNames 11 = .ok (.iload 4, 2) := by decide +kernel
theorem dX7_putNames_13 : decode cX7_putNames 13 = .ok (.if_icmp .ge 40, 3) := by decide +kernel
theorem dX7_putNames_16 : decode cX7_putNames 16 = .ok (.aload_n 1, 1) := by decide +kernel
theorem dX7_putNames_17 : decode cX7_putNames 17 = .ok (.iload_n 2, 1) := by decide +kernel
theorem dX7_putNames_18 : decode cX7_putNames 18 = .ok (.iload 5, 2) := by decide +kernel
theorem dX7_putNames_20 : decode cX7_putNames 20 = .ok (.invokevirtual 155, 3) := by decide +kernel
theorem dX7_putNames_23 : decode cX7_putNames 23 = .ok (.istore 6, 2) := by decide +kernel
theorem dX7_putNames_25 : decode cX7_putNames 25 = .ok (.iload 6, 2) := by decide +kernel
theorem dX7_putNames_27 : decode cX7_putNames 27 = .ok (.iconst (-1), 1) := by decide +kernel
theorem dX7_putNames_28 : decode cX7_putNames 28 = .ok (.if_icmp .eq 19, 3) := by decide +kernel
theorem dX7_putNames_31 : decode cX7_putNames 31 = .ok (.aload_n 0, 1) := by decide +kernel
theorem dX7_putNames_32 : decode cX7_putNames 32 = .ok (.getfield 12, 3) := by decide +kernel
theorem dX7_putNames_35 : decode cX7_putNames 35 = .ok (.bipush 97, 2) := by decide +kernel
theorem dX7_putNames_37 : decode cX7_putNames 37 = .ok (.iload_n 3, 1) := by decide +kernel
theorem dX7_putNames_38 : decode cX7_putNames 38 = .ok (.iload 6, 2) := by decide +kernel
theorem dX7_putNames_40 : decode cX7_putNames 40 = .ok (.invokestatic 158, 3) := by decide +kernel
theorem dX7_putNames_43 : decode cX7_putNames 43 = .ok (.iadd, 1) := by decide +kernel
theorem dX7_putNames_44 : decode cX7_putNames 44 = .ok (.invokevirtual 148, 3) := by decide +kernel
theorem dX7_putNames_47 : decode cX7_putNames 47 = .ok (.iinc 5 1, 3) := by decide +kernel
theorem dX7_putNames_50 : decode cX7_putNames 50 = .ok (.goto (-41), 3) := by decide +kernel
theorem dX7_putNames_53 : decode cX7_putNames 53 = .ok (.return_, 1) := by decide +kernel
set_option maxHeartbeats 4000000 in
set_option maxRecDepth 10000 in
theorem vX7_putNames_0 {l : Launch} {M : sl_M} {Q : sl_R} {o0 o1 : Nat} {x2 x3 : Int} (ho0 : sl_cls o0 = 7) (ho1 : sl_cls o1 = 5) (H : sl_RM M → sl_rg x2 → sl_rg x3 → sl_RI l mJ6_bitCount_0f7a4 [vI x2] M (fun y2 M1 => sl_At l mX7_putNames 9 [(0, vR o0 0), (1, vR o1 0), (2, vI x2), (3, vI x3), (4, vI y2), (5, vI 0)] [] M1 Q)) : sl_At l mX7_putNames 0 [(0, vR o0 0), (1, vR o1 0), (2, vI x2), (3, vI x3)] [] M Q := by
  refine sl_At.in (fun hM hls => ?_)
  have g2 : sl_rg x2 := hls _ (List.mem_of_getElem? (i := 2) rfl)
  have g3 : sl_rg x3 := hls _ (List.mem_of_getElem? (i := 3) rfl)
  have H := H hM g2 g3
  refine r_iload_n (k := 2) rfl rfl dX7_putNames_0 ?_
  refine r_callS (g := mJ6_bitCount_0f7a4) rfl mkJ6_bitCount_0f7a4 msJ6_bitCount_0f7a4 ml_X7_39 ⟨by decide, by decide⟩ rfl (Nat.le_of_ble_eq_true rfl) rfl (ok_i g2 ok_n) dX7_putNames_1 (sl_afterI (sl_RI.mono (fun y2 M1 gy2 hM1 H => ?_) H))
  refine r_istore (ls' := [(4, vI y2), (0, vR o0 0), (1, vR o1 0), (2, vI x2), (3, vI x3)]) gy2 (by decide) rfl dX7_putNames_4 ?_
  refine r_iconst dX7_putNames_6 ?_
  refine r_istore (ls' := [(5, vI 0), (4, vI y2), (0, vR o0 0), (1, vR o1 0), (2, vI x2), (3, vI x3)]) ⟨by decide, by decide⟩ (by decide) rfl dX7_putNames_7 ?_
  exact sl_At.sub [2, 3, 4, 5, 1, 0] rfl H
set_option maxHeartbeats 4000000 in
set_option maxRecDepth 10000 in
theorem vX7_putNames_9 {l : Launch} {M : sl_M} {Q : sl_R} {o0 o1 : Nat} {x2 x3 x4 x5 : Int} (ho0 : sl_cls o0 = 7) (ho1 : sl_cls o1 = 5) (H : sl_RM M → sl_rg x2 → sl_rg x3 → sl_rg x4 → sl_rg x5 → ((x4 ≤ x5) → Q none M) ∧ ((¬ (x4 ≤ x5)) → sl_RI l mX5_formalAt [vR o1 0, vI x2, vI x5] M (fun y3 M2 => ((y3 = (-1)) → (sl_rg (x5 + 1)) ∧ sl_At l mX7_putNames 9 [(0, vR o0 0), (1, vR o1 0), (2, vI x2), (3, vI x3), (4, vI x4), (5, vI (x5 + 1))] [] M2 Q) ∧ ((¬ (y3 = (-1))) → (sl_rg (97 + (iand (ishr x3 (3 * y3)) 7))) ∧ sl_RV l mX0_put [vR (o0 + 10) 0, vI (97 + (iand (ishr x3 (3 * y3)) 7))] M2 (fun M7 => (sl_rg (x5 + 1)) ∧ sl_At l mX7_putNames 9 [(0, vR o0 0), (1, vR o1 0), (2, vI x2), (3, vI x3), (4, vI x4), (5, vI (x5 + 1))] [] M7 Q))))) : sl_At l mX7_putNames 9 [(0, vR o0 0), (1, vR o1 0), (2, vI x2), (3, vI x3), (4, vI x4), (5, vI x5)] [] M Q := by
  refine sl_At.in (fun hM hls => ?_)
  have g2 : sl_rg x2 := hls _ (List.mem_of_getElem? (i := 2) rfl)
  have g3 : sl_rg x3 := hls _ (List.mem_of_getElem? (i := 3) rfl)
  have g4 : sl_rg x4 := hls _ (List.mem_of_getElem? (i := 4) rfl)
  have g5 : sl_rg x5 := hls _ (List.mem_of_getElem? (i := 5) rfl)
  have H := H hM g2 g3 g4 g5
  refine r_iload (k := 5) rfl dX7_putNames_9 ?_
  refine r_iload (k := 4) rfl dX7_putNames_11 ?_
  refine r_icmp_ge (tgt := 53) g5 g4 dX7_putNames_13 (by decide) (fun h1 => ?_) (fun h1 => ?_)
  · have H := H.1 h1
    refine r_vret rfl dX7_putNames_53 ?_
    exact H
  · have H := H.2 h1
    refine r_aload_n (k := 1) rfl rfl dX7_putNames_16 ?_
    refine r_iload_n (k := 2) rfl rfl dX7_putNames_17 ?_
    refine r_iload (k := 5) rfl dX7_putNames_18 ?_
    refine r_callV (g := mX5_formalAt) ckX5 ho1 rfl rfl rfl mkX5_formalAt mvX5_formalAt ml_X7_155 ⟨by decide, by decide⟩ rfl (Nat.le_of_ble_eq_true rfl) rfl (ok_i g2 (ok_i g5 ok_n)) dX7_putNames_20 (sl_afterI (sl_RI.mono (fun y3 M2 gy3 hM2 H => ?_) H))
    refine r_istore (ls' := [(6, vI y3), (0, vR o0 0), (1, vR o1 0), (2, vI x2), (3, vI x3), (4, vI x4), (5, vI x5)]) gy3 (by decide) rfl dX7_putNames_23 ?_
    refine r_iload (k := 0) rfl dX7_putNames_25 ?_
    refine r_iconst dX7_putNames_27 ?_
    refine r_icmp_eq (tgt := 47) gy3 ⟨by decide, by decide⟩ dX7_putNames_28 (by decide) (fun h4 => ?_) (fun h4 => ?_)
    · have H := H.1 h4
      obtain ⟨c5, H⟩ := H
      refine r_iinc (k := 6) (ls' := [(5, vI (x5 + 1)), (6, vI y3), (0, vR o0 0), (1, vR o1 0), (2, vI x2), (3, vI x3), (4, vI x4)]) rfl c5 (by decide) rfl dX7_putNames_47 ?_
      refine r_goto (tgt := 9) dX7_putNames_50 (by decide) ?_
      exact sl_At.sub [2, 3, 4, 5, 6, 0] rfl H
    · have H := H.2 h4
      refine r_aload_n (k := 1) rfl rfl dX7_putNames_31 ?_
      refine r_getR (k := 0) (o' := o0 + 10) (i' := 0) ckX7 ho0 rfl (by decide) rfl rfl rfl fl_X7_12 dX7_putNames_32 ?_
      refine r_bipush dX7_putNames_35 (by decide) ?_
      refine r_iload_n (k := 4) rfl rfl dX7_putNames_37 ?_
      refine r_iload (k := 0) rfl dX7_putNames_38 ?_
      refine r_callSN (g := mX9_renamed) rfl mkX9_renamed msX9_renamed mn_X7_158 ⟨by decide, by decide⟩ rfl (Nat.le_of_ble_eq_true rfl) rfl (ok_i g3 (ok_i gy3 ok_n)) dX7_putNames_40 (sl_afterI (sl_RI.by kX9_renamed ?_))
      refine r_iadd dX7_putNames_43 ?_
      obtain ⟨c6, H⟩ := H
      refine r_callV (g := mX0_put) ckX0 (cl_prog ho0) rfl rfl rfl mkX0_put mvX0_put ml_X7_148 ⟨by decide, by decide⟩ rfl (Nat.le_of_ble_eq_true rfl) rfl (ok_i c6 ok_n) dX7_putNames_44 (sl_afterV (sl_RV.mono (fun M7 hM7 H => ?_) H))
      obtain ⟨c8, H⟩ := H
      refine r_iinc (k := 6) (ls' := [(5, vI (x5 + 1)), (6, vI y3), (0, vR o0 0), (1, vR o1 0), (2, vI x2), (3, vI x3), (4, vI x4)]) rfl c8 (by decide) rfl dX7_putNames_47 ?_
      refine r_goto (tgt := 9) dX7_putNames_50 (by decide) ?_
      exact sl_At.sub [2, 3, 4, 5, 6, 0] rfl H
theorem eX7_putNames {l : Launch} {M : sl_M} {Q : sl_R} {o0 o1 : Nat} {x2 x3 : Int} (k : sl_At l mX7_putNames 0 [(0, vR o0 0), (1, vR o1 0), (2, vI x2), (3, vI x3)] [] M Q) : sl_Runs l mX7_putNames [vR o0 0, vR o1 0, vI x2, vI x3] M Q := sl_Runs.of (ls := [(0, vR o0 0), (1, vR o1 0), (2, vI x2), (3, vI x3)]) rfl rfl (fun _ => rfl) (fun _ => Nat.le_of_ble_eq_true rfl) rfl (k)
theorem dJ6_bitCount_0f7a4_0 : decode cJ6_bitCount_0f7a4 0 = .ok (.iload_n 0, 1) := by decide +kernel
theorem dJ6_bitCount_0f7a4_1 : decode cJ6_bitCount_0f7a4 1 = .ok (.iload_n 0, 1) := by decide +kernel
theorem dJ6_bitCount_0f7a4_2 : decode cJ6_bitCount_0f7a4 2 = .ok (.iconst 1, 1) := by decide +kernel
theorem dJ6_bitCount_0f7a4_3 : decode cJ6_bitCount_0f7a4 3 = .ok (.iushr, 1) := by decide +kernel
theorem dJ6_bitCount_0f7a4_4 : decode cJ6_bitCount_0f7a4 4 = .ok (.ldc_w 265, 3) := by decide +kernel
theorem dJ6_bitCount_0f7a4_7 : decode cJ6_bitCount_0f7a4 7 = .ok (.iand, 1) := by decide +kernel
theorem dJ6_bitCount_0f7a4_8 : decode cJ6_bitCount_0f7a4 8 = .ok (.isub, 1) := by decide +kernel
theorem dJ6_bitCount_0f7a4_9 : decode cJ6_bitCount_0f7a4 9 = .ok (.istore_n 0, 1) := by decide +kernel
theorem dJ6_bitCount_0f7a4_10 : decode cJ6_bitCount_0f7a4 10 = .ok (.iload_n 0, 1) := by decide +kernel
theorem dJ6_bitCount_0f7a4_11 : decode cJ6_bitCount_0f7a4 11 = .ok (.ldc_w 266, 3) := by decide +kernel
theorem dJ6_bitCount_0f7a4_14 : decode cJ6_bitCount_0f7a4 14 = .ok (.iand, 1) := by decide +kernel
theorem dJ6_bitCount_0f7a4_15 : decode cJ6_bitCount_0f7a4 15 = .ok (.iload_n 0, 1) := by decide +kernel
theorem dJ6_bitCount_0f7a4_16 : decode cJ6_bitCount_0f7a4 16 = .ok (.iconst 2, 1) := by decide +kernel
theorem dJ6_bitCount_0f7a4_17 : decode cJ6_bitCount_0f7a4 17 = .ok (.iushr, 1) := by decide +kernel
theorem dJ6_bitCount_0f7a4_18 : decode cJ6_bitCount_0f7a4 18 = .ok (.ldc_w 266, 3) := by decide +kernel
theorem dJ6_bitCount_0f7a4_21 : decode cJ6_bitCount_0f7a4 21 = .ok (.iand, 1) := by decide +kernel
theorem dJ6_bitCount_0f7a4_22 : decode cJ6_bitCount_0f7a4 22 = .ok (.iadd, 1) := by decide +kernel
theorem dJ6_bitCount_0f7a4_23 : decode cJ6_bitCount_0f7a4 23 = .ok (.istore_n 0, 1) := by decide +kernel
theorem dJ6_bitCount_0f7a4_24 : decode cJ6_bitCount_0f7a4 24 = .ok (.iload_n 0, 1) := by decide +kernel
theorem dJ6_bitCount_0f7a4_25 : decode cJ6_bitCount_0f7a4 25 = .ok (.iload_n 0, 1) := by decide +kernel
theorem dJ6_bitCount_0f7a4_26 : decode cJ6_bitCount_0f7a4 26 = .ok (.iconst 4, 1) := by decide +kernel
theorem dJ6_bitCount_0f7a4_27 : decode cJ6_bitCount_0f7a4 27 = .ok (.iushr, 1) := by decide +kernel
theorem dJ6_bitCount_0f7a4_28 : decode cJ6_bitCount_0f7a4 28 = .ok (.iadd, 1) := by decide +kernel
theorem dJ6_bitCount_0f7a4_29 : decode cJ6_bitCount_0f7a4 29 = .ok (.ldc_w 267, 3) := by decide +kernel
theorem dJ6_bitCount_0f7a4_32 : decode cJ6_bitCount_0f7a4 32 = .ok (.iand, 1) := by decide +kernel
theorem dJ6_bitCount_0f7a4_33 : decode cJ6_bitCount_0f7a4 33 = .ok (.istore_n 0, 1) := by decide +kernel
theorem dJ6_bitCount_0f7a4_34 : decode cJ6_bitCount_0f7a4 34 = .ok (.iload_n 0, 1) := by decide +kernel
theorem dJ6_bitCount_0f7a4_35 : decode cJ6_bitCount_0f7a4 35 = .ok (.iload_n 0, 1) := by decide +kernel
theorem dJ6_bitCount_0f7a4_36 : decode cJ6_bitCount_0f7a4 36 = .ok (.bipush 8, 2) := by decide +kernel
theorem dJ6_bitCount_0f7a4_38 : decode cJ6_bitCount_0f7a4 38 = .ok (.iushr, 1) := by decide +kernel
theorem dJ6_bitCount_0f7a4_39 : decode cJ6_bitCount_0f7a4 39 = .ok (.iadd, 1) := by decide +kernel
theorem dJ6_bitCount_0f7a4_40 : decode cJ6_bitCount_0f7a4 40 = .ok (.istore_n 0, 1) := by decide +kernel
theorem dJ6_bitCount_0f7a4_41 : decode cJ6_bitCount_0f7a4 41 = .ok (.iload_n 0, 1) := by decide +kernel
theorem dJ6_bitCount_0f7a4_42 : decode cJ6_bitCount_0f7a4 42 = .ok (.iload_n 0, 1) := by decide +kernel
theorem dJ6_bitCount_0f7a4_43 : decode cJ6_bitCount_0f7a4 43 = .ok (.bipush 16, 2) := by decide +kernel
theorem dJ6_bitCount_0f7a4_45 : decode cJ6_bitCount_0f7a4 45 = .ok (.iushr, 1) := by decide +kernel
theorem dJ6_bitCount_0f7a4_46 : decode cJ6_bitCount_0f7a4 46 = .ok (.iadd, 1) := by decide +kernel
theorem dJ6_bitCount_0f7a4_47 : decode cJ6_bitCount_0f7a4 47 = .ok (.istore_n 0, 1) := by decide +kernel
theorem dJ6_bitCount_0f7a4_48 : decode cJ6_bitCount_0f7a4 48 = .ok (.iload_n 0, 1) := by decide +kernel
theorem dJ6_bitCount_0f7a4_49 : decode cJ6_bitCount_0f7a4 49 = .ok (.bipush 63, 2) := by decide +kernel
theorem dJ6_bitCount_0f7a4_51 : decode cJ6_bitCount_0f7a4 51 = .ok (.iand, 1) := by decide +kernel
theorem dJ6_bitCount_0f7a4_52 : decode cJ6_bitCount_0f7a4 52 = .ok (.ireturn, 1) := by decide +kernel
set_option maxHeartbeats 4000000 in
set_option maxRecDepth 10000 in
theorem vJ6_bitCount_0f7a4_0 {l : Launch} {M : sl_M} {Q : sl_R} {x0 : Int} (H : sl_RM M → sl_rg x0 → (sl_rg (x0 - (iand (iushr x0 1) 1431655765))) ∧ (∀ y2 : Int, y2 = x0 - (iand (iushr x0 1) 1431655765) → (sl_rg (iand y2 858993459 + (iand (iushr y2 2) 858993459))) ∧ (∀ y4 : Int, y4 = iand y2 858993459 + (iand (iushr y2 2) 858993459) → (∀ y5 : Int, y5 = iand (y4 + (iushr y4 4)) 252645135 → (sl_rg (y5 + (iushr y5 8))) ∧ (∀ y7 : Int, y7 = y5 + (iushr y5 8) → (sl_rg (y7 + (iushr y7 16))) ∧ (∀ y9 : Int, y9 = y7 + (iushr y7 16) → Q (some (vI (iand y9 63))) M)))))) : sl_At l mJ6_bitCount_0f7a4 0 [(0, vI x0)] [] M Q := by
  refine sl_At.in (fun hM hls => ?_)
  have g0 : sl_rg x0 := hls _ (List.mem_of_getElem? (i := 0) rfl)
  have H := H hM g0
  refine r_iload_n (k := 0) rfl rfl dJ6_bitCount_0f7a4_0 ?_
  refine r_iload_n (k := 0) rfl rfl dJ6_bitCount_0f7a4_1 ?_
  refine r_iconst dJ6_bitCount_0f7a4_2 ?_
  refine r_iushr dJ6_bitCount_0f7a4_3 ?_
  refine r_ldcw (n := 1431655765) co_J6_265 dJ6_bitCount_0f7a4_4 ?_
  refine r_iand dJ6_bitCount_0f7a4_7 ?_
  refine r_isub dJ6_bitCount_0f7a4_8 ?_
  obtain ⟨c1, H⟩ := H
  refine r_nm (fun y2 fy2 => ?_)
  have H := H y2 fy2
  have gy2 : sl_rg y2 := by rw [fy2]; exact c1
  refine r_istore_n (ls' := [(0, vI y2)]) gy2 rfl (by decide) rfl dJ6_bitCount_0f7a4_9 ?_
  refine r_iload_n (k := 0) rfl rfl dJ6_bitCount_0f7a4_10 ?_
  refine r_ldcw (n := 858993459) co_J6_266 dJ6_bitCount_0f7a4_11 ?_
  refine r_iand dJ6_bitCount_0f7a4_14 ?_
  refine r_iload_n (k := 0) rfl rfl dJ6_bitCount_0f7a4_15 ?_
  refine r_iconst dJ6_bitCount_0f7a4_16 ?_
  refine r_iushr dJ6_bitCount_0f7a4_17 ?_
  refine r_ldcw (n := 858993459) co_J6_266 dJ6_bitCount_0f7a4_18 ?_
  refine r_iand dJ6_bitCount_0f7a4_21 ?_
  refine r_iadd dJ6_bitCount_0f7a4_22 ?_
  obtain ⟨c3, H⟩ := H
  refine r_nm (fun y4 fy4 => ?_)
  have H := H y4 fy4
  have gy4 : sl_rg y4 := by rw [fy4]; exact c3
  refine r_istore_n (ls' := [(0, vI y4)]) gy4 rfl (by decide) rfl dJ6_bitCount_0f7a4_23 ?_
  refine r_iload_n (k := 0) rfl rfl dJ6_bitCount_0f7a4_24 ?_
  refine r_iload_n (k := 0) rfl rfl dJ6_bitCount_0f7a4_25 ?_
  refine r_iconst dJ6_bitCount_0f7a4_26 ?_
  refine r_iushr dJ6_bitCount_0f7a4_27 ?_
  refine r_iadd dJ6_bitCount_0f7a4_28 ?_
  refine r_ldcw (n := 252645135) co_J6_267 dJ6_bitCount_0f7a4_29 ?_
  refine r_iand dJ6_bitCount_0f7a4_32 ?_
  refine r_nm (fun y5 fy5 => ?_)
  have H := H y5 fy5
  have gy5 : sl_rg y5 := by rw [fy5]; exact (rg_iand _ _)
  refine r_istore_n (ls' := [(0, vI y5)]) gy5 rfl (by decide) rfl dJ6_bitCount_0f7a4_33 ?_
  refine r_iload_n (k := 0) rfl rfl dJ6_bitCount_0f7a4_34 ?_
  refine r_iload_n (k := 0) rfl rfl dJ6_bitCount_0f7a4_35 ?_
  refine r_bipush dJ6_bitCount_0f7a4_36 (by decide) ?_
  refine r_iushr dJ6_bitCount_0f7a4_38 ?_
  refine r_iadd dJ6_bitCount_0f7a4_39 ?_
  obtain ⟨c6, H⟩ := H
  refine r_nm (fun y7 fy7 => ?_)
  have H := H y7 fy7
  have gy7 : sl_rg y7 := by rw [fy7]; exact c6
  refine r_istore_n (ls' := [(0, vI y7)]) gy7 rfl (by decide) rfl dJ6_bitCount_0f7a4_40 ?_
  refine r_iload_n (k := 0) rfl rfl dJ6_bitCount_0f7a4_41 ?_
  refine r_iload_n (k := 0) rfl rfl dJ6_bitCount_0f7a4_42 ?_
  refine r_bipush dJ6_bitCount_0f7a4_43 (by decide) ?_
  refine r_iushr dJ6_bitCount_0f7a4_45 ?_
  refine r_iadd dJ6_bitCount_0f7a4_46 ?_
  obtain ⟨c8, H⟩ := H
  refine r_nm (fun y9 fy9 => ?_)
  have H := H y9 fy9
  have gy9 : sl_rg y9 := by rw [fy9]; exact c8
  refine r_istore_n (ls' := [(0, vI y9)]) gy9 rfl (by decide) rfl dJ6_bitCount_0f7a4_47 ?_
  refine r_iload_n (k := 0) rfl rfl dJ6_bitCount_0f7a4_48 ?_
  refine r_bipush dJ6_bitCount_0f7a4_49 (by decide) ?_
  refine r_iand dJ6_bitCount_0f7a4_51 ?_
  refine r_iret rfl (rg_iand _ _) dJ6_bitCount_0f7a4_52 ?_
  exact H
theorem eJ6_bitCount_0f7a4 {l : Launch} {M : sl_M} {Q : sl_R} {x0 : Int} (k : sl_At l mJ6_bitCount_0f7a4 0 [(0, vI x0)] [] M Q) : sl_Runs l mJ6_bitCount_0f7a4 [vI x0] M Q := sl_Runs.of (ls := [(0, vI x0)]) rfl rfl (fun _ => rfl) (fun _ => Nat.le_of_ble_eq_true rfl) rfl (k)
