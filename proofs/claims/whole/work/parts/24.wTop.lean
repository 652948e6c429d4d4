theorem dX9_type_0 : decode cX9_type 0 = .ok (.iload_n 1, 1) := by decide +kernel
theorem dX9_type_1 : decode cX9_type 1 = .ok (.ifCond .lt 9, 3) := by decide +kernel
theorem dX9_type_4 : decode cX9_type 4 = .ok (.iload_n 1, 1) := by decide +kernel
theorem dX9_type_5 : decode cX9_type 5 = .ok (.bipush 127, 2) := by decide +kernel
theorem dX9_type_7 : decode cX9_type 7 = .ok (.if_icmp .le 10, 3) := by decide +kernel
theorem dX9_type_10 : decode cX9_type 10 = .ok (.aload_n 0, 1) := by decide +kernel
theorem dX9_type_11 : decode cX9_type 11 = .ok (.bipush (-2), 2) := by decide +kernel
theorem dX9_type_13 : decode cX9_type 13 = .ok (.invokevirtual 58, 3) := by decide +kernel
theorem dX9_type_16 : decode cX9_type 16 = .ok (.ireturn, 1) := by decide +kernel
theorem dX9_type_17 : decode cX9_type 17 = .ok (.aload_n 0, 1) := by decide +kernel
theorem dX9_type_18 : decode cX9_type 18 = .ok (.getfield 62, 3) := by decide +kernel
theorem dX9_type_21 : decode cX9_type 21 = .ok (.sipush 160, 3) := by decide +kernel
theorem dX9_type_24 : decode cX9_type 24 = .ok (.if_icmp .lt 10, 3) := by decide +kernel
theorem dX9_type_27 : decode cX9_type 27 = .ok (.aload_n 0, 1) := by decide +kernel
theorem dX9_type_28 : decode cX9_type 28 = .ok (.bipush (-4), 2) := by decide +kernel
theorem dX9_type_30 : decode cX9_type 30 = .ok (.invokevirtual 58, 3) := by decide +kernel
theorem dX9_type_33 : decode cX9_type 33 = .ok (.ireturn, 1) := by decide +kernel
theorem dX9_type_34 : decode cX9_type 34 = .ok (.aload_n 0, 1) := by decide +kernel
theorem dX9_type_35 : decode cX9_type 35 = .ok (.getfield 9, 3) := by decide +kernel
theorem dX9_type_38 : decode cX9_type 38 = .ok (.aload_n 0, 1) := by decide +kernel
theorem dX9_type_39 : decode cX9_type 39 = .ok (.getfield 62, 3) := by decide +kernel
theorem dX9_type_42 : decode cX9_type 42 = .ok (.iload_n 1, 1) := by decide +kernel
theorem dX9_type_43 : decode cX9_type 43 = .ok (.iastore, 1) := by decide +kernel
theorem dX9_type_44 : decode cX9_type 44 = .ok (.aload_n 0, 1) := by decide +kernel
theorem dX9_type_45 : decode cX9_type 45 = .ok (.dup, 1) := by decide +kernel
theorem dX9_type_46 : decode cX9_type 46 = .ok (.getfield 62, 3) := by decide +kernel
theorem dX9_type_49 : decode cX9_type 49 = .ok (.iconst 1, 1) := by decide +kernel
theorem dX9_type_50 : decode cX9_type 50 = .ok (.iadd, 1) := by decide +kernel
theorem dX9_type_51 : decode cX9_type 51 = .ok (.putfield 62, 3) := by decide +kernel
theorem dX9_type_54 : decode cX9_type 54 = .ok (.aload_n 0, 1) := by decide +kernel
theorem dX9_type_55 : decode cX9_type 55 = .ok (.getfield 62, 3) := by decide +kernel
theorem dX9_type_58 : decode cX9_type 58 = .ok (.ireturn, 1) := by decide +kernel
set_option maxHeartbeats 4000000 in
set_option maxRecDepth 10000 in
theorem vX9_type_0 {l : Launch} {M : sl_M} {Q : sl_R} {x1 : Int} (H : sl_RM M → sl_rg x1 → ((x1 < 0) → sl_RI l mX9_refuse [vR 0 0, vI (-2)] M (fun y3 M2 => Q (some (vI y3)) M2)) ∧ ((¬ (x1 < 0)) → ((x1 ≤ 127) → ((M 0 0 1 < 160) → (0 ≤ M 0 0 1 ∧ M 0 0 1 < 160) ∧ (∀ M7, M7 = sl_wr M 0 1 (M 0 0 1) x1 → (sl_rg (M7 0 0 1 + 1)) ∧ (∀ M9, M9 = sl_wr M7 0 0 1 (M7 0 0 1 + 1) → Q (some (vI (M9 0 0 1))) M9))) ∧ ((¬ (M 0 0 1 < 160)) → sl_RI l mX9_refuse [vR 0 0, vI (-4)] M (fun y11 M10 => Q (some (vI y11)) M10))) ∧ ((¬ (x1 ≤ 127)) → sl_RI l mX9_refuse [vR 0 0, vI (-2)] M (fun y13 M12 => Q (some (vI y13)) M12)))) : sl_At l mX9_type 0 [(0, vR 0 0), (1, vI x1)] [] M Q := by
  refine sl_At.in (fun hM hls => ?_)
  have g1 : sl_rg x1 := hls _ (List.mem_of_getElem? (i := 1) rfl)
  have H := H hM g1
  refine r_iload_n (k := 1) rfl rfl dX9_type_0 ?_
  refine r_if_lt (tgt := 10) g1 dX9_type_1 (by decide) (fun h1 => ?_) (fun h1 => ?_)
  · have H := H.1 h1
    refine r_aload_n (k := 0) rfl rfl dX9_type_10 ?_
    refine r_bipush dX9_type_11 (by decide) ?_
    refine r_callV (g := mX9_refuse) ckX9 rfl rfl rfl rfl mkX9_refuse mvX9_refuse ml_X9_58 ⟨by decide, by decide⟩ rfl (Nat.le_of_ble_eq_true rfl) rfl (ok_i ⟨by decide, by decide⟩ ok_n) dX9_type_13 (sl_afterI (sl_RI.mono (fun y3 M2 gy3 hM2 H => ?_) H))
    refine r_iret rfl gy3 dX9_type_16 ?_
    exact H
  · have H := H.2 h1
    refine r_iload_n (k := 1) rfl rfl dX9_type_4 ?_
    refine r_bipush dX9_type_5 (by decide) ?_
    refine r_icmp_le (tgt := 17) g1 ⟨by decide, by decide⟩ dX9_type_7 (by decide) (fun h4 => ?_) (fun h4 => ?_)
    · have H := H.1 h4
      refine r_aload_n (k := 0) rfl rfl dX9_type_17 ?_
      refine r_gI (k := 1) (kz := 1) rfl ckX9 rfl rfl (by decide) rfl rfl fl_X9_62 dX9_type_18 ?_
      refine r_sipush dX9_type_21 (by decide) ?_
      refine r_icmp_lt (tgt := 34) (hM _ _ _) ⟨by decide, by decide⟩ dX9_type_24 (by decide) (fun h5 => ?_) (fun h5 => ?_)
      · have H := H.1 h5
        refine r_aload_n (k := 0) rfl rfl dX9_type_34 ?_
        refine r_getR (k := 0) (o' := 0) (i' := 1) ckX9 rfl rfl (by decide) rfl rfl rfl fl_X9_9 dX9_type_35 ?_
        refine r_aload_n (k := 0) rfl rfl dX9_type_38 ?_
        refine r_gI (k := 1) (kz := 1) rfl ckX9 rfl rfl (by decide) rfl rfl fl_X9_62 dX9_type_39 ?_
        refine r_iload_n (k := 1) rfl rfl dX9_type_42 ?_
        obtain ⟨c6, H⟩ := H
        refine r_iast rfl rfl rfl c6 g1 dX9_type_43 ?_
        refine r_mm (fun M7 e7 => ?_)
        have H := H M7 e7
        have hM7 : sl_RM M7 := by rw [e7]; exact sl_wr_RM hM g1
        refine r_aload_n (k := 0) rfl rfl dX9_type_44 ?_
        refine r_dup rfl dX9_type_45 ?_
        refine r_gI (k := 1) (kz := 1) rfl ckX9 rfl rfl (by decide) rfl rfl fl_X9_62 dX9_type_46 ?_
        refine r_iconst dX9_type_49 ?_
        refine r_iadd dX9_type_50 ?_
        obtain ⟨c8, H⟩ := H
        refine r_pI (k := 1) (kz := 1) rfl ckX9 rfl rfl (by decide) rfl rfl rfl rfl fl_X9_62 c8 dX9_type_51 ?_
        refine r_mm (fun M9 e9 => ?_)
        have H := H M9 e9
        have hM9 : sl_RM M9 := by rw [e9]; exact sl_wr_RM hM7 c8
        refine r_aload_n (k := 0) rfl rfl dX9_type_54 ?_
        refine r_gI (k := 1) (kz := 1) rfl ckX9 rfl rfl (by decide) rfl rfl fl_X9_62 dX9_type_55 ?_
        refine r_iret rfl (hM9 _ _ _) dX9_type_58 ?_
        exact H
      · have H := H.2 h5
        refine r_aload_n (k := 0) rfl rfl dX9_type_27 ?_
        refine r_bipush dX9_type_28 (by decide) ?_
        refine r_callV (g := mX9_refuse) ckX9 rfl rfl rfl rfl mkX9_refuse mvX9_refuse ml_X9_58 ⟨by decide, by decide⟩ rfl (Nat.le_of_ble_eq_true rfl) rfl (ok_i ⟨by decide, by decide⟩ ok_n) dX9_type_30 (sl_afterI (sl_RI.mono (fun y11 M10 gy11 hM10 H => ?_) H))
        refine r_iret rfl gy11 dX9_type_33 ?_
        exact H
    · have H := H.2 h4
      refine r_aload_n (k := 0) rfl rfl dX9_type_10 ?_
      refine r_bipush dX9_type_11 (by decide) ?_
      refine r_callV (g := mX9_refuse) ckX9 rfl rfl rfl rfl mkX9_refuse mvX9_refuse ml_X9_58 ⟨by decide, by decide⟩ rfl (Nat.le_of_ble_eq_true rfl) rfl (ok_i ⟨by decide, by decide⟩ ok_n) dX9_type_13 (sl_afterI (sl_RI.mono (fun y13 M12 gy13 hM12 H => ?_) H))
      refine r_iret rfl gy13 dX9_type_16 ?_
      exact H
theorem eX9_type {l : Launch} {M : sl_M} {Q : sl_R} {x1 : Int} (k : sl_At l mX9_type 0 [(0, vR 0 0), (1, vI x1)] [] M Q) : sl_Runs l mX9_type [vR 0 0, vI x1] M Q := sl_Runs.of (ls := [(0, vR 0 0), (1, vI x1)]) rfl rfl (fun _ => rfl) (fun _ => Nat.le_of_ble_eq_true rfl) rfl (k)
theorem dX9_clear_0 : decode cX9_clear 0 = .ok (.aload_n 0, 1) := by decide +kernel
theorem dX9_clear_1 : decode cX9_clear 1 = .ok (.getfield 62, 3) := by decide +kernel
theorem dX9_clear_4 : decode cX9_clear 4 = .ok (.istore_n 1, 1) := by decide +kernel
theorem dX9_clear_5 : decode cX9_clear 5 = .ok (.aload_n 0, 1) := by decide +kernel
theorem dX9_clear_6 : decode cX9_clear 6 = .ok (.iconst 0, 1) := by decide +kernel
theorem dX9_clear_7 : decode cX9_clear 7 = .ok (.putfield 62, 3) := by decide +kernel
theorem dX9_clear_10 : decode cX9_clear 10 = .ok (.iload_n 1, 1) := by decide +kernel
theorem dX9_clear_11 : decode cX9_clear 11 = .ok (.ireturn, 1) := by decide +kernel
set_option maxHeartbeats 4000000 in
set_option maxRecDepth 10000 in
theorem vX9_clear_0 {l : Launch} {M : sl_M} {Q : sl_R} (H : sl_RM M → (∀ M1, M1 = sl_wr M 0 0 1 0 → Q (some (vI (M 0 0 1))) M1)) : sl_At l mX9_clear 0 [(0, vR 0 0)] [] M Q := by
  refine sl_At.in (fun hM hls => ?_)
  have H := H hM
  refine r_aload_n (k := 0) rfl rfl dX9_clear_0 ?_
  refine r_gI (k := 1) (kz := 1) rfl ckX9 rfl rfl (by decide) rfl rfl fl_X9_62 dX9_clear_1 ?_
  refine r_istore_n (ls' := [(1, vI (M 0 0 1)), (0, vR 0 0)]) (hM _ _ _) rfl (by decide) rfl dX9_clear_4 ?_
  refine r_aload_n (k := 1) rfl rfl dX9_clear_5 ?_
  refine r_iconst dX9_clear_6 ?_
  refine r_pI (k := 1) (kz := 1) rfl ckX9 rfl rfl (by decide) rfl rfl rfl rfl fl_X9_62 ⟨by decide, by decide⟩ dX9_clear_7 ?_
  refine r_mm (fun M1 e1 => ?_)
  have H := H M1 e1
  have hM1 : sl_RM M1 := by rw [e1]; exact sl_wr_RM hM ⟨by decide, by decide⟩
  refine r_iload_n (k := 0) rfl rfl dX9_clear_10 ?_
  refine r_iret rfl (hM _ _ _) dX9_clear_11 ?_
  exact H
theorem eX9_clear {l : Launch} {M : sl_M} {Q : sl_R}  (k : sl_At l mX9_clear 0 [(0, vR 0 0)] [] M Q) : sl_Runs l mX9_clear [vR 0 0] M Q := sl_Runs.of (ls := [(0, vR 0 0)]) rfl rfl (fun _ => rfl) (fun _ => Nat.le_of_ble_eq_true rfl) rfl (k)
theorem dX9_reads_0 : decode cX9_reads 0 = .ok (.aload_n 0, 1) := by decide +kernel
theorem dX9_reads_1 : decode cX9_reads 1 = .ok (.invokevirtual 66, 3) := by decide +kernel
theorem dX9_reads_4 : decode cX9_reads 4 = .ok (.astore_n 1, 1) := by decide +kernel
theorem dX9_reads_5 : decode cX9_reads 5 = .ok (.aload_n 1, 1) := by decide +kernel
theorem dX9_reads_6 : decode cX9_reads 6 = .ok (.iconst 0, 1) := by decide +kernel
theorem dX9_reads_7 : decode cX9_reads 7 = .ok (.putfield 70, 3) := by decide +kernel
theorem dX9_reads_10 : decode cX9_reads 10 = .ok (.aload_n 0, 1) := by decide +kernel
theorem dX9_reads_11 : decode cX9_reads 11 = .ok (.getfield 25, 3) := by decide +kernel
theorem dX9_reads_14 : decode cX9_reads 14 = .ok (.aload_n 0, 1) := by decide +kernel
theorem dX9_reads_15 : decode cX9_reads 15 = .ok (.getfield 9, 3) := by decide +kernel
theorem dX9_reads_18 : decode cX9_reads 18 = .ok (.aload_n 0, 1) := by decide +kernel
theorem dX9_reads_19 : decode cX9_reads 19 = .ok (.getfield 62, 3) := by decide +kernel
theorem dX9_reads_22 : decode cX9_reads 22 = .ok (.aload_n 1, 1) := by decide +kernel
theorem dX9_reads_23 : decode cX9_reads 23 = .ok (.getfield 73, 3) := by decide +kernel
theorem dX9_reads_26 : decode cX9_reads 26 = .ok (.invokevirtual 77, 3) := by decide +kernel
theorem dX9_reads_29 : decode cX9_reads 29 = .ok (.ifCond .ne 14, 3) := by decide +kernel
theorem dX9_reads_32 : decode cX9_reads 32 = .ok (.bipush (-10), 2) := by decide +kernel
theorem dX9_reads_34 : decode cX9_reads 34 = .ok (.aload_n 0, 1) := by decide +kernel
theorem dX9_reads_35 : decode cX9_reads 35 = .ok (.getfield 25, 3) := by decide +kernel
theorem dX9_reads_38 : decode cX9_reads 38 = .ok (.getfield 81, 3) := by decide +kernel
theorem dX9_reads_41 : decode cX9_reads 41 = .ok (.isub, 1) := by decide +kernel
theorem dX9_reads_42 : decode cX9_reads 42 = .ok (.ireturn, 1) := by decide +kernel
theorem dX9_reads_43 : decode cX9_reads 43 = .ok (.aload_n 0, 1) := by decide +kernel
theorem dX9_reads_44 : decode cX9_reads 44 = .ok (.invokevirtual 84, 3) := by decide +kernel
theorem dX9_reads_47 : decode cX9_reads 47 = .ok (.aload_n 1, 1) := by decide +kernel
theorem dX9_reads_48 : decode cX9_reads 48 = .ok (.getfield 73, 3) := by decide +kernel
theorem dX9_reads_51 : decode cX9_reads 51 = .ok (.getfield 87, 3) := by decide +kernel
theorem dX9_reads_54 : decode cX9_reads 54 = .ok (.ireturn, 1) := by decide +kernel
set_option maxHeartbeats 4000000 in
set_option maxRecDepth 10000 in
theorem vX9_reads_0 {l : Launch} {M : sl_M} {Q : sl_R} (H : sl_RM M → sl_RR l mX9_spare [vR 0 0] M (fun p2 M1 => (sl_cls p2 = 7) ∧ (∀ M3, M3 = sl_wr M1 p2 0 2 0 → sl_RI l mX4_parse [vR 2 0, vR 0 1, vI (M3 0 0 1), vR (p2 + 10) 0] M3 (fun y5 M4 => ((y5 ≠ 0) → sl_RV l mX9_advance [vR 0 0] M4 (fun M7 => Q (some (vI (M7 (p2 + 10) 0 11))) M7)) ∧ ((¬ (y5 ≠ 0)) → (sl_rg ((-10) - (M4 2 0 4))) ∧ Q (some (vI ((-10) - (M4 2 0 4)))) M4))))) : sl_At l mX9_reads 0 [(0, vR 0 0)] [] M Q := by
  refine sl_At.in (fun hM hls => ?_)
  have H := H hM
  refine r_aload_n (k := 0) rfl rfl dX9_reads_0 ?_
  refine r_callV (g := mX9_spare) ckX9 rfl rfl rfl rfl mkX9_spare mvX9_spare ml_X9_66 ⟨by decide, by decide⟩ rfl (Nat.le_of_ble_eq_true rfl) rfl ok_n dX9_reads_1 (sl_afterR (sl_RR.mono (fun p2 M1 hM1 H => ?_) H))
  obtain ⟨zp2, H⟩ := H
  refine r_astore_n (ls' := [(1, vR p2 0), (0, vR 0 0)]) rfl (by decide) rfl dX9_reads_4 ?_
  refine r_aload_n (k := 0) rfl rfl dX9_reads_5 ?_
  refine r_iconst dX9_reads_6 ?_
  refine r_pI (k := 2) (kz := 2) rfl ckX7 zp2 rfl (by decide) rfl rfl rfl rfl fl_X9_70 ⟨by decide, by decide⟩ dX9_reads_7 ?_
  refine r_mm (fun M3 e3 => ?_)
  have H := H M3 e3
  have hM3 : sl_RM M3 := by rw [e3]; exact sl_wr_RM hM1 ⟨by decide, by decide⟩
  refine r_aload_n (k := 1) rfl rfl dX9_reads_10 ?_
  refine r_getR (k := 6) (o' := 2) (i' := 0) ckX9 rfl rfl (by decide) rfl rfl rfl fl_X9_25 dX9_reads_11 ?_
  refine r_aload_n (k := 1) rfl rfl dX9_reads_14 ?_
  refine r_getR (k := 0) (o' := 0) (i' := 1) ckX9 rfl rfl (by decide) rfl rfl rfl fl_X9_9 dX9_reads_15 ?_
  refine r_aload_n (k := 1) rfl rfl dX9_reads_18 ?_
  refine r_gI (k := 1) (kz := 1) rfl ckX9 rfl rfl (by decide) rfl rfl fl_X9_62 dX9_reads_19 ?_
  refine r_aload_n (k := 0) rfl rfl dX9_reads_22 ?_
  refine r_getR (k := 0) (o' := p2 + 10) (i' := 0) ckX7 zp2 rfl (by decide) rfl rfl rfl fl_X9_73 dX9_reads_23 ?_
  refine r_callV (g := mX4_parse) ckX4 rfl rfl rfl rfl mkX4_parse mvX4_parse ml_X9_77 ⟨by decide, by decide⟩ rfl (Nat.le_of_ble_eq_true rfl) rfl (ok_r (ok_i (hM3 _ _ _) (ok_r ok_n))) dX9_reads_26 (sl_afterI (sl_RI.mono (fun y5 M4 gy5 hM4 H => ?_) H))
  refine r_if_ne (tgt := 43) gy5 dX9_reads_29 (by decide) (fun h6 => ?_) (fun h6 => ?_)
  · have H := H.1 h6
    refine r_aload_n (k := 1) rfl rfl dX9_reads_43 ?_
    refine r_callV (g := mX9_advance) ckX9 rfl rfl rfl rfl mkX9_advance mvX9_advance ml_X9_84 ⟨by decide, by decide⟩ rfl (Nat.le_of_ble_eq_true rfl) rfl ok_n dX9_reads_44 (sl_afterV (sl_RV.mono (fun M7 hM7 H => ?_) H))
    refine r_aload_n (k := 0) rfl rfl dX9_reads_47 ?_
    refine r_getR (k := 0) (o' := p2 + 10) (i' := 0) ckX7 zp2 rfl (by decide) rfl rfl rfl fl_X9_73 dX9_reads_48 ?_
    refine r_gI (k := 11) (kz := 11) rfl ckX0 (cl_prog zp2) rfl (by decide) rfl rfl fl_X9_87 dX9_reads_51 ?_
    refine r_iret rfl (hM7 _ _ _) dX9_reads_54 ?_
    exact H
  · have H := H.2 h6
    refine r_bipush dX9_reads_32 (by decide) ?_
    refine r_aload_n (k := 1) rfl rfl dX9_reads_34 ?_
    refine r_getR (k := 6) (o' := 2) (i' := 0) ckX9 rfl rfl (by decide) rfl rfl rfl fl_X9_25 dX9_reads_35 ?_
    refine r_gI (k := 4) (kz := 4) rfl ckX4 rfl rfl (by decide) rfl rfl fl_X9_81 dX9_reads_38 ?_
    refine r_isub dX9_reads_41 ?_
    obtain ⟨c8, H⟩ := H
    refine r_iret rfl c8 dX9_reads_42 ?_
    exact H
theorem eX9_reads {l : Launch} {M : sl_M} {Q : sl_R}  (k : sl_At l mX9_reads 0 [(0, vR 0 0)] [] M Q) : sl_Runs l mX9_reads [vR 0 0] M Q := sl_Runs.of (ls := [(0, vR 0 0)]) rfl rfl (fun _ => rfl) (fun _ => Nat.le_of_ble_eq_true rfl) rfl (k)
theorem dX9_statement_0 : decode cX9_statement 0 = .ok (.aload_n 0, 1) := by decide +kernel
theorem dX9_statement_1 : decode cX9_statement 1 = .ok (.invokevirtual 92, 3) := by decide +kernel
theorem dX9_statement_4 : decode cX9_statement 4 = .ok (.getfield 73, 3) := by decide +kernel
theorem dX9_statement_7 : decode cX9_statement 7 = .ok (.astore_n 3, 1) := by decide +kernel
theorem dX9_statement_8 : decode cX9_statement 8 = .ok (.aload_n 3, 1) := by decide +kernel
theorem dX9_statement_9 : decode cX9_statement 9 = .ok (.iload_n 1, 1) := by decide +kernel
theorem dX9_statement_10 : decode cX9_statement 10 = .ok (.invokevirtual 95, 3) := by decide +kernel
theorem dX9_statement_13 : decode cX9_statement 13 = .ok (.ifCond .eq 13, 3) := by decide +kernel
theorem dX9_statement_16 : decode cX9_statement 16 = .ok (.iload_n 2, 1) := by decide +kernel
theorem dX9_statement_17 : decode cX9_statement 17 = .ok (.ifCond .lt 9, 3) := by decide +kernel
theorem dX9_statement_20 : decode cX9_statement 20 = .ok (.iload_n 2, 1) := by decide +kernel
theorem dX9_statement_21 : decode cX9_statement 21 = .ok (.bipush 6, 2) := by decide +kernel
theorem dX9_statement_23 : decode cX9_statement 23 = .ok (.if_icmp .le 10, 3) := by decide +kernel
theorem dX9_statement_26 : decode cX9_statement 26 = .ok (.aload_n 0, 1) := by decide +kernel
theorem dX9_statement_27 : decode cX9_statement 27 = .ok (.bipush (-2), 2) := by decide +kernel
theorem dX9_statement_29 : decode cX9_statement 29 = .ok (.invokevirtual 58, 3) := by decide +kernel
theorem dX9_statement_32 : decode cX9_statement 32 = .ok (.ireturn, 1) := by decide +kernel
theorem dX9_statement_33 : decode cX9_statement 33 = .ok (.aload_n 3, 1) := by decide +kernel
theorem dX9_statement_34 : decode cX9_statement 34 = .ok (.iload_n 1, 1) := by decide +kernel
theorem dX9_statement_35 : decode cX9_statement 35 = .ok (.iload_n 2, 1) := by decide +kernel
theorem dX9_statement_36 : decode cX9_statement 36 = .ok (.invokevirtual 99, 3) := by decide +kernel
theorem dX9_statement_39 : decode cX9_statement 39 = .ok (.ireturn, 1) := by decide +kernel
set_option maxHeartbeats 4000000 in
set_option maxRecDepth 10000 in
theorem vX9_statement_0 {l : Launch} {M : sl_M} {Q : sl_R} {x1 x2 : Int} (H : sl_RM M → sl_rg x1 → sl_rg x2 → sl_RR l mX9_present [vR 0 0] M (fun p2 M1 => (sl_cls p2 = 7) ∧ sl_RI l mX0_holds [vR (p2 + 10) 0, vI x1] M1 (fun y4 M3 => ((y4 = 0) → sl_RI l mX9_refuse [vR 0 0, vI (-2)] M3 (fun y7 M6 => Q (some (vI y7)) M6)) ∧ ((¬ (y4 = 0)) → ((x2 < 0) → sl_RI l mX9_refuse [vR 0 0, vI (-2)] M3 (fun y10 M9 => Q (some (vI y10)) M9)) ∧ ((¬ (x2 < 0)) → ((x2 ≤ 6) → sl_RI l mX0_property [vR (p2 + 10) 0, vI x1, vI x2] M3 (fun y13 M12 => Q (some (vI y13)) M12)) ∧ ((¬ (x2 ≤ 6)) → sl_RI l mX9_refuse [vR 0 0, vI (-2)] M3 (fun y15 M14 => Q (some (vI y15)) M14))))))) : sl_At l mX9_statement 0 [(0, vR 0 0), (1, vI x1), (2, vI x2)] [] M Q := by
  refine sl_At.in (fun hM hls => ?_)
  have g1 : sl_rg x1 := hls _ (List.mem_of_getElem? (i := 1) rfl)
  have g2 : sl_rg x2 := hls _ (List.mem_of_getElem? (i := 2) rfl)
  have H := H hM g1 g2
  refine r_aload_n (k := 0) rfl rfl dX9_statement_0 ?_
  refine r_callV (g := mX9_present) ckX9 rfl rfl rfl rfl mkX9_present mvX9_present ml_X9_92 ⟨by decide, by decide⟩ rfl (Nat.le_of_ble_eq_true rfl) rfl ok_n dX9_statement_1 (sl_afterR (sl_RR.mono (fun p2 M1 hM1 H => ?_) H))
  obtain ⟨zp2, H⟩ := H
  refine r_getR (k := 0) (o' := p2 + 10) (i' := 0) ckX7 zp2 rfl (by decide) rfl rfl rfl fl_X9_73 dX9_statement_4 ?_
  refine r_astore_n (ls' := [(3, vR (p2 + 10) 0), (0, vR 0 0), (1, vI x1), (2, vI x2)]) rfl (by decide) rfl dX9_statement_7 ?_
  refine r_aload_n (k := 0) rfl rfl dX9_statement_8 ?_
  refine r_iload_n (k := 2) rfl rfl dX9_statement_9 ?_
  refine r_callV (g := mX0_holds) ckX0 (cl_prog zp2) rfl rfl rfl mkX0_holds mvX0_holds ml_X9_95 ⟨by decide, by decide⟩ rfl (Nat.le_of_ble_eq_true rfl) rfl (ok_i g1 ok_n) dX9_statement_10 (sl_afterI (sl_RI.mono (fun y4 M3 gy4 hM3 H => ?_) H))
  refine r_if_eq (tgt := 26) gy4 dX9_statement_13 (by decide) (fun h5 => ?_) (fun h5 => ?_)
  · have H := H.1 h5
    refine r_aload_n (k := 1) rfl rfl dX9_statement_26 ?_
    refine r_bipush dX9_statement_27 (by decide) ?_
    refine r_callV (g := mX9_refuse) ckX9 rfl rfl rfl rfl mkX9_refuse mvX9_refuse ml_X9_58 ⟨by decide, by decide⟩ rfl (Nat.le_of_ble_eq_true rfl) rfl (ok_i ⟨by decide, by decide⟩ ok_n) dX9_statement_29 (sl_afterI (sl_RI.mono (fun y7 M6 gy7 hM6 H => ?_) H))
    refine r_iret rfl gy7 dX9_statement_32 ?_
    exact H
  · have H := H.2 h5
    refine r_iload_n (k := 3) rfl rfl dX9_statement_16 ?_
    refine r_if_lt (tgt := 26) g2 dX9_statement_17 (by decide) (fun h8 => ?_) (fun h8 => ?_)
    · have H := H.1 h8
      refine r_aload_n (k := 1) rfl rfl dX9_statement_26 ?_
      refine r_bipush dX9_statement_27 (by decide) ?_
      refine r_callV (g := mX9_refuse) ckX9 rfl rfl rfl rfl mkX9_refuse mvX9_refuse ml_X9_58 ⟨by decide, by decide⟩ rfl (Nat.le_of_ble_eq_true rfl) rfl (ok_i ⟨by decide, by decide⟩ ok_n) dX9_statement_29 (sl_afterI (sl_RI.mono (fun y10 M9 gy10 hM9 H => ?_) H))
      refine r_iret rfl gy10 dX9_statement_32 ?_
      exact H
    · have H := H.2 h8
      refine r_iload_n (k := 3) rfl rfl dX9_statement_20 ?_
      refine r_bipush dX9_statement_21 (by decide) ?_
      refine r_icmp_le (tgt := 33) g2 ⟨by decide, by decide⟩ dX9_statement_23 (by decide) (fun h11 => ?_) (fun h11 => ?_)
      · have H := H.1 h11
        refine r_aload_n (k := 0) rfl rfl dX9_statement_33 ?_
        refine r_iload_n (k := 2) rfl rfl dX9_statement_34 ?_
        refine r_iload_n (k := 3) rfl rfl dX9_statement_35 ?_
        refine r_callV (g := mX0_property) ckX0 (cl_prog zp2) rfl rfl rfl mkX0_property mvX0_property ml_X9_99 ⟨by decide, by decide⟩ rfl (Nat.le_of_ble_eq_true rfl) rfl (ok_i g1 (ok_i g2 ok_n)) dX9_statement_36 (sl_afterI (sl_RI.mono (fun y13 M12 gy13 hM12 H => ?_) H))
        refine r_iret rfl gy13 dX9_statement_39 ?_
        exact H
      · have H := H.2 h11
        refine r_aload_n (k := 1) rfl rfl dX9_statement_26 ?_
        refine r_bipush dX9_statement_27 (by decide) ?_
        refine r_callV (g := mX9_refuse) ckX9 rfl rfl rfl rfl mkX9_refuse mvX9_refuse ml_X9_58 ⟨by decide, by decide⟩ rfl (Nat.le_of_ble_eq_true rfl) rfl (ok_i ⟨by decide, by decide⟩ ok_n) dX9_statement_29 (sl_afterI (sl_RI.mono (fun y15 M14 gy15 hM14 H => ?_) H))
        refine r_iret rfl gy15 dX9_statement_32 ?_
        exact H
theorem eX9_statement {l : Launch} {M : sl_M} {Q : sl_R} {x1 x2 : Int} (k : sl_At l mX9_statement 0 [(0, vR 0 0), (1, vI x1), (2, vI x2)] [] M Q) : sl_Runs l mX9_statement [vR 0 0, vI x1, vI x2] M Q := sl_Runs.of (ls := [(0, vR 0 0), (1, vI x1), (2, vI x2)]) rfl rfl (fun _ => rfl) (fun _ => Nat.le_of_ble_eq_true rfl) rfl (k)
theorem dX9_sign_0 : decode cX9_sign 0 = .ok (.aload_n 0, 1) := by decide +kernel
theorem dX9_sign_1 : decode cX9_sign 1 = .ok (.invokevirtual 92, 3) := by decide +kernel
theorem dX9_sign_4 : decode cX9_sign 4 = .ok (.getfield 73, 3) := by decide +kernel
theorem dX9_sign_7 : decode cX9_sign 7 = .ok (.astore_n 3, 1) := by decide +kernel
theorem dX9_sign_8 : decode cX9_sign 8 = .ok (.aload_n 3, 1) := by decide +kernel
theorem dX9_sign_9 : decode cX9_sign 9 = .ok (.iload_n 1, 1) := by decide +kernel
theorem dX9_sign_10 : decode cX9_sign 10 = .ok (.invokevirtual 95, 3) := by decide +kernel
theorem dX9_sign_13 : decode cX9_sign 13 = .ok (.ifCond .eq 7, 3) := by decide +kernel
theorem dX9_sign_16 : decode cX9_sign 16 = .ok (.iload_n 2, 1) := by decide +kernel
theorem dX9_sign_17 : decode cX9_sign 17 = .ok (.ifCond .ge 10, 3) := by decide +kernel
theorem dX9_sign_20 : decode cX9_sign 20 = .ok (.aload_n 0, 1) := by decide +kernel
theorem dX9_sign_21 : decode cX9_sign 21 = .ok (.bipush (-2), 2) := by decide +kernel
theorem dX9_sign_23 : decode cX9_sign 23 = .ok (.invokevirtual 58, 3) := by decide +kernel
theorem dX9_sign_26 : decode cX9_sign 26 = .ok (.ireturn, 1) := by decide +kernel
theorem dX9_sign_27 : decode cX9_sign 27 = .ok (.aload_n 3, 1) := by decide +kernel
theorem dX9_sign_28 : decode cX9_sign 28 = .ok (.iload_n 1, 1) := by decide +kernel
theorem dX9_sign_29 : decode cX9_sign 29 = .ok (.iload_n 2, 1) := by decide +kernel
theorem dX9_sign_30 : decode cX9_sign 30 = .ok (.invokevirtual 103, 3) := by decide +kernel
theorem dX9_sign_33 : decode cX9_sign 33 = .ok (.ireturn, 1) := by decide +kernel
set_option maxHeartbeats 4000000 in
set_option maxRecDepth 10000 in
theorem vX9_sign_0 {l : Launch} {M : sl_M} {Q : sl_R} {x1 x2 : Int} (H : sl_RM M → sl_rg x1 → sl_rg x2 → sl_RR l mX9_present [vR 0 0] M (fun p2 M1 => (sl_cls p2 = 7) ∧ sl_RI l mX0_holds [vR (p2 + 10) 0, vI x1] M1 (fun y4 M3 => ((y4 = 0) → sl_RI l mX9_refuse [vR 0 0, vI (-2)] M3 (fun y7 M6 => Q (some (vI y7)) M6)) ∧ ((¬ (y4 = 0)) → ((0 ≤ x2) → sl_RI l mX0_symbol [vR (p2 + 10) 0, vI x1, vI x2] M3 (fun y10 M9 => Q (some (vI y10)) M9)) ∧ ((¬ (0 ≤ x2)) → sl_RI l mX9_refuse [vR 0 0, vI (-2)] M3 (fun y12 M11 => Q (some (vI y12)) M11)))))) : sl_At l mX9_sign 0 [(0, vR 0 0), (1, vI x1), (2, vI x2)] [] M Q := by
  refine sl_At.in (fun hM hls => ?_)
  have g1 : sl_rg x1 := hls _ (List.mem_of_getElem? (i := 1) rfl)
  have g2 : sl_rg x2 := hls _ (List.mem_of_getElem? (i := 2) rfl)
  have H := H hM g1 g2
  refine r_aload_n (k := 0) rfl rfl dX9_sign_0 ?_
  refine r_callV (g := mX9_present) ckX9 rfl rfl rfl rfl mkX9_present mvX9_present ml_X9_92 ⟨by decide, by decide⟩ rfl (Nat.le_of_ble_eq_true rfl) rfl ok_n dX9_sign_1 (sl_afterR (sl_RR.mono (fun p2 M1 hM1 H => ?_) H))
  obtain ⟨zp2, H⟩ := H
  refine r_getR (k := 0) (o' := p2 + 10) (i' := 0) ckX7 zp2 rfl (by decide) rfl rfl rfl fl_X9_73 dX9_sign_4 ?_
  refine r_astore_n (ls' := [(3, vR (p2 + 10) 0), (0, vR 0 0), (1, vI x1), (2, vI x2)]) rfl (by decide) rfl dX9_sign_7 ?_
  refine r_aload_n (k := 0) rfl rfl dX9_sign_8 ?_
  refine r_iload_n (k := 2) rfl rfl dX9_sign_9 ?_
  refine r_callV (g := mX0_holds) ckX0 (cl_prog zp2) rfl rfl rfl mkX0_holds mvX0_holds ml_X9_95 ⟨by decide, by decide⟩ rfl (Nat.le_of_ble_eq_true rfl) rfl (ok_i g1 ok_n) dX9_sign_10 (sl_afterI (sl_RI.mono (fun y4 M3 gy4 hM3 H => ?_) H))
  refine r_if_eq (tgt := 20) gy4 dX9_sign_13 (by decide) (fun h5 => ?_) (fun h5 => ?_)
  · have H := H.1 h5
    refine r_aload_n (k := 1) rfl rfl dX9_sign_20 ?_
    refine r_bipush dX9_sign_21 (by decide) ?_
    refine r_callV (g := mX9_refuse) ckX9 rfl rfl rfl rfl mkX9_refuse mvX9_refuse ml_X9_58 ⟨by decide, by decide⟩ rfl (Nat.le_of_ble_eq_true rfl) rfl (ok_i ⟨by decide, by decide⟩ ok_n) dX9_sign_23 (sl_afterI (sl_RI.mono (fun y7 M6 gy7 hM6 H => ?_) H))
    refine r_iret rfl gy7 dX9_sign_26 ?_
    exact H
  · have H := H.2 h5
    refine r_iload_n (k := 3) rfl rfl dX9_sign_16 ?_
    refine r_if_ge (tgt := 27) g2 dX9_sign_17 (by decide) (fun h8 => ?_) (fun h8 => ?_)
    · have H := H.1 h8
      refine r_aload_n (k := 0) rfl rfl dX9_sign_27 ?_
      refine r_iload_n (k := 2) rfl rfl dX9_sign_28 ?_
      refine r_iload_n (k := 3) rfl rfl dX9_sign_29 ?_
      refine r_callV (g := mX0_symbol) ckX0 (cl_prog zp2) rfl rfl rfl mkX0_symbol mvX0_symbol ml_X9_103 ⟨by decide, by decide⟩ rfl (Nat.le_of_ble_eq_true rfl) rfl (ok_i g1 (ok_i g2 ok_n)) dX9_sign_30 (sl_afterI (sl_RI.mono (fun y10 M9 gy10 hM9 H => ?_) H))
      refine r_iret rfl gy10 dX9_sign_33 ?_
      exact H
    · have H := H.2 h8
      refine r_aload_n (k := 1) rfl rfl dX9_sign_20 ?_
      refine r_bipush dX9_sign_21 (by decide) ?_
      refine r_callV (g := mX9_refuse) ckX9 rfl rfl rfl rfl mkX9_refuse mvX9_refuse ml_X9_58 ⟨by decide, by decide⟩ rfl (Nat.le_of_ble_eq_true rfl) rfl (ok_i ⟨by decide, by decide⟩ ok_n) dX9_sign_23 (sl_afterI (sl_RI.mono (fun y12 M11 gy12 hM11 H => ?_) H))
      refine r_iret rfl gy12 dX9_sign_26 ?_
      exact H
theorem eX9_sign {l : Launch} {M : sl_M} {Q : sl_R} {x1 x2 : Int} (k : sl_At l mX9_sign 0 [(0, vR 0 0), (1, vI x1), (2, vI x2)] [] M Q) : sl_Runs l mX9_sign [vR 0 0, vI x1, vI x2] M Q := sl_Runs.of (ls := [(0, vR 0 0), (1, vI x1), (2, vI x2)]) rfl rfl (fun _ => rfl) (fun _ => Nat.le_of_ble_eq_true rfl) rfl (k)
theorem dX9_runs_0 : decode cX9_runs 0 = .ok (.aload_n 0, 1) := by decide +kernel
theorem dX9_runs_1 : decode cX9_runs 1 = .ok (.getfield 32, 3) := by decide +kernel
theorem dX9_runs_4 : decode cX9_runs 4 = .ok (.aload_n 0, 1) := by decide +kernel
theorem dX9_runs_5 : decode cX9_runs 5 = .ok (.invokevirtual 92, 3) := by decide +kernel
theorem dX9_runs_8 : decode cX9_runs 8 = .ok (.iload_n 1, 1) := by decide +kernel
theorem dX9_runs_9 : decode cX9_runs 9 = .ok (.iload_n 2, 1) := by decide +kernel
theorem dX9_runs_10 : decode cX9_runs 10 = .ok (.invokevirtual 106, 3) := by decide +kernel
theorem dX9_runs_13 : decode cX9_runs 13 = .ok (.ireturn, 1) := by decide +kernel
set_option maxHeartbeats 4000000 in
set_option maxRecDepth 10000 in
theorem vX9_runs_0 {l : Launch} {M : sl_M} {Q : sl_R} {x1 x2 : Int} (H : sl_RM M → sl_rg x1 → sl_rg x2 → sl_RR l mX9_present [vR 0 0] M (fun p2 M1 => (sl_cls p2 = 7) ∧ sl_RI l mX3_execute [vR 3 0, vR p2 0, vI x1, vI x2] M1 (fun y4 M3 => Q (some (vI y4)) M3))) : sl_At l mX9_runs 0 [(0, vR 0 0), (1, vI x1), (2, vI x2)] [] M Q := by
  refine sl_At.in (fun hM hls => ?_)
  have g1 : sl_rg x1 := hls _ (List.mem_of_getElem? (i := 1) rfl)
  have g2 : sl_rg x2 := hls _ (List.mem_of_getElem? (i := 2) rfl)
  have H := H hM g1 g2
  refine r_aload_n (k := 0) rfl rfl dX9_runs_0 ?_
  refine r_getR (k := 7) (o' := 3) (i' := 0) ckX9 rfl rfl (by decide) rfl rfl rfl fl_X9_32 dX9_runs_1 ?_
  refine r_aload_n (k := 0) rfl rfl dX9_runs_4 ?_
  refine r_callV (g := mX9_present) ckX9 rfl rfl rfl rfl mkX9_present mvX9_present ml_X9_92 ⟨by decide, by decide⟩ rfl (Nat.le_of_ble_eq_true rfl) rfl ok_n dX9_runs_5 (sl_afterR (sl_RR.mono (fun p2 M1 hM1 H => ?_) H))
  obtain ⟨zp2, H⟩ := H
  refine r_iload_n (k := 1) rfl rfl dX9_runs_8 ?_
  refine r_iload_n (k := 2) rfl rfl dX9_runs_9 ?_
  refine r_callV (g := mX3_execute) ckX3 rfl rfl rfl rfl mkX3_execute mvX3_execute ml_X9_106 ⟨by decide, by decide⟩ rfl (Nat.le_of_ble_eq_true rfl) rfl (ok_r (ok_i g1 (ok_i g2 ok_n))) dX9_runs_10 (sl_afterI (sl_RI.mono (fun y4 M3 gy4 hM3 H => ?_) H))
  refine r_iret rfl gy4 dX9_runs_13 ?_
  exact H
theorem eX9_runs {l : Launch} {M : sl_M} {Q : sl_R} {x1 x2 : Int} (k : sl_At l mX9_runs 0 [(0, vR 0 0), (1, vI x1), (2, vI x2)] [] M Q) : sl_Runs l mX9_runs [vR 0 0, vI x1, vI x2] M Q := sl_Runs.of (ls := [(0, vR 0 0), (1, vI x1), (2, vI x2)]) rfl rfl (fun _ => rfl) (fun _ => Nat.le_of_ble_eq_true rfl) rfl (k)
theorem dX9_ran_0 : decode cX9_ran 0 = .ok (.iload_n 1, 1) := by decide +kernel
theorem dX9_ran_1 : decode cX9_ran 1 = .ok (.ifCond .lt 12, 3) := by decide +kernel
theorem dX9_ran_4 : decode cX9_ran 4 = .ok (.iload_n 1, 1) := by decide +kernel
theorem dX9_ran_5 : decode cX9_ran 5 = .ok (.iconst 4, 1) := by decide +kernel
theorem dX9_ran_6 : decode cX9_ran 6 = .ok (.if_icmp .gt 7, 3) := by decide +kernel
theorem dX9_ran_9 : decode cX9_ran 9 = .ok (.iload_n 2, 1) := by decide +kernel
theorem dX9_ran_10 : decode cX9_ran 10 = .ok (.ifCond .ge 10, 3) := by decide +kernel
theorem dX9_ran_13 : decode cX9_ran 13 = .ok (.aload_n 0, 1) := by decide +kernel
theorem dX9_ran_14 : decode cX9_ran 14 = .ok (.bipush (-2), 2) := by decide +kernel
theorem dX9_ran_16 : decode cX9_ran 16 = .ok (.invokevirtual 58, 3) := by decide +kernel
theorem dX9_ran_19 : decode cX9_ran 19 = .ok (.ireturn, 1) := by decide +kernel
theorem dX9_ran_20 : decode cX9_ran 20 = .ok (.iload_n 1, 1) := by decide +kernel
theorem dX9_ran_21 : decode cX9_ran 21 = .ok (.tableswitch 80 0 3 #[31, 39, 47, 55], 31) := by decide +kernel
theorem dX9_ran_52 : decode cX9_ran 52 = .ok (.aload_n 0, 1) := by decide +kernel
theorem dX9_ran_53 : decode cX9_ran 53 = .ok (.getfield 32, 3) := by decide +kernel
theorem dX9_ran_56 : decode cX9_ran 56 = .ok (.getfield 110, 3) := by decide +kernel
theorem dX9_ran_59 : decode cX9_ran 59 = .ok (.ireturn, 1) := by decide +kernel
theorem dX9_ran_60 : decode cX9_ran 60 = .ok (.aload_n 0, 1) := by decide +kernel
theorem dX9_ran_61 : decode cX9_ran 61 = .ok (.getfield 32, 3) := by decide +kernel
theorem dX9_ran_64 : decode cX9_ran 64 = .ok (.getfield 113, 3) := by decide +kernel
theorem dX9_ran_67 : decode cX9_ran 67 = .ok (.ireturn, 1) := by decide +kernel
theorem dX9_ran_68 : decode cX9_ran 68 = .ok (.aload_n 0, 1) := by decide +kernel
theorem dX9_ran_69 : decode cX9_ran 69 = .ok (.getfield 32, 3) := by decide +kernel
theorem dX9_ran_72 : decode cX9_ran 72 = .ok (.getfield 116, 3) := by decide +kernel
theorem dX9_ran_75 : decode cX9_ran 75 = .ok (.ireturn, 1) := by decide +kernel
theorem dX9_ran_76 : decode cX9_ran 76 = .ok (.iload_n 2, 1) := by decide +kernel
theorem dX9_ran_77 : decode cX9_ran 77 = .ok (.aload_n 0, 1) := by decide +kernel
theorem dX9_ran_78 : decode cX9_ran 78 = .ok (.getfield 32, 3) := by decide +kernel
theorem dX9_ran_81 : decode cX9_ran 81 = .ok (.getfield 116, 3) := by decide +kernel
theorem dX9_ran_84 : decode cX9_ran 84 = .ok (.if_icmp .ge 15, 3) := by decide +kernel
theorem dX9_ran_87 : decode cX9_ran 87 = .ok (.aload_n 0, 1) := by decide +kernel
theorem dX9_ran_88 : decode cX9_ran 88 = .ok (.getfield 32, 3) := by decide +kernel
theorem dX9_ran_91 : decode cX9_ran 91 = .ok (.getfield 119, 3) := by decide +kernel
theorem dX9_ran_94 : decode cX9_ran 94 = .ok (.iload_n 2, 1) := by decide +kernel
theorem dX9_ran_95 : decode cX9_ran 95 = .ok (.iaload, 1) := by decide +kernel
theorem dX9_ran_96 : decode cX9_ran 96 = .ok (.goto 4, 3) := by decide +kernel
theorem dX9_ran_99 : decode cX9_ran 99 = .ok (.iconst 0, 1) := by decide +kernel
theorem dX9_ran_100 : decode cX9_ran 100 = .ok (.ireturn, 1) := by decide +kernel
theorem dX9_ran_101 : decode cX9_ran 101 = .ok (.aload_n 0, 1) := by decide +kernel
theorem dX9_ran_102 : decode cX9_ran 102 = .ok (.getfield 32, 3) := by decide +kernel
theorem dX9_ran_105 : decode cX9_ran 105 = .ok (.getfield 122, 3) := by decide +kernel
theorem dX9_ran_108 : decode cX9_ran 108 = .ok (.getfield 126, 3) := by decide +kernel
theorem dX9_ran_111 : decode cX9_ran 111 = .ok (.ireturn, 1) := by decide +kernel
set_option maxHeartbeats 4000000 in
set_option maxRecDepth 10000 in
theorem vX9_ran_0 {l : Launch} {M : sl_M} {Q : sl_R} {x1 x2 : Int} (H : sl_RM M → sl_rg x1 → sl_rg x2 → ((x1 < 0) → sl_RI l mX9_refuse [vR 0 0, vI (-2)] M (fun y3 M2 => Q (some (vI y3)) M2)) ∧ ((¬ (x1 < 0)) → ((4 < x1) → sl_RI l mX9_refuse [vR 0 0, vI (-2)] M (fun y6 M5 => Q (some (vI y6)) M5)) ∧ ((¬ (4 < x1)) → ((0 ≤ x2) → ((x1 = 0) → Q (some (vI (M 3 0 2))) M) ∧ ((x1 = 1) → Q (some (vI (M 3 0 3))) M) ∧ ((x1 = 2) → Q (some (vI (M 3 0 5))) M) ∧ ((x1 = 3) → (((¬ (M 3 0 5 ≤ x2)) → (0 ≤ x2 ∧ x2 < 400))) ∧ Q (some (vI (if M 3 0 5 ≤ x2 then 0 else M 3 5 x2))) M) ∧ ((¬ (x1 = 0) ∧ ¬ (x1 = 1) ∧ ¬ (x1 = 2) ∧ ¬ (x1 = 3)) → Q (some (vI (M 4 0 1))) M)) ∧ ((¬ (0 ≤ x2)) → sl_RI l mX9_refuse [vR 0 0, vI (-2)] M (fun y15 M14 => Q (some (vI y15)) M14))))) : sl_At l mX9_ran 0 [(0, vR 0 0), (1, vI x1), (2, vI x2)] [] M Q := by
  refine sl_At.in (fun hM hls => ?_)
  have g1 : sl_rg x1 := hls _ (List.mem_of_getElem? (i := 1) rfl)
  have g2 : sl_rg x2 := hls _ (List.mem_of_getElem? (i := 2) rfl)
  have H := H hM g1 g2
  refine r_iload_n (k := 1) rfl rfl dX9_ran_0 ?_
  refine r_if_lt (tgt := 13) g1 dX9_ran_1 (by decide) (fun h1 => ?_) (fun h1 => ?_)
  · have H := H.1 h1
    refine r_aload_n (k := 0) rfl rfl dX9_ran_13 ?_
    refine r_bipush dX9_ran_14 (by decide) ?_
    refine r_callV (g := mX9_refuse) ckX9 rfl rfl rfl rfl mkX9_refuse mvX9_refuse ml_X9_58 ⟨by decide, by decide⟩ rfl (Nat.le_of_ble_eq_true rfl) rfl (ok_i ⟨by decide, by decide⟩ ok_n) dX9_ran_16 (sl_afterI (sl_RI.mono (fun y3 M2 gy3 hM2 H => ?_) H))
    refine r_iret rfl gy3 dX9_ran_19 ?_
    exact H
  · have H := H.2 h1
    refine r_iload_n (k := 1) rfl rfl dX9_ran_4 ?_
    refine r_iconst dX9_ran_5 ?_
    refine r_icmp_gt (tgt := 13) g1 ⟨by decide, by decide⟩ dX9_ran_6 (by decide) (fun h4 => ?_) (fun h4 => ?_)
    · have H := H.1 h4
      refine r_aload_n (k := 0) rfl rfl dX9_ran_13 ?_
      refine r_bipush dX9_ran_14 (by decide) ?_
      refine r_callV (g := mX9_refuse) ckX9 rfl rfl rfl rfl mkX9_refuse mvX9_refuse ml_X9_58 ⟨by decide, by decide⟩ rfl (Nat.le_of_ble_eq_true rfl) rfl (ok_i ⟨by decide, by decide⟩ ok_n) dX9_ran_16 (sl_afterI (sl_RI.mono (fun y6 M5 gy6 hM5 H => ?_) H))
      refine r_iret rfl gy6 dX9_ran_19 ?_
      exact H
    · have H := H.2 h4
      refine r_iload_n (k := 2) rfl rfl dX9_ran_9 ?_
      refine r_if_ge (tgt := 20) g2 dX9_ran_10 (by decide) (fun h7 => ?_) (fun h7 => ?_)
      · have H := H.1 h7
        refine r_iload_n (k := 1) rfl rfl dX9_ran_20 ?_
        by_cases h10 : x1 = 0
        · refine r_tsIn (tgt := 52) 0 g1 dX9_ran_21 (by omega) (by decide) rfl (by decide) ?_
          have H := H.1 (by omega)
          refine r_aload_n (k := 0) rfl rfl dX9_ran_52 ?_
          refine r_getR (k := 7) (o' := 3) (i' := 0) ckX9 rfl rfl (by decide) rfl rfl rfl fl_X9_32 dX9_ran_53 ?_
          refine r_gI (k := 2) (kz := 2) rfl ckX3 rfl rfl (by decide) rfl rfl fl_X9_110 dX9_ran_56 ?_
          refine r_iret rfl (hM _ _ _) dX9_ran_59 ?_
          exact H
        by_cases h11 : x1 = 1
        · refine r_tsIn (tgt := 60) 1 g1 dX9_ran_21 (by omega) (by decide) rfl (by decide) ?_
          have H := H.2.1 (by omega)
          refine r_aload_n (k := 0) rfl rfl dX9_ran_60 ?_
          refine r_getR (k := 7) (o' := 3) (i' := 0) ckX9 rfl rfl (by decide) rfl rfl rfl fl_X9_32 dX9_ran_61 ?_
          refine r_gI (k := 3) (kz := 3) rfl ckX3 rfl rfl (by decide) rfl rfl fl_X9_113 dX9_ran_64 ?_
          refine r_iret rfl (hM _ _ _) dX9_ran_67 ?_
          exact H
        by_cases h12 : x1 = 2
        · refine r_tsIn (tgt := 68) 2 g1 dX9_ran_21 (by omega) (by decide) rfl (by decide) ?_
          have H := H.2.2.1 (by omega)
          refine r_aload_n (k := 0) rfl rfl dX9_ran_68 ?_
          refine r_getR (k := 7) (o' := 3) (i' := 0) ckX9 rfl rfl (by decide) rfl rfl rfl fl_X9_32 dX9_ran_69 ?_
          refine r_gI (k := 5) (kz := 5) rfl ckX3 rfl rfl (by decide) rfl rfl fl_X9_116 dX9_ran_72 ?_
          refine r_iret rfl (hM _ _ _) dX9_ran_75 ?_
          exact H
        by_cases h13 : x1 = 3
        · refine r_tsIn (tgt := 76) 3 g1 dX9_ran_21 (by omega) (by decide) rfl (by decide) ?_
          have H := H.2.2.2.1 (by omega)
          refine r_iload_n (k := 2) rfl rfl dX9_ran_76 ?_
          refine r_aload_n (k := 0) rfl rfl dX9_ran_77 ?_
          refine r_getR (k := 7) (o' := 3) (i' := 0) ckX9 rfl rfl (by decide) rfl rfl rfl fl_X9_32 dX9_ran_78 ?_
          refine r_gI (k := 5) (kz := 5) rfl ckX3 rfl rfl (by decide) rfl rfl fl_X9_116 dX9_ran_81 ?_
          obtain ⟨K, H⟩ := H
          have J : sl_At l mX9_ran 100 [(0, vR 0 0), (1, vI x1), (2, vI x2)] [vI (if M 3 0 5 ≤ x2 then 0 else M 3 5 x2)] M Q := by
            refine r_iret rfl (sl_rgite ⟨by decide, by decide⟩ (hM _ _ _)) dX9_ran_100 ?_
            exact H
          refine r_icmp_ge (tgt := 99) g2 (hM _ _ _) dX9_ran_84 (by decide) (fun h9 => ?_) (fun h9 => ?_)
          · refine r_iconst dX9_ran_99 ?_
            rw [if_pos h9] at J
            exact J
          · replace K := K h9
            have c8 := K
            refine r_aload_n (k := 0) rfl rfl dX9_ran_87 ?_
            refine r_getR (k := 7) (o' := 3) (i' := 0) ckX9 rfl rfl (by decide) rfl rfl rfl fl_X9_32 dX9_ran_88 ?_
            refine r_getR (k := 4) (o' := 3) (i' := 5) ckX3 rfl rfl (by decide) rfl rfl rfl fl_X9_119 dX9_ran_91 ?_
            refine r_iload_n (k := 2) rfl rfl dX9_ran_94 ?_
            refine r_iald rfl rfl rfl c8 dX9_ran_95 ?_
            refine r_goto (tgt := 100) dX9_ran_96 (by decide) ?_
            rw [if_neg h9] at J
            exact J
        refine r_tsOut (tgt := 101) g1 dX9_ran_21 (by omega) (by decide) ?_
        have H := H.2.2.2.2 (by omega)
        refine r_aload_n (k := 0) rfl rfl dX9_ran_101 ?_
        refine r_getR (k := 7) (o' := 3) (i' := 0) ckX9 rfl rfl (by decide) rfl rfl rfl fl_X9_32 dX9_ran_102 ?_
        refine r_getR (k := 0) (o' := 4) (i' := 0) ckX3 rfl rfl (by decide) rfl rfl rfl fl_X9_122 dX9_ran_105 ?_
        refine r_gI (k := 1) (kz := 1) rfl ckX2 rfl rfl (by decide) rfl rfl fl_X9_126 dX9_ran_108 ?_
        refine r_iret rfl (hM _ _ _) dX9_ran_111 ?_
        exact H
      · have H := H.2 h7
        refine r_aload_n (k := 0) rfl rfl dX9_ran_13 ?_
        refine r_bipush dX9_ran_14 (by decide) ?_
        refine r_callV (g := mX9_refuse) ckX9 rfl rfl rfl rfl mkX9_refuse mvX9_refuse ml_X9_58 ⟨by decide, by decide⟩ rfl (Nat.le_of_ble_eq_true rfl) rfl (ok_i ⟨by decide, by decide⟩ ok_n) dX9_ran_16 (sl_afterI (sl_RI.mono (fun y15 M14 gy15 hM14 H => ?_) H))
        refine r_iret rfl gy15 dX9_ran_19 ?_
        exact H
theorem eX9_ran {l : Launch} {M : sl_M} {Q : sl_R} {x1 x2 : Int} (k : sl_At l mX9_ran 0 [(0, vR 0 0), (1, vI x1), (2, vI x2)] [] M Q) : sl_Runs l mX9_ran [vR 0 0, vI x1, vI x2] M Q := sl_Runs.of (ls := [(0, vR 0 0), (1, vI x1), (2, vI x2)]) rfl rfl (fun _ => rfl) (fun _ => Nat.le_of_ble_eq_true rfl) rfl (k)
theorem dX9_span_0 : decode cX9_span 0 = .ok (.iload_n 3, 1) := by decide +kernel
theorem dX9_span_1 : decode cX9_span 1 = .ok (.ifCond .lt 8, 3) := by decide +kernel
theorem dX9_span_4 : decode cX9_span 4 = .ok (.iload_n 3, 1) := by decide +kernel
theorem dX9_span_5 : decode cX9_span 5 = .ok (.iconst 3, 1) := by decide +kernel
theorem dX9_span_6 : decode cX9_span 6 = .ok (.if_icmp .le 10, 3) := by decide +kernel
theorem dX9_span_9 : decode cX9_span 9 = .ok (.aload_n 0, 1) := by decide +kernel
theorem dX9_span_10 : decode cX9_span 10 = .ok (.bipush (-2), 2) := by decide +kernel
theorem dX9_span_12 : decode cX9_span 12 = .ok (.invokevirtual 58, 3) := by decide +kernel
theorem dX9_span_15 : decode cX9_span 15 = .ok (.ireturn, 1) := by decide +kernel
theorem dX9_span_16 : decode cX9_span 16 = .ok (.aload_n 0, 1) := by decide +kernel
theorem dX9_span_17 : decode cX9_span 17 = .ok (.iload_n 1, 1) := by decide +kernel
theorem dX9_span_18 : decode cX9_span 18 = .ok (.iload_n 2, 1) := by decide +kernel
theorem dX9_span_19 : decode cX9_span 19 = .ok (.invokevirtual 131, 3) := by decide +kernel
theorem dX9_span_22 : decode cX9_span 22 = .ok (.ifCond .ne 10, 3) := by decide +kernel
theorem dX9_span_25 : decode cX9_span 25 = .ok (.aload_n 0, 1) := by decide +kernel
theorem dX9_span_26 : decode cX9_span 26 = .ok (.bipush (-3), 2) := by decide +kernel
theorem dX9_span_28 : decode cX9_span 28 = .ok (.invokevirtual 58, 3) := by decide +kernel
theorem dX9_span_31 : decode cX9_span 31 = .ok (.ireturn, 1) := by decide +kernel
theorem dX9_span_32 : decode cX9_span 32 = .ok (.iload_n 3, 1) := by decide +kernel
theorem dX9_span_33 : decode cX9_span 33 = .ok (.tableswitch 51 0 2 #[27, 35, 43], 27) := by decide +kernel
theorem dX9_span_60 : decode cX9_span 60 = .ok (.aload_n 0, 1) := by decide +kernel
theorem dX9_span_61 : decode cX9_span 61 = .ok (.getfield 46, 3) := by decide +kernel
theorem dX9_span_64 : decode cX9_span 64 = .ok (.getfield 135, 3) := by decide +kernel
theorem dX9_span_67 : decode cX9_span 67 = .ok (.ireturn, 1) := by decide +kernel
theorem dX9_span_68 : decode cX9_span 68 = .ok (.aload_n 0, 1) := by decide +kernel
theorem dX9_span_69 : decode cX9_span 69 = .ok (.getfield 46, 3) := by decide +kernel
theorem dX9_span_72 : decode cX9_span 72 = .ok (.getfield 138, 3) := by decide +kernel
theorem dX9_span_75 : decode cX9_span 75 = .ok (.ireturn, 1) := by decide +kernel
theorem dX9_span_76 : decode cX9_span 76 = .ok (.aload_n 0, 1) := by decide +kernel
theorem dX9_span_77 : decode cX9_span 77 = .ok (.getfield 46, 3) := by decide +kernel
theorem dX9_span_80 : decode cX9_span 80 = .ok (.getfield 141, 3) := by decide +kernel
theorem dX9_span_83 : decode cX9_span 83 = .ok (.ireturn, 1) := by decide +kernel
theorem dX9_span_84 : decode cX9_span 84 = .ok (.aload_n 0, 1) := by decide +kernel
theorem dX9_span_85 : decode cX9_span 85 = .ok (.getfield 46, 3) := by decide +kernel
theorem dX9_span_88 : decode cX9_span 88 = .ok (.getfield 144, 3) := by decide +kernel
theorem dX9_span_91 : decode cX9_span 91 = .ok (.ireturn, 1) := by decide +kernel
set_option maxHeartbeats 4000000 in
set_option maxRecDepth 10000 in
theorem vX9_span_0 {l : Launch} {M : sl_M} {Q : sl_R} {x1 x2 x3 : Int} (H : sl_RM M → sl_rg x1 → sl_rg x2 → sl_rg x3 → ((x3 < 0) → sl_RI l mX9_refuse [vR 0 0, vI (-2)] M (fun y3 M2 => Q (some (vI y3)) M2)) ∧ ((¬ (x3 < 0)) → ((x3 ≤ 3) → sl_RI l mX9_choose [vR 0 0, vI x1, vI x2] M (fun y6 M5 => ((y6 ≠ 0) → ((x3 = 0) → Q (some (vI (M5 7 0 3))) M5) ∧ ((x3 = 1) → Q (some (vI (M5 7 0 4))) M5) ∧ ((x3 = 2) → Q (some (vI (M5 7 0 5))) M5) ∧ ((¬ (x3 = 0) ∧ ¬ (x3 = 1) ∧ ¬ (x3 = 2)) → Q (some (vI (M5 7 0 6))) M5)) ∧ ((¬ (y6 ≠ 0)) → sl_RI l mX9_refuse [vR 0 0, vI (-3)] M5 (fun y12 M11 => Q (some (vI y12)) M11)))) ∧ ((¬ (x3 ≤ 3)) → sl_RI l mX9_refuse [vR 0 0, vI (-2)] M (fun y14 M13 => Q (some (vI y14)) M13)))) : sl_At l mX9_span 0 [(0, vR 0 0), (1, vI x1), (2, vI x2), (3, vI x3)] [] M Q := by
  refine sl_At.in (fun hM hls => ?_)
  have g1 : sl_rg x1 := hls _ (List.mem_of_getElem? (i := 1) rfl)
  have g2 : sl_rg x2 := hls _ (List.mem_of_getElem? (i := 2) rfl)
  have g3 : sl_rg x3 := hls _ (List.mem_of_getElem? (i := 3) rfl)
  have H := H hM g1 g2 g3
  refine r_iload_n (k := 3) rfl rfl dX9_span_0 ?_
  refine r_if_lt (tgt := 9) g3 dX9_span_1 (by decide) (fun h1 => ?_) (fun h1 => ?_)
  · have H := H.1 h1
    refine r_aload_n (k := 0) rfl rfl dX9_span_9 ?_
    refine r_bipush dX9_span_10 (by decide) ?_
    refine r_callV (g := mX9_refuse) ckX9 rfl rfl rfl rfl mkX9_refuse mvX9_refuse ml_X9_58 ⟨by decide, by decide⟩ rfl (Nat.le_of_ble_eq_true rfl) rfl (ok_i ⟨by decide, by decide⟩ ok_n) dX9_span_12 (sl_afterI (sl_RI.mono (fun y3 M2 gy3 hM2 H => ?_) H))
    refine r_iret rfl gy3 dX9_span_15 ?_
    exact H
  · have H := H.2 h1
    refine r_iload_n (k := 3) rfl rfl dX9_span_4 ?_
    refine r_iconst dX9_span_5 ?_
    refine r_icmp_le (tgt := 16) g3 ⟨by decide, by decide⟩ dX9_span_6 (by decide) (fun h4 => ?_) (fun h4 => ?_)
    · have H := H.1 h4
      refine r_aload_n (k := 0) rfl rfl dX9_span_16 ?_
      refine r_iload_n (k := 1) rfl rfl dX9_span_17 ?_
      refine r_iload_n (k := 2) rfl rfl dX9_span_18 ?_
      refine r_callV (g := mX9_choose) ckX9 rfl rfl rfl rfl mkX9_choose mvX9_choose ml_X9_131 ⟨by decide, by decide⟩ rfl (Nat.le_of_ble_eq_true rfl) rfl (ok_i g1 (ok_i g2 ok_n)) dX9_span_19 (sl_afterI (sl_RI.mono (fun y6 M5 gy6 hM5 H => ?_) H))
      refine r_if_ne (tgt := 32) gy6 dX9_span_22 (by decide) (fun h7 => ?_) (fun h7 => ?_)
      · have H := H.1 h7
        refine r_iload_n (k := 3) rfl rfl dX9_span_32 ?_
        by_cases h8 : x3 = 0
        · refine r_tsIn (tgt := 60) 0 g3 dX9_span_33 (by omega) (by decide) rfl (by decide) ?_
          have H := H.1 (by omega)
          refine r_aload_n (k := 0) rfl rfl dX9_span_60 ?_
          refine r_getR (k := 9) (o' := 7) (i' := 0) ckX9 rfl rfl (by decide) rfl rfl rfl fl_X9_46 dX9_span_61 ?_
          refine r_gI (k := 3) (kz := 3) rfl ckX6 rfl rfl (by decide) rfl rfl fl_X9_135 dX9_span_64 ?_
          refine r_iret rfl (hM5 _ _ _) dX9_span_67 ?_
          exact H
        by_cases h9 : x3 = 1
        · refine r_tsIn (tgt := 68) 1 g3 dX9_span_33 (by omega) (by decide) rfl (by decide) ?_
          have H := H.2.1 (by omega)
          refine r_aload_n (k := 0) rfl rfl dX9_span_68 ?_
          refine r_getR (k := 9) (o' := 7) (i' := 0) ckX9 rfl rfl (by decide) rfl rfl rfl fl_X9_46 dX9_span_69 ?_
          refine r_gI (k := 4) (kz := 4) rfl ckX6 rfl rfl (by decide) rfl rfl fl_X9_138 dX9_span_72 ?_
          refine r_iret rfl (hM5 _ _ _) dX9_span_75 ?_
          exact H
        by_cases h10 : x3 = 2
        · refine r_tsIn (tgt := 76) 2 g3 dX9_span_33 (by omega) (by decide) rfl (by decide) ?_
          have H := H.2.2.1 (by omega)
          refine r_aload_n (k := 0) rfl rfl dX9_span_76 ?_
          refine r_getR (k := 9) (o' := 7) (i' := 0) ckX9 rfl rfl (by decide) rfl rfl rfl fl_X9_46 dX9_span_77 ?_
          refine r_gI (k := 5) (kz := 5) rfl ckX6 rfl rfl (by decide) rfl rfl fl_X9_141 dX9_span_80 ?_
          refine r_iret rfl (hM5 _ _ _) dX9_span_83 ?_
          exact H
        refine r_tsOut (tgt := 84) g3 dX9_span_33 (by omega) (by decide) ?_
        have H := H.2.2.2 (by omega)
        refine r_aload_n (k := 0) rfl rfl dX9_span_84 ?_
        refine r_getR (k := 9) (o' := 7) (i' := 0) ckX9 rfl rfl (by decide) rfl rfl rfl fl_X9_46 dX9_span_85 ?_
        refine r_gI (k := 6) (kz := 6) rfl ckX6 rfl rfl (by decide) rfl rfl fl_X9_144 dX9_span_88 ?_
        refine r_iret rfl (hM5 _ _ _) dX9_span_91 ?_
        exact H
      · have H := H.2 h7
        refine r_aload_n (k := 0) rfl rfl dX9_span_25 ?_
        refine r_bipush dX9_span_26 (by decide) ?_
        refine r_callV (g := mX9_refuse) ckX9 rfl rfl rfl rfl mkX9_refuse mvX9_refuse ml_X9_58 ⟨by decide, by decide⟩ rfl (Nat.le_of_ble_eq_true rfl) rfl (ok_i ⟨by decide, by decide⟩ ok_n) dX9_span_28 (sl_afterI (sl_RI.mono (fun y12 M11 gy12 hM11 H => ?_) H))
        refine r_iret rfl gy12 dX9_span_31 ?_
        exact H
    · have H := H.2 h4
      refine r_aload_n (k := 0) rfl rfl dX9_span_9 ?_
      refine r_bipush dX9_span_10 (by decide) ?_
      refine r_callV (g := mX9_refuse) ckX9 rfl rfl rfl rfl mkX9_refuse mvX9_refuse ml_X9_58 ⟨by decide, by decide⟩ rfl (Nat.le_of_ble_eq_true rfl) rfl (ok_i ⟨by decide, by decide⟩ ok_n) dX9_span_12 (sl_afterI (sl_RI.mono (fun y14 M13 gy14 hM13 H => ?_) H))
      refine r_iret rfl gy14 dX9_span_15 ?_
      exact H
theorem eX9_span {l : Launch} {M : sl_M} {Q : sl_R} {x1 x2 x3 : Int} (k : sl_At l mX9_span 0 [(0, vR 0 0), (1, vI x1), (2, vI x2), (3, vI x3)] [] M Q) : sl_Runs l mX9_span [vR 0 0, vI x1, vI x2, vI x3] M Q := sl_Runs.of (ls := [(0, vR 0 0), (1, vI x1), (2, vI x2), (3, vI x3)]) rfl rfl (fun _ => rfl) (fun _ => Nat.le_of_ble_eq_true rfl) rfl (k)
theorem dX9_hands_0 : decode cX9_hands 0 = .ok (.iload_n 3, 1) := by decide +kernel
theorem dX9_hands_1 : decode cX9_hands 1 = .ok (.ifCond .lt 13, 3) := by decide +kernel
theorem dX9_hands_4 : decode cX9_hands 4 = .ok (.iload_n 3, 1) := by decide +kernel
theorem dX9_hands_5 : decode cX9_hands 5 = .ok (.iconst 1, 1) := by decide +kernel
theorem dX9_hands_6 : decode cX9_hands 6 = .ok (.if_icmp .gt 8, 3) := by decide +kernel
theorem dX9_hands_9 : decode cX9_hands 9 = .ok (.iload 4, 2) := by decide +kernel
theorem dX9_hands_11 : decode cX9_hands 11 = .ok (.ifCond .ge 10, 3) := by decide +kernel
theorem dX9_hands_14 : decode cX9_hands 14 = .ok (.aload_n 0, 1) := by decide +kernel
theorem dX9_hands_15 : decode cX9_hands 15 = .ok (.bipush (-2), 2) := by decide +kernel
theorem dX9_hands_17 : decode cX9_hands 17 = .ok (.invokevirtual 58, 3) := by decide +kernel
theorem dX9_hands_20 : decode cX9_hands 20 = .ok (.ireturn, 1) := by decide +kernel
theorem dX9_hands_21 : decode cX9_hands 21 = .ok (.aload_n 0, 1) := by decide +kernel
theorem dX9_hands_22 : decode cX9_hands 22 = .ok (.iload_n 1, 1) := by decide +kernel
theorem dX9_hands_23 : decode cX9_hands 23 = .ok (.iload_n 2, 1) := by decide +kernel
theorem dX9_hands_24 : decode cX9_hands 24 = .ok (.invokevirtual 131, 3) := by decide +kernel
theorem dX9_hands_27 : decode cX9_hands 27 = .ok (.ifCond .ne 10, 3) := by decide +kernel
theorem dX9_hands_30 : decode cX9_hands 30 = .ok (.aload_n 0, 1) := by decide +kernel
theorem dX9_hands_31 : decode cX9_hands 31 = .ok (.bipush (-3), 2) := by decide +kernel
theorem dX9_hands_33 : decode cX9_hands 33 = .ok (.invokevirtual 58, 3) := by decide +kernel
theorem dX9_hands_36 : decode cX9_hands 36 = .ok (.ireturn, 1) := by decide +kernel
theorem dX9_hands_37 : decode cX9_hands 37 = .ok (.iload_n 3, 1) := by decide +kernel
theorem dX9_hands_38 : decode cX9_hands 38 = .ok (.ifCond .ne 13, 3) := by decide +kernel
theorem dX9_hands_41 : decode cX9_hands 41 = .ok (.aload_n 0, 1) := by decide +kernel
theorem dX9_hands_42 : decode cX9_hands 42 = .ok (.getfield 46, 3) := by decide +kernel
theorem dX9_hands_45 : decode cX9_hands 45 = .ok (.getfield 138, 3) := by decide +kernel
theorem dX9_hands_48 : decode cX9_hands 48 = .ok (.goto 10, 3) := by decide +kernel
theorem dX9_hands_51 : decode cX9_hands 51 = .ok (.aload_n 0, 1) := by decide +kernel
theorem dX9_hands_52 : decode cX9_hands 52 = .ok (.getfield 46, 3) := by decide +kernel
theorem dX9_hands_55 : decode cX9_hands 55 = .ok (.getfield 141, 3) := by decide +kernel
theorem dX9_hands_58 : decode cX9_hands 58 = .ok (.istore 5, 2) := by decide +kernel
theorem dX9_hands_60 : decode cX9_hands 60 = .ok (.aload_n 0, 1) := by decide +kernel
theorem dX9_hands_61 : decode cX9_hands 61 = .ok (.invokevirtual 92, 3) := by decide +kernel
theorem dX9_hands_64 : decode cX9_hands 64 = .ok (.getfield 73, 3) := by decide +kernel
theorem dX9_hands_67 : decode cX9_hands 67 = .ok (.aload_n 0, 1) := by decide +kernel
theorem dX9_hands_68 : decode cX9_hands 68 = .ok (.getfield 46, 3) := by decide +kernel
theorem dX9_hands_71 : decode cX9_hands 71 = .ok (.getfield 147, 3) := by decide +kernel
theorem dX9_hands_74 : decode cX9_hands 74 = .ok (.aload_n 0, 1) := by decide +kernel
theorem dX9_hands_75 : decode cX9_hands 75 = .ok (.getfield 46, 3) := by decide +kernel
theorem dX9_hands_78 : decode cX9_hands 78 = .ok (.getfield 150, 3) := by decide +kernel
theorem dX9_hands_81 : decode cX9_hands 81 = .ok (.iload 5, 2) := by decide +kernel
theorem dX9_hands_83 : decode cX9_hands 83 = .ok (.iload 4, 2) := by decide +kernel
theorem dX9_hands_85 : decode cX9_hands 85 = .ok (.invokevirtual 153, 3) := by decide +kernel
theorem dX9_hands_88 : decode cX9_hands 88 = .ok (.ireturn, 1) := by decide +kernel
set_option maxHeartbeats 4000000 in
set_option maxRecDepth 10000 in
theorem vX9_hands_0 {l : Launch} {M : sl_M} {Q : sl_R} {x1 x2 x3 x4 : Int} (H : sl_RM M → sl_rg x1 → sl_rg x2 → sl_rg x3 → sl_rg x4 → ((x3 < 0) → sl_RI l mX9_refuse [vR 0 0, vI (-2)] M (fun y3 M2 => Q (some (vI y3)) M2)) ∧ ((¬ (x3 < 0)) → ((1 < x3) → sl_RI l mX9_refuse [vR 0 0, vI (-2)] M (fun y6 M5 => Q (some (vI y6)) M5)) ∧ ((¬ (1 < x3)) → ((0 ≤ x4) → sl_RI l mX9_choose [vR 0 0, vI x1, vI x2] M (fun y9 M8 => ((y9 ≠ 0) → (∀ y12 : Int, y12 = (if x3 ≠ 0 then M8 7 0 5 else M8 7 0 4) → sl_RR l mX9_present [vR 0 0] M8 (fun p14 M13 => (sl_cls p14 = 7) ∧ sl_RI l mX0_pick [vR (p14 + 10) 0, vI (M13 7 0 0), vI (M13 7 0 2), vI y12, vI x4] M13 (fun y16 M15 => Q (some (vI y16)) M15)))) ∧ ((¬ (y9 ≠ 0)) → sl_RI l mX9_refuse [vR 0 0, vI (-3)] M8 (fun y18 M17 => Q (some (vI y18)) M17)))) ∧ ((¬ (0 ≤ x4)) → sl_RI l mX9_refuse [vR 0 0, vI (-2)] M (fun y20 M19 => Q (some (vI y20)) M19))))) : sl_At l mX9_hands 0 [(0, vR 0 0), (1, vI x1), (2, vI x2), (3, vI x3), (4, vI x4)] [] M Q := by
  refine sl_At.in (fun hM hls => ?_)
  have g1 : sl_rg x1 := hls _ (List.mem_of_getElem? (i := 1) rfl)
  have g2 : sl_rg x2 := hls _ (List.mem_of_getElem? (i := 2) rfl)
  have g3 : sl_rg x3 := hls _ (List.mem_of_getElem? (i := 3) rfl)
  have g4 : sl_rg x4 := hls _ (List.mem_of_getElem? (i := 4) rfl)
  have H := H hM g1 g2 g3 g4
  refine r_iload_n (k := 3) rfl rfl dX9_hands_0 ?_
  refine r_if_lt (tgt := 14) g3 dX9_hands_1 (by decide) (fun h1 => ?_) (fun h1 => ?_)
  · have H := H.1 h1
    refine r_aload_n (k := 0) rfl rfl dX9_hands_14 ?_
    refine r_bipush dX9_hands_15 (by decide) ?_
    refine r_callV (g := mX9_refuse) ckX9 rfl rfl rfl rfl mkX9_refuse mvX9_refuse ml_X9_58 ⟨by decide, by decide⟩ rfl (Nat.le_of_ble_eq_true rfl) rfl (ok_i ⟨by decide, by decide⟩ ok_n) dX9_hands_17 (sl_afterI (sl_RI.mono (fun y3 M2 gy3 hM2 H => ?_) H))
    refine r_iret rfl gy3 dX9_hands_20 ?_
    exact H
  · have H := H.2 h1
    refine r_iload_n (k := 3) rfl rfl dX9_hands_4 ?_
    refine r_iconst dX9_hands_5 ?_
    refine r_icmp_gt (tgt := 14) g3 ⟨by decide, by decide⟩ dX9_hands_6 (by decide) (fun h4 => ?_) (fun h4 => ?_)
    · have H := H.1 h4
      refine r_aload_n (k := 0) rfl rfl dX9_hands_14 ?_
      refine r_bipush dX9_hands_15 (by decide) ?_
      refine r_callV (g := mX9_refuse) ckX9 rfl rfl rfl rfl mkX9_refuse mvX9_refuse ml_X9_58 ⟨by decide, by decide⟩ rfl (Nat.le_of_ble_eq_true rfl) rfl (ok_i ⟨by decide, by decide⟩ ok_n) dX9_hands_17 (sl_afterI (sl_RI.mono (fun y6 M5 gy6 hM5 H => ?_) H))
      refine r_iret rfl gy6 dX9_hands_20 ?_
      exact H
    · have H := H.2 h4
      refine r_iload (k := 4) rfl dX9_hands_9 ?_
      refine r_if_ge (tgt := 21) g4 dX9_hands_11 (by decide) (fun h7 => ?_) (fun h7 => ?_)
      · have H := H.1 h7
        refine r_aload_n (k := 0) rfl rfl dX9_hands_21 ?_
        refine r_iload_n (k := 1) rfl rfl dX9_hands_22 ?_
        refine r_iload_n (k := 2) rfl rfl dX9_hands_23 ?_
        refine r_callV (g := mX9_choose) ckX9 rfl rfl rfl rfl mkX9_choose mvX9_choose ml_X9_131 ⟨by decide, by decide⟩ rfl (Nat.le_of_ble_eq_true rfl) rfl (ok_i g1 (ok_i g2 ok_n)) dX9_hands_24 (sl_afterI (sl_RI.mono (fun y9 M8 gy9 hM8 H => ?_) H))
        refine r_if_ne (tgt := 37) gy9 dX9_hands_27 (by decide) (fun h10 => ?_) (fun h10 => ?_)
        · have H := H.1 h10
          refine r_iload_n (k := 3) rfl rfl dX9_hands_37 ?_
          have J : sl_At l mX9_hands 58 [(0, vR 0 0), (1, vI x1), (2, vI x2), (3, vI x3), (4, vI x4)] [vI (if x3 ≠ 0 then M8 7 0 5 else M8 7 0 4)] M8 Q := by
            refine r_nm (fun y12 fy12 => ?_)
            have H := H y12 fy12
            have gy12 : sl_rg y12 := by rw [fy12]; exact (sl_rgite (hM8 _ _ _) (hM8 _ _ _))
            refine r_istore (ls' := [(5, vI y12), (0, vR 0 0), (1, vI x1), (2, vI x2), (3, vI x3), (4, vI x4)]) gy12 (by decide) rfl dX9_hands_58 ?_
            refine r_aload_n (k := 1) rfl rfl dX9_hands_60 ?_
            refine r_callV (g := mX9_present) ckX9 rfl rfl rfl rfl mkX9_present mvX9_present ml_X9_92 ⟨by decide, by decide⟩ rfl (Nat.le_of_ble_eq_true rfl) rfl ok_n dX9_hands_61 (sl_afterR (sl_RR.mono (fun p14 M13 hM13 H => ?_) H))
            obtain ⟨zp14, H⟩ := H
            refine r_getR (k := 0) (o' := p14 + 10) (i' := 0) ckX7 zp14 rfl (by decide) rfl rfl rfl fl_X9_73 dX9_hands_64 ?_
            refine r_aload_n (k := 1) rfl rfl dX9_hands_67 ?_
            refine r_getR (k := 9) (o' := 7) (i' := 0) ckX9 rfl rfl (by decide) rfl rfl rfl fl_X9_46 dX9_hands_68 ?_
            refine r_gI (k := 0) (kz := 0) rfl ckX6 rfl rfl (by decide) rfl rfl fl_X9_147 dX9_hands_71 ?_
            refine r_aload_n (k := 1) rfl rfl dX9_hands_74 ?_
            refine r_getR (k := 9) (o' := 7) (i' := 0) ckX9 rfl rfl (by decide) rfl rfl rfl fl_X9_46 dX9_hands_75 ?_
            refine r_gI (k := 2) (kz := 2) rfl ckX6 rfl rfl (by decide) rfl rfl fl_X9_150 dX9_hands_78 ?_
            refine r_iload (k := 0) rfl dX9_hands_81 ?_
            refine r_iload (k := 5) rfl dX9_hands_83 ?_
            refine r_callV (g := mX0_pick) ckX0 (cl_prog zp14) rfl rfl rfl mkX0_pick mvX0_pick ml_X9_153 ⟨by decide, by decide⟩ rfl (Nat.le_of_ble_eq_true rfl) rfl (ok_i (hM13 _ _ _) (ok_i (hM13 _ _ _) (ok_i gy12 (ok_i g4 ok_n)))) dX9_hands_85 (sl_afterI (sl_RI.mono (fun y16 M15 gy16 hM15 H => ?_) H))
            refine r_iret rfl gy16 dX9_hands_88 ?_
            exact H
          refine r_if_ne (tgt := 51) g3 dX9_hands_38 (by decide) (fun h11 => ?_) (fun h11 => ?_)
          · refine r_aload_n (k := 0) rfl rfl dX9_hands_51 ?_
            refine r_getR (k := 9) (o' := 7) (i' := 0) ckX9 rfl rfl (by decide) rfl rfl rfl fl_X9_46 dX9_hands_52 ?_
            refine r_gI (k := 5) (kz := 5) rfl ckX6 rfl rfl (by decide) rfl rfl fl_X9_141 dX9_hands_55 ?_
            rw [if_pos h11] at J
            exact J
          · refine r_aload_n (k := 0) rfl rfl dX9_hands_41 ?_
            refine r_getR (k := 9) (o' := 7) (i' := 0) ckX9 rfl rfl (by decide) rfl rfl rfl fl_X9_46 dX9_hands_42 ?_
            refine r_gI (k := 4) (kz := 4) rfl ckX6 rfl rfl (by decide) rfl rfl fl_X9_138 dX9_hands_45 ?_
            refine r_goto (tgt := 58) dX9_hands_48 (by decide) ?_
            rw [if_neg h11] at J
            exact J
        · have H := H.2 h10
          refine r_aload_n (k := 0) rfl rfl dX9_hands_30 ?_
          refine r_bipush dX9_hands_31 (by decide) ?_
          refine r_callV (g := mX9_refuse) ckX9 rfl rfl rfl rfl mkX9_refuse mvX9_refuse ml_X9_58 ⟨by decide, by decide⟩ rfl (Nat.le_of_ble_eq_true rfl) rfl (ok_i ⟨by decide, by decide⟩ ok_n) dX9_hands_33 (sl_afterI (sl_RI.mono (fun y18 M17 gy18 hM17 H => ?_) H))
          refine r_iret rfl gy18 dX9_hands_36 ?_
          exact H
      · have H := H.2 h7
        refine r_aload_n (k := 0) rfl rfl dX9_hands_14 ?_
        refine r_bipush dX9_hands_15 (by decide) ?_
        refine r_callV (g := mX9_refuse) ckX9 rfl rfl rfl rfl mkX9_refuse mvX9_refuse ml_X9_58 ⟨by decide, by decide⟩ rfl (Nat.le_of_ble_eq_true rfl) rfl (ok_i ⟨by decide, by decide⟩ ok_n) dX9_hands_17 (sl_afterI (sl_RI.mono (fun y20 M19 gy20 hM19 H => ?_) H))
        refine r_iret rfl gy20 dX9_hands_20 ?_
        exact H
theorem eX9_hands {l : Launch} {M : sl_M} {Q : sl_R} {x1 x2 x3 x4 : Int} (k : sl_At l mX9_hands 0 [(0, vR 0 0), (1, vI x1), (2, vI x2), (3, vI x3), (4, vI x4)] [] M Q) : sl_Runs l mX9_hands [vR 0 0, vI x1, vI x2, vI x3, vI x4] M Q := sl_Runs.of (ls := [(0, vR 0 0), (1, vI x1), (2, vI x2), (3, vI x3), (4, vI x4)]) rfl rfl (fun _ => rfl) (fun _ => Nat.le_of_ble_eq_true rfl) rfl (k)
theorem dX9_live_0 : decode cX9_live 0 = .ok (.iload_n 3, 1) := by decide +kernel
theorem dX9_live_1 : decode cX9_live 1 = .ok (.iconst 1, 1) := by decide +kernel
theorem dX9_live_2 : decode cX9_live 2 = .ok (.if_icmp .eq 19, 3) := by decide +kernel
theorem dX9_live_5 : decode cX9_live 5 = .ok (.iload_n 3, 1) := by decide +kernel
theorem dX9_live_6 : decode cX9_live 6 = .ok (.iconst 2, 1) := by decide +kernel
theorem dX9_live_7 : decode cX9_live 7 = .ok (.if_icmp .eq 14, 3) := by decide +kernel
theorem dX9_live_10 : decode cX9_live 10 = .ok (.iload_n 3, 1) := by decide +kernel
theorem dX9_live_11 : decode cX9_live 11 = .ok (.iconst 4, 1) := by decide +kernel
theorem dX9_live_12 : decode cX9_live 12 = .ok (.if_icmp .eq 9, 3) := by decide +kernel
theorem dX9_live_15 : decode cX9_live 15 = .ok (.iload_n 3, 1) := by decide +kernel
theorem dX9_live_16 : decode cX9_live 16 = .ok (.bipush 8, 2) := by decide +kernel
theorem dX9_live_18 : decode cX9_live 18 = .ok (.if_icmp .ne 7, 3) := by decide +kernel
theorem dX9_live_21 : decode cX9_live 21 = .ok (.iconst 1, 1) := by decide +kernel
theorem dX9_live_22 : decode cX9_live 22 = .ok (.goto 4, 3) := by decide +kernel
theorem dX9_live_25 : decode cX9_live 25 = .ok (.iconst 0, 1) := by decide +kernel
theorem dX9_live_26 : decode cX9_live 26 = .ok (.istore 5, 2) := by decide +kernel
theorem dX9_live_28 : decode cX9_live 28 = .ok (.iload 5, 2) := by decide +kernel
theorem dX9_live_30 : decode cX9_live 30 = .ok (.ifCond .eq 15, 3) := by decide +kernel
theorem dX9_live_33 : decode cX9_live 33 = .ok (.iload 4, 2) := by decide +kernel
theorem dX9_live_35 : decode cX9_live 35 = .ok (.ifCond .lt 10, 3) := by decide +kernel
theorem dX9_live_38 : decode cX9_live 38 = .ok (.iload 4, 2) := by decide +kernel
theorem dX9_live_40 : decode cX9_live 40 = .ok (.bipush 8, 2) := by decide +kernel
theorem dX9_live_42 : decode cX9_live 42 = .ok (.if_icmp .lt 10, 3) := by decide +kernel
theorem dX9_live_45 : decode cX9_live 45 = .ok (.aload_n 0, 1) := by decide +kernel
theorem dX9_live_46 : decode cX9_live 46 = .ok (.bipush (-2), 2) := by decide +kernel
theorem dX9_live_48 : decode cX9_live 48 = .ok (.invokevirtual 58, 3) := by decide +kernel
theorem dX9_live_51 : decode cX9_live 51 = .ok (.ireturn, 1) := by decide +kernel
theorem dX9_live_52 : decode cX9_live 52 = .ok (.aload_n 0, 1) := by decide +kernel
theorem dX9_live_53 : decode cX9_live 53 = .ok (.iload_n 1, 1) := by decide +kernel
theorem dX9_live_54 : decode cX9_live 54 = .ok (.iload_n 2, 1) := by decide +kernel
theorem dX9_live_55 : decode cX9_live 55 = .ok (.invokevirtual 131, 3) := by decide +kernel
theorem dX9_live_58 : decode cX9_live 58 = .ok (.ifCond .eq 15, 3) := by decide +kernel
theorem dX9_live_61 : decode cX9_live 61 = .ok (.aload_n 0, 1) := by decide +kernel
theorem dX9_live_62 : decode cX9_live 62 = .ok (.getfield 46, 3) := by decide +kernel
theorem dX9_live_65 : decode cX9_live 65 = .ok (.getfield 135, 3) := by decide +kernel
theorem dX9_live_68 : decode cX9_live 68 = .ok (.iload_n 3, 1) := by decide +kernel
theorem dX9_live_69 : decode cX9_live 69 = .ok (.iand, 1) := by decide +kernel
theorem dX9_live_70 : decode cX9_live 70 = .ok (.ifCond .ne 10, 3) := by decide +kernel
theorem dX9_live_73 : decode cX9_live 73 = .ok (.aload_n 0, 1) := by decide +kernel
theorem dX9_live_74 : decode cX9_live 74 = .ok (.bipush (-3), 2) := by decide +kernel
theorem dX9_live_76 : decode cX9_live 76 = .ok (.invokevirtual 58, 3) := by decide +kernel
theorem dX9_live_79 : decode cX9_live 79 = .ok (.ireturn, 1) := by decide +kernel
theorem dX9_live_80 : decode cX9_live 80 = .ok (.aload_n 0, 1) := by decide +kernel
theorem dX9_live_81 : decode cX9_live 81 = .ok (.getfield 46, 3) := by decide +kernel
theorem dX9_live_84 : decode cX9_live 84 = .ok (.getfield 157, 3) := by decide +kernel
theorem dX9_live_87 : decode cX9_live 87 = .ok (.iload_n 3, 1) := by decide +kernel
theorem dX9_live_88 : decode cX9_live 88 = .ok (.iaload, 1) := by decide +kernel
theorem dX9_live_89 : decode cX9_live 89 = .ok (.iload 4, 2) := by decide +kernel
theorem dX9_live_91 : decode cX9_live 91 = .ok (.ishr, 1) := by decide +kernel
theorem dX9_live_92 : decode cX9_live 92 = .ok (.iconst 1, 1) := by decide +kernel
theorem dX9_live_93 : decode cX9_live 93 = .ok (.iand, 1) := by decide +kernel
theorem dX9_live_94 : decode cX9_live 94 = .ok (.ireturn, 1) := by decide +kernel
set_option maxHeartbeats 4000000 in
set_option maxRecDepth 10000 in
theorem vX9_live_0 {l : Launch} {M : sl_M} {Q : sl_R} {x1 x2 x3 x4 : Int} (H : sl_RM M → sl_rg x1 → sl_rg x2 → sl_rg x3 → sl_rg x4 → (∀ y5 : Int, y5 = (if (x3 = 1) ∨ ((x3 = 2) ∨ ((x3 = 4) ∨ (¬ (x3 ≠ 8)))) then 1 else 0) → ((¬ ((x3 = 1) ∨ ((x3 = 2) ∨ ((x3 = 4) ∨ (¬ (x3 ≠ 8)))))) → sl_RI l mX9_refuse [vR 0 0, vI (-2)] M (fun y8 M7 => Q (some (vI y8)) M7)) ∧ (((x3 = 1) ∨ ((x3 = 2) ∨ ((x3 = 4) ∨ (¬ (x3 ≠ 8))))) → ((x4 < 0) → sl_RI l mX9_refuse [vR 0 0, vI (-2)] M (fun y11 M10 => Q (some (vI y11)) M10)) ∧ ((¬ (x4 < 0)) → ((x4 < 8) → sl_RI l mX9_choose [vR 0 0, vI x1, vI x2] M (fun y14 M13 => ((y14 = 0) → sl_RI l mX9_refuse [vR 0 0, vI (-3)] M13 (fun y17 M16 => Q (some (vI y17)) M16)) ∧ ((¬ (y14 = 0)) → ((iand (M13 7 0 3) x3 ≠ 0) → (0 ≤ x3 ∧ x3 < 9) ∧ Q (some (vI (iand (ishr (M13 7 8 x3) x4) 1))) M13) ∧ ((¬ (iand (M13 7 0 3) x3 ≠ 0)) → sl_RI l mX9_refuse [vR 0 0, vI (-3)] M13 (fun y21 M20 => Q (some (vI y21)) M20))))) ∧ ((¬ (x4 < 8)) → sl_RI l mX9_refuse [vR 0 0, vI (-2)] M (fun y23 M22 => Q (some (vI y23)) M22)))))) : sl_At l mX9_live 0 [(0, vR 0 0), (1, vI x1), (2, vI x2), (3, vI x3), (4, vI x4)] [] M Q := by
  refine sl_At.in (fun hM hls => ?_)
  have g1 : sl_rg x1 := hls _ (List.mem_of_getElem? (i := 1) rfl)
  have g2 : sl_rg x2 := hls _ (List.mem_of_getElem? (i := 2) rfl)
  have g3 : sl_rg x3 := hls _ (List.mem_of_getElem? (i := 3) rfl)
  have g4 : sl_rg x4 := hls _ (List.mem_of_getElem? (i := 4) rfl)
  have H := H hM g1 g2 g3 g4
  refine r_iload_n (k := 3) rfl rfl dX9_live_0 ?_
  refine r_iconst dX9_live_1 ?_
  have J : sl_At l mX9_live 26 [(0, vR 0 0), (1, vI x1), (2, vI x2), (3, vI x3), (4, vI x4)] [vI (if (x3 = 1) ∨ ((x3 = 2) ∨ ((x3 = 4) ∨ (¬ (x3 ≠ 8)))) then 1 else 0)] M Q := by
    refine r_nm (fun y5 fy5 => ?_)
    have H := H y5 fy5
    have gy5 : sl_rg y5 := by rw [fy5]; exact rg_b
    refine r_istore (ls' := [(5, vI y5), (0, vR 0 0), (1, vI x1), (2, vI x2), (3, vI x3), (4, vI x4)]) gy5 (by decide) rfl dX9_live_26 ?_
    refine r_iload (k := 0) rfl dX9_live_28 ?_
    refine r_if_eq (tgt := 45) gy5 dX9_live_30 (by decide) (fun h6 => ?_) (fun h6 => ?_)
    · have H := H.1 (b_eq0.mp (fy5.symm.trans h6))
      refine r_aload_n (k := 1) rfl rfl dX9_live_45 ?_
      refine r_bipush dX9_live_46 (by decide) ?_
      refine r_callV (g := mX9_refuse) ckX9 rfl rfl rfl rfl mkX9_refuse mvX9_refuse ml_X9_58 ⟨by decide, by decide⟩ rfl (Nat.le_of_ble_eq_true rfl) rfl (ok_i ⟨by decide, by decide⟩ ok_n) dX9_live_48 (sl_afterI (sl_RI.mono (fun y8 M7 gy8 hM7 H => ?_) H))
      refine r_iret rfl gy8 dX9_live_51 ?_
      exact H
    · have H := H.2 (b_ne0.mp (fun q => h6 (fy5.trans q)))
      refine r_iload (k := 5) rfl dX9_live_33 ?_
      refine r_if_lt (tgt := 45) g4 dX9_live_35 (by decide) (fun h9 => ?_) (fun h9 => ?_)
      · have H := H.1 h9
        refine r_aload_n (k := 1) rfl rfl dX9_live_45 ?_
        refine r_bipush dX9_live_46 (by decide) ?_
        refine r_callV (g := mX9_refuse) ckX9 rfl rfl rfl rfl mkX9_refuse mvX9_refuse ml_X9_58 ⟨by decide, by decide⟩ rfl (Nat.le_of_ble_eq_true rfl) rfl (ok_i ⟨by decide, by decide⟩ ok_n) dX9_live_48 (sl_afterI (sl_RI.mono (fun y11 M10 gy11 hM10 H => ?_) H))
        refine r_iret rfl gy11 dX9_live_51 ?_
        exact H
      · have H := H.2 h9
        refine r_iload (k := 5) rfl dX9_live_38 ?_
        refine r_bipush dX9_live_40 (by decide) ?_
        refine r_icmp_lt (tgt := 52) g4 ⟨by decide, by decide⟩ dX9_live_42 (by decide) (fun h12 => ?_) (fun h12 => ?_)
        · have H := H.1 h12
          refine r_aload_n (k := 1) rfl rfl dX9_live_52 ?_
          refine r_iload_n (k := 2) rfl rfl dX9_live_53 ?_
          refine r_iload_n (k := 3) rfl rfl dX9_live_54 ?_
          refine r_callV (g := mX9_choose) ckX9 rfl rfl rfl rfl mkX9_choose mvX9_choose ml_X9_131 ⟨by decide, by decide⟩ rfl (Nat.le_of_ble_eq_true rfl) rfl (ok_i g1 (ok_i g2 ok_n)) dX9_live_55 (sl_afterI (sl_RI.mono (fun y14 M13 gy14 hM13 H => ?_) H))
          refine r_if_eq (tgt := 73) gy14 dX9_live_58 (by decide) (fun h15 => ?_) (fun h15 => ?_)
          · have H := H.1 h15
            refine r_aload_n (k := 1) rfl rfl dX9_live_73 ?_
            refine r_bipush dX9_live_74 (by decide) ?_
            refine r_callV (g := mX9_refuse) ckX9 rfl rfl rfl rfl mkX9_refuse mvX9_refuse ml_X9_58 ⟨by decide, by decide⟩ rfl (Nat.le_of_ble_eq_true rfl) rfl (ok_i ⟨by decide, by decide⟩ ok_n) dX9_live_76 (sl_afterI (sl_RI.mono (fun y17 M16 gy17 hM16 H => ?_) H))
            refine r_iret rfl gy17 dX9_live_79 ?_
            exact H
          · have H := H.2 h15
            refine r_aload_n (k := 1) rfl rfl dX9_live_61 ?_
            refine r_getR (k := 9) (o' := 7) (i' := 0) ckX9 rfl rfl (by decide) rfl rfl rfl fl_X9_46 dX9_live_62 ?_
            refine r_gI (k := 3) (kz := 3) rfl ckX6 rfl rfl (by decide) rfl rfl fl_X9_135 dX9_live_65 ?_
            refine r_iload_n (k := 4) rfl rfl dX9_live_68 ?_
            refine r_iand dX9_live_69 ?_
            refine r_if_ne (tgt := 80) (rg_iand _ _) dX9_live_70 (by decide) (fun h18 => ?_) (fun h18 => ?_)
            · have H := H.1 h18
              refine r_aload_n (k := 1) rfl rfl dX9_live_80 ?_
              refine r_getR (k := 9) (o' := 7) (i' := 0) ckX9 rfl rfl (by decide) rfl rfl rfl fl_X9_46 dX9_live_81 ?_
              refine r_getR (k := 7) (o' := 7) (i' := 8) ckX6 rfl rfl (by decide) rfl rfl rfl fl_X9_157 dX9_live_84 ?_
              refine r_iload_n (k := 4) rfl rfl dX9_live_87 ?_
              obtain ⟨c19, H⟩ := H
              refine r_iald rfl rfl rfl c19 dX9_live_88 ?_
              refine r_iload (k := 5) rfl dX9_live_89 ?_
              refine r_ishr dX9_live_91 ?_
              refine r_iconst dX9_live_92 ?_
              refine r_iand dX9_live_93 ?_
              refine r_iret rfl (rg_iand _ _) dX9_live_94 ?_
              exact H
            · have H := H.2 h18
              refine r_aload_n (k := 1) rfl rfl dX9_live_73 ?_
              refine r_bipush dX9_live_74 (by decide) ?_
              refine r_callV (g := mX9_refuse) ckX9 rfl rfl rfl rfl mkX9_refuse mvX9_refuse ml_X9_58 ⟨by decide, by decide⟩ rfl (Nat.le_of_ble_eq_true rfl) rfl (ok_i ⟨by decide, by decide⟩ ok_n) dX9_live_76 (sl_afterI (sl_RI.mono (fun y21 M20 gy21 hM20 H => ?_) H))
              refine r_iret rfl gy21 dX9_live_79 ?_
              exact H
        · have H := H.2 h12
          refine r_aload_n (k := 1) rfl rfl dX9_live_45 ?_
          refine r_bipush dX9_live_46 (by decide) ?_
          refine r_callV (g := mX9_refuse) ckX9 rfl rfl rfl rfl mkX9_refuse mvX9_refuse ml_X9_58 ⟨by decide, by decide⟩ rfl (Nat.le_of_ble_eq_true rfl) rfl (ok_i ⟨by decide, by decide⟩ ok_n) dX9_live_48 (sl_afterI (sl_RI.mono (fun y23 M22 gy23 hM22 H => ?_) H))
          refine r_iret rfl gy23 dX9_live_51 ?_
          exact H
  refine r_icmp_eq (tgt := 21) g3 ⟨by decide, by decide⟩ dX9_live_2 (by decide) (fun h1 => ?_) (fun h1 => ?_)
  · refine r_iconst dX9_live_21 ?_
    refine r_goto (tgt := 26) dX9_live_22 (by decide) ?_
    rw [if_pos (show (x3 = 1) ∨ ((x3 = 2) ∨ ((x3 = 4) ∨ (¬ (x3 ≠ 8)))) by omega)] at J
    exact J
  · refine r_iload_n (k := 3) rfl rfl dX9_live_5 ?_
    refine r_iconst dX9_live_6 ?_
    refine r_icmp_eq (tgt := 21) g3 ⟨by decide, by decide⟩ dX9_live_7 (by decide) (fun h2 => ?_) (fun h2 => ?_)
    · refine r_iconst dX9_live_21 ?_
      refine r_goto (tgt := 26) dX9_live_22 (by decide) ?_
      rw [if_pos (show (x3 = 1) ∨ ((x3 = 2) ∨ ((x3 = 4) ∨ (¬ (x3 ≠ 8)))) by omega)] at J
      exact J
    · refine r_iload_n (k := 3) rfl rfl dX9_live_10 ?_
      refine r_iconst dX9_live_11 ?_
      refine r_icmp_eq (tgt := 21) g3 ⟨by decide, by decide⟩ dX9_live_12 (by decide) (fun h3 => ?_) (fun h3 => ?_)
      · refine r_iconst dX9_live_21 ?_
        refine r_goto (tgt := 26) dX9_live_22 (by decide) ?_
        rw [if_pos (show (x3 = 1) ∨ ((x3 = 2) ∨ ((x3 = 4) ∨ (¬ (x3 ≠ 8)))) by omega)] at J
        exact J
      · refine r_iload_n (k := 3) rfl rfl dX9_live_15 ?_
        refine r_bipush dX9_live_16 (by decide) ?_
        refine r_icmp_ne (tgt := 25) g3 ⟨by decide, by decide⟩ dX9_live_18 (by decide) (fun h4 => ?_) (fun h4 => ?_)
        · refine r_iconst dX9_live_25 ?_
          rw [if_neg (show ¬ ((x3 = 1) ∨ ((x3 = 2) ∨ ((x3 = 4) ∨ (¬ (x3 ≠ 8))))) by omega)] at J
          exact J
        · refine r_iconst dX9_live_21 ?_
          refine r_goto (tgt := 26) dX9_live_22 (by decide) ?_
          rw [if_pos (show (x3 = 1) ∨ ((x3 = 2) ∨ ((x3 = 4) ∨ (¬ (x3 ≠ 8)))) by omega)] at J
          exact J
set_option maxHeartbeats 4000000 in
set_option maxRecDepth 10000 in
theorem vX9_live_21 {l : Launch} {M : sl_M} {Q : sl_R} {x1 x2 x3 x4 : Int} (H : sl_RM M → sl_rg x1 → sl_rg x2 → sl_rg x3 → sl_rg x4 → (((1 : Int) = 0) → sl_RI l mX9_refuse [vR 0 0, vI (-2)] M (fun y3 M2 => Q (some (vI y3)) M2)) ∧ ((¬ ((1 : Int) = 0)) → ((x4 < 0) → sl_RI l mX9_refuse [vR 0 0, vI (-2)] M (fun y6 M5 => Q (some (vI y6)) M5)) ∧ ((¬ (x4 < 0)) → ((x4 < 8) → sl_RI l mX9_choose [vR 0 0, vI x1, vI x2] M (fun y9 M8 => ((y9 = 0) → sl_RI l mX9_refuse [vR 0 0, vI (-3)] M8 (fun y12 M11 => Q (some (vI y12)) M11)) ∧ ((¬ (y9 = 0)) → ((iand (M8 7 0 3) x3 ≠ 0) → (0 ≤ x3 ∧ x3 < 9) ∧ Q (some (vI (iand (ishr (M8 7 8 x3) x4) 1))) M8) ∧ ((¬ (iand (M8 7 0 3) x3 ≠ 0)) → sl_RI l mX9_refuse [vR 0 0, vI (-3)] M8 (fun y16 M15 => Q (some (vI y16)) M15))))) ∧ ((¬ (x4 < 8)) → sl_RI l mX9_refuse [vR 0 0, vI (-2)] M (fun y18 M17 => Q (some (vI y18)) M17))))) : sl_At l mX9_live 21 [(0, vR 0 0), (1, vI x1), (2, vI x2), (3, vI x3), (4, vI x4)] [] M Q := by
  refine sl_At.in (fun hM hls => ?_)
  have g1 : sl_rg x1 := hls _ (List.mem_of_getElem? (i := 1) rfl)
  have g2 : sl_rg x2 := hls _ (List.mem_of_getElem? (i := 2) rfl)
  have g3 : sl_rg x3 := hls _ (List.mem_of_getElem? (i := 3) rfl)
  have g4 : sl_rg x4 := hls _ (List.mem_of_getElem? (i := 4) rfl)
  have H := H hM g1 g2 g3 g4
  refine r_iconst dX9_live_21 ?_
  refine r_goto (tgt := 26) dX9_live_22 (by decide) ?_
  refine r_istore (ls' := [(5, vI 1), (0, vR 0 0), (1, vI x1), (2, vI x2), (3, vI x3), (4, vI x4)]) ⟨by decide, by decide⟩ (by decide) rfl dX9_live_26 ?_
  refine r_iload (k := 0) rfl dX9_live_28 ?_
  refine r_if_eq (tgt := 45) ⟨by decide, by decide⟩ dX9_live_30 (by decide) (fun h1 => ?_) (fun h1 => ?_)
  · have H := H.1 h1
    refine r_aload_n (k := 1) rfl rfl dX9_live_45 ?_
    refine r_bipush dX9_live_46 (by decide) ?_
    refine r_callV (g := mX9_refuse) ckX9 rfl rfl rfl rfl mkX9_refuse mvX9_refuse ml_X9_58 ⟨by decide, by decide⟩ rfl (Nat.le_of_ble_eq_true rfl) rfl (ok_i ⟨by decide, by decide⟩ ok_n) dX9_live_48 (sl_afterI (sl_RI.mono (fun y3 M2 gy3 hM2 H => ?_) H))
    refine r_iret rfl gy3 dX9_live_51 ?_
    exact H
  · have H := H.2 h1
    refine r_iload (k := 5) rfl dX9_live_33 ?_
    refine r_if_lt (tgt := 45) g4 dX9_live_35 (by decide) (fun h4 => ?_) (fun h4 => ?_)
    · have H := H.1 h4
      refine r_aload_n (k := 1) rfl rfl dX9_live_45 ?_
      refine r_bipush dX9_live_46 (by decide) ?_
      refine r_callV (g := mX9_refuse) ckX9 rfl rfl rfl rfl mkX9_refuse mvX9_refuse ml_X9_58 ⟨by decide, by decide⟩ rfl (Nat.le_of_ble_eq_true rfl) rfl (ok_i ⟨by decide, by decide⟩ ok_n) dX9_live_48 (sl_afterI (sl_RI.mono (fun y6 M5 gy6 hM5 H => ?_) H))
      refine r_iret rfl gy6 dX9_live_51 ?_
      exact H
    · have H := H.2 h4
      refine r_iload (k := 5) rfl dX9_live_38 ?_
      refine r_bipush dX9_live_40 (by decide) ?_
      refine r_icmp_lt (tgt := 52) g4 ⟨by decide, by decide⟩ dX9_live_42 (by decide) (fun h7 => ?_) (fun h7 => ?_)
      · have H := H.1 h7
        refine r_aload_n (k := 1) rfl rfl dX9_live_52 ?_
        refine r_iload_n (k := 2) rfl rfl dX9_live_53 ?_
        refine r_iload_n (k := 3) rfl rfl dX9_live_54 ?_
        refine r_callV (g := mX9_choose) ckX9 rfl rfl rfl rfl mkX9_choose mvX9_choose ml_X9_131 ⟨by decide, by decide⟩ rfl (Nat.le_of_ble_eq_true rfl) rfl (ok_i g1 (ok_i g2 ok_n)) dX9_live_55 (sl_afterI (sl_RI.mono (fun y9 M8 gy9 hM8 H => ?_) H))
        refine r_if_eq (tgt := 73) gy9 dX9_live_58 (by decide) (fun h10 => ?_) (fun h10 => ?_)
        · have H := H.1 h10
          refine r_aload_n (k := 1) rfl rfl dX9_live_73 ?_
          refine r_bipush dX9_live_74 (by decide) ?_
          refine r_callV (g := mX9_refuse) ckX9 rfl rfl rfl rfl mkX9_refuse mvX9_refuse ml_X9_58 ⟨by decide, by decide⟩ rfl (Nat.le_of_ble_eq_true rfl) rfl (ok_i ⟨by decide, by decide⟩ ok_n) dX9_live_76 (sl_afterI (sl_RI.mono (fun y12 M11 gy12 hM11 H => ?_) H))
          refine r_iret rfl gy12 dX9_live_79 ?_
          exact H
        · have H := H.2 h10
          refine r_aload_n (k := 1) rfl rfl dX9_live_61 ?_
          refine r_getR (k := 9) (o' := 7) (i' := 0) ckX9 rfl rfl (by decide) rfl rfl rfl fl_X9_46 dX9_live_62 ?_
          refine r_gI (k := 3) (kz := 3) rfl ckX6 rfl rfl (by decide) rfl rfl fl_X9_135 dX9_live_65 ?_
          refine r_iload_n (k := 4) rfl rfl dX9_live_68 ?_
          refine r_iand dX9_live_69 ?_
          refine r_if_ne (tgt := 80) (rg_iand _ _) dX9_live_70 (by decide) (fun h13 => ?_) (fun h13 => ?_)
          · have H := H.1 h13
            refine r_aload_n (k := 1) rfl rfl dX9_live_80 ?_
            refine r_getR (k := 9) (o' := 7) (i' := 0) ckX9 rfl rfl (by decide) rfl rfl rfl fl_X9_46 dX9_live_81 ?_
            refine r_getR (k := 7) (o' := 7) (i' := 8) ckX6 rfl rfl (by decide) rfl rfl rfl fl_X9_157 dX9_live_84 ?_
            refine r_iload_n (k := 4) rfl rfl dX9_live_87 ?_
            obtain ⟨c14, H⟩ := H
            refine r_iald rfl rfl rfl c14 dX9_live_88 ?_
            refine r_iload (k := 5) rfl dX9_live_89 ?_
            refine r_ishr dX9_live_91 ?_
            refine r_iconst dX9_live_92 ?_
            refine r_iand dX9_live_93 ?_
            refine r_iret rfl (rg_iand _ _) dX9_live_94 ?_
            exact H
          · have H := H.2 h13
            refine r_aload_n (k := 1) rfl rfl dX9_live_73 ?_
            refine r_bipush dX9_live_74 (by decide) ?_
            refine r_callV (g := mX9_refuse) ckX9 rfl rfl rfl rfl mkX9_refuse mvX9_refuse ml_X9_58 ⟨by decide, by decide⟩ rfl (Nat.le_of_ble_eq_true rfl) rfl (ok_i ⟨by decide, by decide⟩ ok_n) dX9_live_76 (sl_afterI (sl_RI.mono (fun y16 M15 gy16 hM15 H => ?_) H))
            refine r_iret rfl gy16 dX9_live_79 ?_
            exact H
      · have H := H.2 h7
        refine r_aload_n (k := 1) rfl rfl dX9_live_45 ?_
        refine r_bipush dX9_live_46 (by decide) ?_
        refine r_callV (g := mX9_refuse) ckX9 rfl rfl rfl rfl mkX9_refuse mvX9_refuse ml_X9_58 ⟨by decide, by decide⟩ rfl (Nat.le_of_ble_eq_true rfl) rfl (ok_i ⟨by decide, by decide⟩ ok_n) dX9_live_48 (sl_afterI (sl_RI.mono (fun y18 M17 gy18 hM17 H => ?_) H))
        refine r_iret rfl gy18 dX9_live_51 ?_
        exact H
theorem eX9_live {l : Launch} {M : sl_M} {Q : sl_R} {x1 x2 x3 x4 : Int} (k : sl_At l mX9_live 0 [(0, vR 0 0), (1, vI x1), (2, vI x2), (3, vI x3), (4, vI x4)] [] M Q) : sl_Runs l mX9_live [vR 0 0, vI x1, vI x2, vI x3, vI x4] M Q := sl_Runs.of (ls := [(0, vR 0 0), (1, vI x1), (2, vI x2), (3, vI x3), (4, vI x4)]) rfl rfl (fun _ => rfl) (fun _ => Nat.le_of_ble_eq_true rfl) rfl (k)
theorem dX9_sure_0 : decode cX9_sure 0 = .ok (.aload_n 0, 1) := by decide +kernel
theorem dX9_sure_1 : decode cX9_sure 1 = .ok (.invokevirtual 92, 3) := by decide +kernel
theorem dX9_sure_4 : decode cX9_sure 4 = .ok (.getfield 73, 3) := by decide +kernel
theorem dX9_sure_7 : decode cX9_sure 7 = .ok (.iload_n 1, 1) := by decide +kernel
theorem dX9_sure_8 : decode cX9_sure 8 = .ok (.invokevirtual 95, 3) := by decide +kernel
theorem dX9_sure_11 : decode cX9_sure 11 = .ok (.ifCond .eq 13, 3) := by decide +kernel
theorem dX9_sure_14 : decode cX9_sure 14 = .ok (.iload_n 2, 1) := by decide +kernel
theorem dX9_sure_15 : decode cX9_sure 15 = .ok (.ifCond .lt 9, 3) := by decide +kernel
theorem dX9_sure_18 : decode cX9_sure 18 = .ok (.iload_n 2, 1) := by decide +kernel
theorem dX9_sure_19 : decode cX9_sure 19 = .ok (.bipush 8, 2) := by decide +kernel
theorem dX9_sure_21 : decode cX9_sure 21 = .ok (.if_icmp .lt 10, 3) := by decide +kernel
theorem dX9_sure_24 : decode cX9_sure 24 = .ok (.aload_n 0, 1) := by decide +kernel
theorem dX9_sure_25 : decode cX9_sure 25 = .ok (.bipush (-2), 2) := by decide +kernel
theorem dX9_sure_27 : decode cX9_sure 27 = .ok (.invokevirtual 58, 3) := by decide +kernel
theorem dX9_sure_30 : decode cX9_sure 30 = .ok (.ireturn, 1) := by decide +kernel
theorem dX9_sure_31 : decode cX9_sure 31 = .ok (.aload_n 0, 1) := by decide +kernel
theorem dX9_sure_32 : decode cX9_sure 32 = .ok (.getfield 39, 3) := by decide +kernel
theorem dX9_sure_35 : decode cX9_sure 35 = .ok (.aload_n 0, 1) := by decide +kernel
theorem dX9_sure_36 : decode cX9_sure 36 = .ok (.invokevirtual 92, 3) := by decide +kernel
theorem dX9_sure_39 : decode cX9_sure 39 = .ok (.invokevirtual 160, 3) := by decide +kernel
theorem dX9_sure_42 : decode cX9_sure 42 = .ok (.aload_n 0, 1) := by decide +kernel
theorem dX9_sure_43 : decode cX9_sure 43 = .ok (.getfield 39, 3) := by decide +kernel
theorem dX9_sure_46 : decode cX9_sure 46 = .ok (.getfield 164, 3) := by decide +kernel
theorem dX9_sure_49 : decode cX9_sure 49 = .ok (.iload_n 1, 1) := by decide +kernel
theorem dX9_sure_50 : decode cX9_sure 50 = .ok (.iaload, 1) := by decide +kernel
theorem dX9_sure_51 : decode cX9_sure 51 = .ok (.iload_n 2, 1) := by decide +kernel
theorem dX9_sure_52 : decode cX9_sure 52 = .ok (.ishr, 1) := by decide +kernel
theorem dX9_sure_53 : decode cX9_sure 53 = .ok (.iconst 1, 1) := by decide +kernel
theorem dX9_sure_54 : decode cX9_sure 54 = .ok (.iand, 1) := by decide +kernel
theorem dX9_sure_55 : decode cX9_sure 55 = .ok (.ireturn, 1) := by decide +kernel
set_option maxHeartbeats 4000000 in
set_option maxRecDepth 10000 in
theorem vX9_sure_0 {l : Launch} {M : sl_M} {Q : sl_R} {x1 x2 : Int} (H : sl_RM M → sl_rg x1 → sl_rg x2 → sl_RR l mX9_present [vR 0 0] M (fun p2 M1 => (sl_cls p2 = 7) ∧ sl_RI l mX0_holds [vR (p2 + 10) 0, vI x1] M1 (fun y4 M3 => ((y4 = 0) → sl_RI l mX9_refuse [vR 0 0, vI (-2)] M3 (fun y7 M6 => Q (some (vI y7)) M6)) ∧ ((¬ (y4 = 0)) → ((x2 < 0) → sl_RI l mX9_refuse [vR 0 0, vI (-2)] M3 (fun y10 M9 => Q (some (vI y10)) M9)) ∧ ((¬ (x2 < 0)) → ((x2 < 8) → sl_RR l mX9_present [vR 0 0] M3 (fun p13 M12 => (sl_cls p13 = 7) ∧ sl_RV l mX1_study [vR 6 0, vR p13 0] M12 (fun M14 => (0 ≤ x1 ∧ x1 < 40) ∧ Q (some (vI (iand (ishr (M14 6 4 x1) x2) 1))) M14))) ∧ ((¬ (x2 < 8)) → sl_RI l mX9_refuse [vR 0 0, vI (-2)] M3 (fun y17 M16 => Q (some (vI y17)) M16))))))) : sl_At l mX9_sure 0 [(0, vR 0 0), (1, vI x1), (2, vI x2)] [] M Q := by
  refine sl_At.in (fun hM hls => ?_)
  have g1 : sl_rg x1 := hls _ (List.mem_of_getElem? (i := 1) rfl)
  have g2 : sl_rg x2 := hls _ (List.mem_of_getElem? (i := 2) rfl)
  have H := H hM g1 g2
  refine r_aload_n (k := 0) rfl rfl dX9_sure_0 ?_
  refine r_callV (g := mX9_present) ckX9 rfl rfl rfl rfl mkX9_present mvX9_present ml_X9_92 ⟨by decide, by decide⟩ rfl (Nat.le_of_ble_eq_true rfl) rfl ok_n dX9_sure_1 (sl_afterR (sl_RR.mono (fun p2 M1 hM1 H => ?_) H))
  obtain ⟨zp2, H⟩ := H
  refine r_getR (k := 0) (o' := p2 + 10) (i' := 0) ckX7 zp2 rfl (by decide) rfl rfl rfl fl_X9_73 dX9_sure_4 ?_
  refine r_iload_n (k := 1) rfl rfl dX9_sure_7 ?_
  refine r_callV (g := mX0_holds) ckX0 (cl_prog zp2) rfl rfl rfl mkX0_holds mvX0_holds ml_X9_95 ⟨by decide, by decide⟩ rfl (Nat.le_of_ble_eq_true rfl) rfl (ok_i g1 ok_n) dX9_sure_8 (sl_afterI (sl_RI.mono (fun y4 M3 gy4 hM3 H => ?_) H))
  refine r_if_eq (tgt := 24) gy4 dX9_sure_11 (by decide) (fun h5 => ?_) (fun h5 => ?_)
  · have H := H.1 h5
    refine r_aload_n (k := 0) rfl rfl dX9_sure_24 ?_
    refine r_bipush dX9_sure_25 (by decide) ?_
    refine r_callV (g := mX9_refuse) ckX9 rfl rfl rfl rfl mkX9_refuse mvX9_refuse ml_X9_58 ⟨by decide, by decide⟩ rfl (Nat.le_of_ble_eq_true rfl) rfl (ok_i ⟨by decide, by decide⟩ ok_n) dX9_sure_27 (sl_afterI (sl_RI.mono (fun y7 M6 gy7 hM6 H => ?_) H))
    refine r_iret rfl gy7 dX9_sure_30 ?_
    exact H
  · have H := H.2 h5
    refine r_iload_n (k := 2) rfl rfl dX9_sure_14 ?_
    refine r_if_lt (tgt := 24) g2 dX9_sure_15 (by decide) (fun h8 => ?_) (fun h8 => ?_)
    · have H := H.1 h8
      refine r_aload_n (k := 0) rfl rfl dX9_sure_24 ?_
      refine r_bipush dX9_sure_25 (by decide) ?_
      refine r_callV (g := mX9_refuse) ckX9 rfl rfl rfl rfl mkX9_refuse mvX9_refuse ml_X9_58 ⟨by decide, by decide⟩ rfl (Nat.le_of_ble_eq_true rfl) rfl (ok_i ⟨by decide, by decide⟩ ok_n) dX9_sure_27 (sl_afterI (sl_RI.mono (fun y10 M9 gy10 hM9 H => ?_) H))
      refine r_iret rfl gy10 dX9_sure_30 ?_
      exact H
    · have H := H.2 h8
      refine r_iload_n (k := 2) rfl rfl dX9_sure_18 ?_
      refine r_bipush dX9_sure_19 (by decide) ?_
      refine r_icmp_lt (tgt := 31) g2 ⟨by decide, by decide⟩ dX9_sure_21 (by decide) (fun h11 => ?_) (fun h11 => ?_)
      · have H := H.1 h11
        refine r_aload_n (k := 0) rfl rfl dX9_sure_31 ?_
        refine r_getR (k := 8) (o' := 6) (i' := 0) ckX9 rfl rfl (by decide) rfl rfl rfl fl_X9_39 dX9_sure_32 ?_
        refine r_aload_n (k := 0) rfl rfl dX9_sure_35 ?_
        refine r_callV (g := mX9_present) ckX9 rfl rfl rfl rfl mkX9_present mvX9_present ml_X9_92 ⟨by decide, by decide⟩ rfl (Nat.le_of_ble_eq_true rfl) rfl ok_n dX9_sure_36 (sl_afterR (sl_RR.mono (fun p13 M12 hM12 H => ?_) H))
        obtain ⟨zp13, H⟩ := H
        refine r_callV (g := mX1_study) ckX1 rfl rfl rfl rfl mkX1_study mvX1_study ml_X9_160 ⟨by decide, by decide⟩ rfl (Nat.le_of_ble_eq_true rfl) rfl (ok_r ok_n) dX9_sure_39 (sl_afterV (sl_RV.mono (fun M14 hM14 H => ?_) H))
        refine r_aload_n (k := 0) rfl rfl dX9_sure_42 ?_
        refine r_getR (k := 8) (o' := 6) (i' := 0) ckX9 rfl rfl (by decide) rfl rfl rfl fl_X9_39 dX9_sure_43 ?_
        refine r_getR (k := 3) (o' := 6) (i' := 4) ckX1 rfl rfl (by decide) rfl rfl rfl fl_X9_164 dX9_sure_46 ?_
        refine r_iload_n (k := 1) rfl rfl dX9_sure_49 ?_
        obtain ⟨c15, H⟩ := H
        refine r_iald rfl rfl rfl c15 dX9_sure_50 ?_
        refine r_iload_n (k := 2) rfl rfl dX9_sure_51 ?_
        refine r_ishr dX9_sure_52 ?_
        refine r_iconst dX9_sure_53 ?_
        refine r_iand dX9_sure_54 ?_
        refine r_iret rfl (rg_iand _ _) dX9_sure_55 ?_
        exact H
      · have H := H.2 h11
        refine r_aload_n (k := 0) rfl rfl dX9_sure_24 ?_
        refine r_bipush dX9_sure_25 (by decide) ?_
        refine r_callV (g := mX9_refuse) ckX9 rfl rfl rfl rfl mkX9_refuse mvX9_refuse ml_X9_58 ⟨by decide, by decide⟩ rfl (Nat.le_of_ble_eq_true rfl) rfl (ok_i ⟨by decide, by decide⟩ ok_n) dX9_sure_27 (sl_afterI (sl_RI.mono (fun y17 M16 gy17 hM16 H => ?_) H))
        refine r_iret rfl gy17 dX9_sure_30 ?_
        exact H
theorem eX9_sure {l : Launch} {M : sl_M} {Q : sl_R} {x1 x2 : Int} (k : sl_At l mX9_sure 0 [(0, vR 0 0), (1, vI x1), (2, vI x2)] [] M Q) : sl_Runs l mX9_sure [vR 0 0, vI x1, vI x2] M Q := sl_Runs.of (ls := [(0, vR 0 0), (1, vI x1), (2, vI x2)]) rfl rfl (fun _ => rfl) (fun _ => Nat.le_of_ble_eq_true rfl) rfl (k)
theorem dX9_alike_0 : decode cX9_alike 0 = .ok (.iload_n 3, 1) := by decide +kernel
theorem dX9_alike_1 : decode cX9_alike 1 = .ok (.ifCond .lt 25, 3) := by decide +kernel
theorem dX9_alike_4 : decode cX9_alike 4 = .ok (.iload_n 3, 1) := by decide +kernel
theorem dX9_alike_5 : decode cX9_alike 5 = .ok (.iconst 2, 1) := by decide +kernel
theorem dX9_alike_6 : decode cX9_alike 6 = .ok (.if_icmp .gt 20, 3) := by decide +kernel
theorem dX9_alike_9 : decode cX9_alike 9 = .ok (.iload 4, 2) := by decide +kernel
theorem dX9_alike_11 : decode cX9_alike 11 = .ok (.ifCond .lt 15, 3) := by decide +kernel
theorem dX9_alike_14 : decode cX9_alike 14 = .ok (.iload_n 3, 1) := by decide +kernel
theorem dX9_alike_15 : decode cX9_alike 15 = .ok (.iconst 2, 1) := by decide +kernel
theorem dX9_alike_16 : decode cX9_alike 16 = .ok (.if_icmp .ne 17, 3) := by decide +kernel
theorem dX9_alike_19 : decode cX9_alike 19 = .ok (.iload 4, 2) := by decide +kernel
theorem dX9_alike_21 : decode cX9_alike 21 = .ok (.bipush 8, 2) := by decide +kernel
theorem dX9_alike_23 : decode cX9_alike 23 = .ok (.if_icmp .lt 10, 3) := by decide +kernel
theorem dX9_alike_26 : decode cX9_alike 26 = .ok (.aload_n 0, 1) := by decide +kernel
theorem dX9_alike_27 : decode cX9_alike 27 = .ok (.bipush (-2), 2) := by decide +kernel
theorem dX9_alike_29 : decode cX9_alike 29 = .ok (.invokevirtual 58, 3) := by decide +kernel
theorem dX9_alike_32 : decode cX9_alike 32 = .ok (.ireturn, 1) := by decide +kernel
theorem dX9_alike_33 : decode cX9_alike 33 = .ok (.aload_n 0, 1) := by decide +kernel
theorem dX9_alike_34 : decode cX9_alike 34 = .ok (.iload_n 1, 1) := by decide +kernel
theorem dX9_alike_35 : decode cX9_alike 35 = .ok (.iload_n 2, 1) := by decide +kernel
theorem dX9_alike_36 : decode cX9_alike 36 = .ok (.invokevirtual 131, 3) := by decide +kernel
theorem dX9_alike_39 : decode cX9_alike 39 = .ok (.ifCond .ne 10, 3) := by decide +kernel
theorem dX9_alike_42 : decode cX9_alike 42 = .ok (.aload_n 0, 1) := by decide +kernel
theorem dX9_alike_43 : decode cX9_alike 43 = .ok (.bipush (-3), 2) := by decide +kernel
theorem dX9_alike_45 : decode cX9_alike 45 = .ok (.invokevirtual 58, 3) := by decide +kernel
theorem dX9_alike_48 : decode cX9_alike 48 = .ok (.ireturn, 1) := by decide +kernel
theorem dX9_alike_49 : decode cX9_alike 49 = .ok (.aload_n 0, 1) := by decide +kernel
theorem dX9_alike_50 : decode cX9_alike 50 = .ok (.getfield 53, 3) := by decide +kernel
theorem dX9_alike_53 : decode cX9_alike 53 = .ok (.aload_n 0, 1) := by decide +kernel
theorem dX9_alike_54 : decode cX9_alike 54 = .ok (.getfield 46, 3) := by decide +kernel
theorem dX9_alike_57 : decode cX9_alike 57 = .ok (.aload_n 0, 1) := by decide +kernel
theorem dX9_alike_58 : decode cX9_alike 58 = .ok (.getfield 39, 3) := by decide +kernel
theorem dX9_alike_61 : decode cX9_alike 61 = .ok (.invokevirtual 167, 3) := by decide +kernel
theorem dX9_alike_64 : decode cX9_alike 64 = .ok (.iload_n 3, 1) := by decide +kernel
theorem dX9_alike_65 : decode cX9_alike 65 = .ok (.lookupswitch 62 #[(0, 27), (1, 35)], 27) := by decide +kernel
theorem dX9_alike_92 : decode cX9_alike 92 = .ok (.aload_n 0, 1) := by decide +kernel
theorem dX9_alike_93 : decode cX9_alike 93 = .ok (.getfield 53, 3) := by decide +kernel
theorem dX9_alike_96 : decode cX9_alike 96 = .ok (.getfield 171, 3) := by decide +kernel
theorem dX9_alike_99 : decode cX9_alike 99 = .ok (.ireturn, 1) := by decide +kernel
theorem dX9_alike_100 : decode cX9_alike 100 = .ok (.iload 4, 2) := by decide +kernel
theorem dX9_alike_102 : decode cX9_alike 102 = .ok (.aload_n 0, 1) := by decide +kernel
theorem dX9_alike_103 : decode cX9_alike 103 = .ok (.getfield 53, 3) := by decide +kernel
theorem dX9_alike_106 : decode cX9_alike 106 = .ok (.getfield 171, 3) := by decide +kernel
theorem dX9_alike_109 : decode cX9_alike 109 = .ok (.if_icmp .ge 16, 3) := by decide +kernel
theorem dX9_alike_112 : decode cX9_alike 112 = .ok (.aload_n 0, 1) := by decide +kernel
theorem dX9_alike_113 : decode cX9_alike 113 = .ok (.getfield 53, 3) := by decide +kernel
theorem dX9_alike_116 : decode cX9_alike 116 = .ok (.getfield 174, 3) := by decide +kernel
theorem dX9_alike_119 : decode cX9_alike 119 = .ok (.iload 4, 2) := by decide +kernel
theorem dX9_alike_121 : decode cX9_alike 121 = .ok (.iaload, 1) := by decide +kernel
theorem dX9_alike_122 : decode cX9_alike 122 = .ok (.goto 4, 3) := by decide +kernel
theorem dX9_alike_125 : decode cX9_alike 125 = .ok (.iconst (-1), 1) := by decide +kernel
theorem dX9_alike_126 : decode cX9_alike 126 = .ok (.ireturn, 1) := by decide +kernel
theorem dX9_alike_127 : decode cX9_alike 127 = .ok (.aload_n 0, 1) := by decide +kernel
theorem dX9_alike_128 : decode cX9_alike 128 = .ok (.getfield 53, 3) := by decide +kernel
theorem dX9_alike_131 : decode cX9_alike 131 = .ok (.iload 4, 2) := by decide +kernel
theorem dX9_alike_133 : decode cX9_alike 133 = .ok (.invokevirtual 177, 3) := by decide +kernel
theorem dX9_alike_136 : decode cX9_alike 136 = .ok (.ireturn, 1) := by decide +kernel
set_option maxHeartbeats 4000000 in
set_option maxRecDepth 10000 in
theorem vX9_alike_0 {l : Launch} {M : sl_M} {Q : sl_R} {x1 x2 x3 x4 : Int} (H : sl_RM M → sl_rg x1 → sl_rg x2 → sl_rg x3 → sl_rg x4 → ((x3 < 0) → sl_RI l mX9_refuse [vR 0 0, vI (-2)] M (fun y3 M2 => Q (some (vI y3)) M2)) ∧ ((¬ (x3 < 0)) → ((2 < x3) → sl_RI l mX9_refuse [vR 0 0, vI (-2)] M (fun y6 M5 => Q (some (vI y6)) M5)) ∧ ((¬ (2 < x3)) → ((x4 < 0) → sl_RI l mX9_refuse [vR 0 0, vI (-2)] M (fun y9 M8 => Q (some (vI y9)) M8)) ∧ ((¬ (x4 < 0)) → ((x3 ≠ 2) → sl_At l mX9_alike 33 [(0, vR 0 0), (1, vI x1), (2, vI x2), (3, vI x3), (4, vI x4)] [] M Q) ∧ ((¬ (x3 ≠ 2)) → ((x4 < 8) → sl_At l mX9_alike 33 [(0, vR 0 0), (1, vI x1), (2, vI x2), (3, vI x3), (4, vI x4)] [] M Q) ∧ ((¬ (x4 < 8)) → sl_RI l mX9_refuse [vR 0 0, vI (-2)] M (fun y13 M12 => Q (some (vI y13)) M12))))))) : sl_At l mX9_alike 0 [(0, vR 0 0), (1, vI x1), (2, vI x2), (3, vI x3), (4, vI x4)] [] M Q := by
  refine sl_At.in (fun hM hls => ?_)
  have g1 : sl_rg x1 := hls _ (List.mem_of_getElem? (i := 1) rfl)
  have g2 : sl_rg x2 := hls _ (List.mem_of_getElem? (i := 2) rfl)
  have g3 : sl_rg x3 := hls _ (List.mem_of_getElem? (i := 3) rfl)
  have g4 : sl_rg x4 := hls _ (List.mem_of_getElem? (i := 4) rfl)
  have H := H hM g1 g2 g3 g4
  refine r_iload_n (k := 3) rfl rfl dX9_alike_0 ?_
  refine r_if_lt (tgt := 26) g3 dX9_alike_1 (by decide) (fun h1 => ?_) (fun h1 => ?_)
  · have H := H.1 h1
    refine r_aload_n (k := 0) rfl rfl dX9_alike_26 ?_
    refine r_bipush dX9_alike_27 (by decide) ?_
    refine r_callV (g := mX9_refuse) ckX9 rfl rfl rfl rfl mkX9_refuse mvX9_refuse ml_X9_58 ⟨by decide, by decide⟩ rfl (Nat.le_of_ble_eq_true rfl) rfl (ok_i ⟨by decide, by decide⟩ ok_n) dX9_alike_29 (sl_afterI (sl_RI.mono (fun y3 M2 gy3 hM2 H => ?_) H))
    refine r_iret rfl gy3 dX9_alike_32 ?_
    exact H
  · have H := H.2 h1
    refine r_iload_n (k := 3) rfl rfl dX9_alike_4 ?_
    refine r_iconst dX9_alike_5 ?_
    refine r_icmp_gt (tgt := 26) g3 ⟨by decide, by decide⟩ dX9_alike_6 (by decide) (fun h4 => ?_) (fun h4 => ?_)
    · have H := H.1 h4
      refine r_aload_n (k := 0) rfl rfl dX9_alike_26 ?_
      refine r_bipush dX9_alike_27 (by decide) ?_
      refine r_callV (g := mX9_refuse) ckX9 rfl rfl rfl rfl mkX9_refuse mvX9_refuse ml_X9_58 ⟨by decide, by decide⟩ rfl (Nat.le_of_ble_eq_true rfl) rfl (ok_i ⟨by decide, by decide⟩ ok_n) dX9_alike_29 (sl_afterI (sl_RI.mono (fun y6 M5 gy6 hM5 H => ?_) H))
      refine r_iret rfl gy6 dX9_alike_32 ?_
      exact H
    · have H := H.2 h4
      refine r_iload (k := 4) rfl dX9_alike_9 ?_
      refine r_if_lt (tgt := 26) g4 dX9_alike_11 (by decide) (fun h7 => ?_) (fun h7 => ?_)
      · have H := H.1 h7
        refine r_aload_n (k := 0) rfl rfl dX9_alike_26 ?_
        refine r_bipush dX9_alike_27 (by decide) ?_
        refine r_callV (g := mX9_refuse) ckX9 rfl rfl rfl rfl mkX9_refuse mvX9_refuse ml_X9_58 ⟨by decide, by decide⟩ rfl (Nat.le_of_ble_eq_true rfl) rfl (ok_i ⟨by decide, by decide⟩ ok_n) dX9_alike_29 (sl_afterI (sl_RI.mono (fun y9 M8 gy9 hM8 H => ?_) H))
        refine r_iret rfl gy9 dX9_alike_32 ?_
        exact H
      · have H := H.2 h7
        refine r_iload_n (k := 3) rfl rfl dX9_alike_14 ?_
        refine r_iconst dX9_alike_15 ?_
        refine r_icmp_ne (tgt := 33) g3 ⟨by decide, by decide⟩ dX9_alike_16 (by decide) (fun h10 => ?_) (fun h10 => ?_)
        · have H := H.1 h10
          exact H
        · have H := H.2 h10
          refine r_iload (k := 4) rfl dX9_alike_19 ?_
          refine r_bipush dX9_alike_21 (by decide) ?_
          refine r_icmp_lt (tgt := 33) g4 ⟨by decide, by decide⟩ dX9_alike_23 (by decide) (fun h11 => ?_) (fun h11 => ?_)
          · have H := H.1 h11
            exact H
          · have H := H.2 h11
            refine r_aload_n (k := 0) rfl rfl dX9_alike_26 ?_
            refine r_bipush dX9_alike_27 (by decide) ?_
            refine r_callV (g := mX9_refuse) ckX9 rfl rfl rfl rfl mkX9_refuse mvX9_refuse ml_X9_58 ⟨by decide, by decide⟩ rfl (Nat.le_of_ble_eq_true rfl) rfl (ok_i ⟨by decide, by decide⟩ ok_n) dX9_alike_29 (sl_afterI (sl_RI.mono (fun y13 M12 gy13 hM12 H => ?_) H))
            refine r_iret rfl gy13 dX9_alike_32 ?_
            exact H
set_option maxHeartbeats 4000000 in
set_option maxRecDepth 10000 in
theorem vX9_alike_33 {l : Launch} {M : sl_M} {Q : sl_R} {x1 x2 x3 x4 : Int} (H : sl_RM M → sl_rg x1 → sl_rg x2 → sl_rg x3 → sl_rg x4 → sl_RI l mX9_choose [vR 0 0, vI x1, vI x2] M (fun y2 M1 => ((y2 ≠ 0) → sl_RV l mX8_find [vR 8 0, vR 7 0, vR 6 0] M1 (fun M4 => ((x3 = 0) → Q (some (vI (M4 8 0 5))) M4) ∧ ((x3 = 1) → (((¬ (M4 8 0 5 ≤ x4)) → (0 ≤ x4 ∧ x4 < 40))) ∧ Q (some (vI (if M4 8 0 5 ≤ x4 then (-1) else M4 8 4 x4))) M4) ∧ ((¬ (x3 = 0) ∧ ¬ (x3 = 1)) → sl_RI l mX8_replacement [vR 8 0, vI x4] M4 (fun y10 M9 => Q (some (vI y10)) M9)))) ∧ ((¬ (y2 ≠ 0)) → sl_RI l mX9_refuse [vR 0 0, vI (-3)] M1 (fun y12 M11 => Q (some (vI y12)) M11)))) : sl_At l mX9_alike 33 [(0, vR 0 0), (1, vI x1), (2, vI x2), (3, vI x3), (4, vI x4)] [] M Q := by
  refine sl_At.in (fun hM hls => ?_)
  have g1 : sl_rg x1 := hls _ (List.mem_of_getElem? (i := 1) rfl)
  have g2 : sl_rg x2 := hls _ (List.mem_of_getElem? (i := 2) rfl)
  have g3 : sl_rg x3 := hls _ (List.mem_of_getElem? (i := 3) rfl)
  have g4 : sl_rg x4 := hls _ (List.mem_of_getElem? (i := 4) rfl)
  have H := H hM g1 g2 g3 g4
  refine r_aload_n (k := 0) rfl rfl dX9_alike_33 ?_
  refine r_iload_n (k := 1) rfl rfl dX9_alike_34 ?_
  refine r_iload_n (k := 2) rfl rfl dX9_alike_35 ?_
  refine r_callV (g := mX9_choose) ckX9 rfl rfl rfl rfl mkX9_choose mvX9_choose ml_X9_131 ⟨by decide, by decide⟩ rfl (Nat.le_of_ble_eq_true rfl) rfl (ok_i g1 (ok_i g2 ok_n)) dX9_alike_36 (sl_afterI (sl_RI.mono (fun y2 M1 gy2 hM1 H => ?_) H))
  refine r_if_ne (tgt := 49) gy2 dX9_alike_39 (by decide) (fun h3 => ?_) (fun h3 => ?_)
  · have H := H.1 h3
    refine r_aload_n (k := 0) rfl rfl dX9_alike_49 ?_
    refine r_getR (k := 10) (o' := 8) (i' := 0) ckX9 rfl rfl (by decide) rfl rfl rfl fl_X9_53 dX9_alike_50 ?_
    refine r_aload_n (k := 0) rfl rfl dX9_alike_53 ?_
    refine r_getR (k := 9) (o' := 7) (i' := 0) ckX9 rfl rfl (by decide) rfl rfl rfl fl_X9_46 dX9_alike_54 ?_
    refine r_aload_n (k := 0) rfl rfl dX9_alike_57 ?_
    refine r_getR (k := 8) (o' := 6) (i' := 0) ckX9 rfl rfl (by decide) rfl rfl rfl fl_X9_39 dX9_alike_58 ?_
    refine r_callV (g := mX8_find) ckX8 rfl rfl rfl rfl mkX8_find mvX8_find ml_X9_167 ⟨by decide, by decide⟩ rfl (Nat.le_of_ble_eq_true rfl) rfl (ok_r (ok_r ok_n)) dX9_alike_61 (sl_afterV (sl_RV.mono (fun M4 hM4 H => ?_) H))
    refine r_iload_n (k := 3) rfl rfl dX9_alike_64 ?_
    by_cases h5 : x3 = 0
    · refine r_ls (tgt := 92) (off := 27) g3 dX9_alike_65 (by decide) (by rw [h5]; decide +kernel) (by decide) ?_
      have H := H.1 h5
      refine r_aload_n (k := 0) rfl rfl dX9_alike_92 ?_
      refine r_getR (k := 10) (o' := 8) (i' := 0) ckX9 rfl rfl (by decide) rfl rfl rfl fl_X9_53 dX9_alike_93 ?_
      refine r_gI (k := 5) (kz := 5) rfl ckX8 rfl rfl (by decide) rfl rfl fl_X9_171 dX9_alike_96 ?_
      refine r_iret rfl (hM4 _ _ _) dX9_alike_99 ?_
      exact H
    replace H := H.2
    by_cases h6 : x3 = 1
    · refine r_ls (tgt := 100) (off := 35) g3 dX9_alike_65 (by decide) (by rw [h6]; decide +kernel) (by decide) ?_
      have H := H.1 h6
      refine r_iload (k := 4) rfl dX9_alike_100 ?_
      refine r_aload_n (k := 0) rfl rfl dX9_alike_102 ?_
      refine r_getR (k := 10) (o' := 8) (i' := 0) ckX9 rfl rfl (by decide) rfl rfl rfl fl_X9_53 dX9_alike_103 ?_
      refine r_gI (k := 5) (kz := 5) rfl ckX8 rfl rfl (by decide) rfl rfl fl_X9_171 dX9_alike_106 ?_
      obtain ⟨K, H⟩ := H
      have J : sl_At l mX9_alike 126 [(0, vR 0 0), (1, vI x1), (2, vI x2), (3, vI x3), (4, vI x4)] [vI (if M4 8 0 5 ≤ x4 then (-1) else M4 8 4 x4)] M4 Q := by
        refine r_iret rfl (sl_rgite ⟨by decide, by decide⟩ (hM4 _ _ _)) dX9_alike_126 ?_
        exact H
      refine r_icmp_ge (tgt := 125) g4 (hM4 _ _ _) dX9_alike_109 (by decide) (fun h8 => ?_) (fun h8 => ?_)
      · refine r_iconst dX9_alike_125 ?_
        rw [if_pos h8] at J
        exact J
      · replace K := K h8
        have c7 := K
        refine r_aload_n (k := 0) rfl rfl dX9_alike_112 ?_
        refine r_getR (k := 10) (o' := 8) (i' := 0) ckX9 rfl rfl (by decide) rfl rfl rfl fl_X9_53 dX9_alike_113 ?_
        refine r_getR (k := 3) (o' := 8) (i' := 4) ckX8 rfl rfl (by decide) rfl rfl rfl fl_X9_174 dX9_alike_116 ?_
        refine r_iload (k := 4) rfl dX9_alike_119 ?_
        refine r_iald rfl rfl rfl c7 dX9_alike_121 ?_
        refine r_goto (tgt := 126) dX9_alike_122 (by decide) ?_
        rw [if_neg h8] at J
        exact J
    replace H := H.2
    refine r_ls (tgt := 127) (off := 62) g3 dX9_alike_65 (by decide) ?_ (by decide) ?_
    · show Op.lookupswitch.offset [(0, 27), (1, 35)] _ _ = _
      rw [sl_osw h5, sl_osw h6]; rfl
    · have H := H ⟨h5, h6⟩
      refine r_aload_n (k := 0) rfl rfl dX9_alike_127 ?_
      refine r_getR (k := 10) (o' := 8) (i' := 0) ckX9 rfl rfl (by decide) rfl rfl rfl fl_X9_53 dX9_alike_128 ?_
      refine r_iload (k := 4) rfl dX9_alike_131 ?_
      refine r_callV (g := mX8_replacement) ckX8 rfl rfl rfl rfl mkX8_replacement mvX8_replacement ml_X9_177 ⟨by decide, by decide⟩ rfl (Nat.le_of_ble_eq_true rfl) rfl (ok_i g4 ok_n) dX9_alike_133 (sl_afterI (sl_RI.mono (fun y10 M9 gy10 hM9 H => ?_) H))
      refine r_iret rfl gy10 dX9_alike_136 ?_
      exact H
  · have H := H.2 h3
    refine r_aload_n (k := 0) rfl rfl dX9_alike_42 ?_
    refine r_bipush dX9_alike_43 (by decide) ?_
    refine r_callV (g := mX9_refuse) ckX9 rfl rfl rfl rfl mkX9_refuse mvX9_refuse ml_X9_58 ⟨by decide, by decide⟩ rfl (Nat.le_of_ble_eq_true rfl) rfl (ok_i ⟨by decide, by decide⟩ ok_n) dX9_alike_45 (sl_afterI (sl_RI.mono (fun y12 M11 gy12 hM11 H => ?_) H))
    refine r_iret rfl gy12 dX9_alike_48 ?_
    exact H
theorem eX9_alike {l : Launch} {M : sl_M} {Q : sl_R} {x1 x2 x3 x4 : Int} (k : sl_At l mX9_alike 0 [(0, vR 0 0), (1, vI x1), (2, vI x2), (3, vI x3), (4, vI x4)] [] M Q) : sl_Runs l mX9_alike [vR 0 0, vI x1, vI x2, vI x3, vI x4] M Q := sl_Runs.of (ls := [(0, vR 0 0), (1, vI x1), (2, vI x2), (3, vI x3), (4, vI x4)]) rfl rfl (fun _ => rfl) (fun _ => Nat.le_of_ble_eq_true rfl) rfl (k)
theorem dX9_lifts_0 : decode cX9_lifts 0 = .ok (.iload_n 3, 1) := by decide +kernel
theorem dX9_lifts_1 : decode cX9_lifts 1 = .ok (.ifCond .lt 8, 3) := by decide +kernel
theorem dX9_lifts_4 : decode cX9_lifts 4 = .ok (.iload_n 3, 1) := by decide +kernel
theorem dX9_lifts_5 : decode cX9_lifts 5 = .ok (.iconst 1, 1) := by decide +kernel
theorem dX9_lifts_6 : decode cX9_lifts 6 = .ok (.if_icmp .le 10, 3) := by decide +kernel
theorem dX9_lifts_9 : decode cX9_lifts 9 = .ok (.aload_n 0, 1) := by decide +kernel
theorem dX9_lifts_10 : decode cX9_lifts 10 = .ok (.bipush (-2), 2) := by decide +kernel
theorem dX9_lifts_12 : decode cX9_lifts 12 = .ok (.invokevirtual 58, 3) := by decide +kernel
theorem dX9_lifts_15 : decode cX9_lifts 15 = .ok (.ireturn, 1) := by decide +kernel
theorem dX9_lifts_16 : decode cX9_lifts 16 = .ok (.aload_n 0, 1) := by decide +kernel
theorem dX9_lifts_17 : decode cX9_lifts 17 = .ok (.iload_n 1, 1) := by decide +kernel
theorem dX9_lifts_18 : decode cX9_lifts 18 = .ok (.iload_n 2, 1) := by decide +kernel
theorem dX9_lifts_19 : decode cX9_lifts 19 = .ok (.invokevirtual 131, 3) := by decide +kernel
theorem dX9_lifts_22 : decode cX9_lifts 22 = .ok (.ifCond .eq 13, 3) := by decide +kernel
theorem dX9_lifts_25 : decode cX9_lifts 25 = .ok (.aload_n 0, 1) := by decide +kernel
theorem dX9_lifts_26 : decode cX9_lifts 26 = .ok (.getfield 46, 3) := by decide +kernel
theorem dX9_lifts_29 : decode cX9_lifts 29 = .ok (.getfield 144, 3) := by decide +kernel
theorem dX9_lifts_32 : decode cX9_lifts 32 = .ok (.ifCond .eq 10, 3) := by decide +kernel
theorem dX9_lifts_35 : decode cX9_lifts 35 = .ok (.aload_n 0, 1) := by decide +kernel
theorem dX9_lifts_36 : decode cX9_lifts 36 = .ok (.bipush (-3), 2) := by decide +kernel
theorem dX9_lifts_38 : decode cX9_lifts 38 = .ok (.invokevirtual 58, 3) := by decide +kernel
theorem dX9_lifts_41 : decode cX9_lifts 41 = .ok (.ireturn, 1) := by decide +kernel
theorem dX9_lifts_42 : decode cX9_lifts 42 = .ok (.aload_n 0, 1) := by decide +kernel
theorem dX9_lifts_43 : decode cX9_lifts 43 = .ok (.invokevirtual 92, 3) := by decide +kernel
theorem dX9_lifts_46 : decode cX9_lifts 46 = .ok (.getfield 70, 3) := by decide +kernel
theorem dX9_lifts_49 : decode cX9_lifts 49 = .ok (.iconst 3, 1) := by decide +kernel
theorem dX9_lifts_50 : decode cX9_lifts 50 = .ok (.if_icmp .lt 10, 3) := by decide +kernel
theorem dX9_lifts_53 : decode cX9_lifts 53 = .ok (.aload_n 0, 1) := by decide +kernel
theorem dX9_lifts_54 : decode cX9_lifts 54 = .ok (.bipush (-4), 2) := by decide +kernel
theorem dX9_lifts_56 : decode cX9_lifts 56 = .ok (.invokevirtual 58, 3) := by decide +kernel
theorem dX9_lifts_59 : decode cX9_lifts 59 = .ok (.ireturn, 1) := by decide +kernel
theorem dX9_lifts_60 : decode cX9_lifts 60 = .ok (.iload_n 3, 1) := by decide +kernel
theorem dX9_lifts_61 : decode cX9_lifts 61 = .ok (.iconst 1, 1) := by decide +kernel
theorem dX9_lifts_62 : decode cX9_lifts 62 = .ok (.if_icmp .ne 21, 3) := by decide +kernel
theorem dX9_lifts_65 : decode cX9_lifts 65 = .ok (.aload_n 0, 1) := by decide +kernel
theorem dX9_lifts_66 : decode cX9_lifts 66 = .ok (.getfield 53, 3) := by decide +kernel
theorem dX9_lifts_69 : decode cX9_lifts 69 = .ok (.aload_n 0, 1) := by decide +kernel
theorem dX9_lifts_70 : decode cX9_lifts 70 = .ok (.getfield 46, 3) := by decide +kernel
theorem dX9_lifts_73 : decode cX9_lifts 73 = .ok (.aload_n 0, 1) := by decide +kernel
theorem dX9_lifts_74 : decode cX9_lifts 74 = .ok (.getfield 39, 3) := by decide +kernel
theorem dX9_lifts_77 : decode cX9_lifts 77 = .ok (.invokevirtual 167, 3) := by decide +kernel
theorem dX9_lifts_80 : decode cX9_lifts 80 = .ok (.goto 10, 3) := by decide +kernel
theorem dX9_lifts_83 : decode cX9_lifts 83 = .ok (.aload_n 0, 1) := by decide +kernel
theorem dX9_lifts_84 : decode cX9_lifts 84 = .ok (.getfield 53, 3) := by decide +kernel
theorem dX9_lifts_87 : decode cX9_lifts 87 = .ok (.invokevirtual 180, 3) := by decide +kernel
theorem dX9_lifts_90 : decode cX9_lifts 90 = .ok (.aload_n 0, 1) := by decide +kernel
theorem dX9_lifts_91 : decode cX9_lifts 91 = .ok (.invokevirtual 66, 3) := by decide +kernel
theorem dX9_lifts_94 : decode cX9_lifts 94 = .ok (.aload_n 0, 1) := by decide +kernel
theorem dX9_lifts_95 : decode cX9_lifts 95 = .ok (.invokevirtual 92, 3) := by decide +kernel
theorem dX9_lifts_98 : decode cX9_lifts 98 = .ok (.aload_n 0, 1) := by decide +kernel
theorem dX9_lifts_99 : decode cX9_lifts 99 = .ok (.getfield 46, 3) := by decide +kernel
theorem dX9_lifts_102 : decode cX9_lifts 102 = .ok (.aload_n 0, 1) := by decide +kernel
theorem dX9_lifts_103 : decode cX9_lifts 103 = .ok (.getfield 53, 3) := by decide +kernel
theorem dX9_lifts_106 : decode cX9_lifts 106 = .ok (.invokevirtual 183, 3) := by decide +kernel
theorem dX9_lifts_109 : decode cX9_lifts 109 = .ok (.aload_n 0, 1) := by decide +kernel
theorem dX9_lifts_110 : decode cX9_lifts 110 = .ok (.invokevirtual 84, 3) := by decide +kernel
theorem dX9_lifts_113 : decode cX9_lifts 113 = .ok (.iconst 1, 1) := by decide +kernel
theorem dX9_lifts_114 : decode cX9_lifts 114 = .ok (.aload_n 0, 1) := by decide +kernel
theorem dX9_lifts_115 : decode cX9_lifts 115 = .ok (.getfield 53, 3) := by decide +kernel
theorem dX9_lifts_118 : decode cX9_lifts 118 = .ok (.getfield 171, 3) := by decide +kernel
theorem dX9_lifts_121 : decode cX9_lifts 121 = .ok (.iadd, 1) := by decide +kernel
theorem dX9_lifts_122 : decode cX9_lifts 122 = .ok (.ireturn, 1) := by decide +kernel
set_option maxHeartbeats 4000000 in
set_option maxRecDepth 10000 in
theorem vX9_lifts_0 {l : Launch} {M : sl_M} {Q : sl_R} {x1 x2 x3 : Int} (H : sl_RM M → sl_rg x1 → sl_rg x2 → sl_rg x3 → ((x3 < 0) → sl_RI l mX9_refuse [vR 0 0, vI (-2)] M (fun y3 M2 => Q (some (vI y3)) M2)) ∧ ((¬ (x3 < 0)) → ((x3 ≤ 1) → sl_RI l mX9_choose [vR 0 0, vI x1, vI x2] M (fun y6 M5 => ((y6 = 0) → sl_RI l mX9_refuse [vR 0 0, vI (-3)] M5 (fun y9 M8 => Q (some (vI y9)) M8)) ∧ ((¬ (y6 = 0)) → ((M5 7 0 6 = 0) → sl_RR l mX9_present [vR 0 0] M5 (fun p12 M11 => (sl_cls p12 = 7) ∧ ((M11 p12 0 2 < 3) → ((x3 ≠ 1) → sl_RV l mX8_forget [vR 8 0] M11 (fun M15 => sl_At l mX9_lifts 90 [(0, vR 0 0)] [] M15 Q)) ∧ ((¬ (x3 ≠ 1)) → sl_RV l mX8_find [vR 8 0, vR 7 0, vR 6 0] M11 (fun M16 => sl_At l mX9_lifts 90 [(0, vR 0 0)] [] M16 Q))) ∧ ((¬ (M11 p12 0 2 < 3)) → sl_RI l mX9_refuse [vR 0 0, vI (-4)] M11 (fun y18 M17 => Q (some (vI y18)) M17)))) ∧ ((¬ (M5 7 0 6 = 0)) → sl_RI l mX9_refuse [vR 0 0, vI (-3)] M5 (fun y20 M19 => Q (some (vI y20)) M19))))) ∧ ((¬ (x3 ≤ 1)) → sl_RI l mX9_refuse [vR 0 0, vI (-2)] M (fun y22 M21 => Q (some (vI y22)) M21)))) : sl_At l mX9_lifts 0 [(0, vR 0 0), (1, vI x1), (2, vI x2), (3, vI x3)] [] M Q := by
  refine sl_At.in (fun hM hls => ?_)
  have g1 : sl_rg x1 := hls _ (List.mem_of_getElem? (i := 1) rfl)
  have g2 : sl_rg x2 := hls _ (List.mem_of_getElem? (i := 2) rfl)
  have g3 : sl_rg x3 := hls _ (List.mem_of_getElem? (i := 3) rfl)
  have H := H hM g1 g2 g3
  refine r_iload_n (k := 3) rfl rfl dX9_lifts_0 ?_
  refine r_if_lt (tgt := 9) g3 dX9_lifts_1 (by decide) (fun h1 => ?_) (fun h1 => ?_)
  · have H := H.1 h1
    refine r_aload_n (k := 0) rfl rfl dX9_lifts_9 ?_
    refine r_bipush dX9_lifts_10 (by decide) ?_
    refine r_callV (g := mX9_refuse) ckX9 rfl rfl rfl rfl mkX9_refuse mvX9_refuse ml_X9_58 ⟨by decide, by decide⟩ rfl (Nat.le_of_ble_eq_true rfl) rfl (ok_i ⟨by decide, by decide⟩ ok_n) dX9_lifts_12 (sl_afterI (sl_RI.mono (fun y3 M2 gy3 hM2 H => ?_) H))
    refine r_iret rfl gy3 dX9_lifts_15 ?_
    exact H
  · have H := H.2 h1
    refine r_iload_n (k := 3) rfl rfl dX9_lifts_4 ?_
    refine r_iconst dX9_lifts_5 ?_
    refine r_icmp_le (tgt := 16) g3 ⟨by decide, by decide⟩ dX9_lifts_6 (by decide) (fun h4 => ?_) (fun h4 => ?_)
    · have H := H.1 h4
      refine r_aload_n (k := 0) rfl rfl dX9_lifts_16 ?_
      refine r_iload_n (k := 1) rfl rfl dX9_lifts_17 ?_
      refine r_iload_n (k := 2) rfl rfl dX9_lifts_18 ?_
      refine r_callV (g := mX9_choose) ckX9 rfl rfl rfl rfl mkX9_choose mvX9_choose ml_X9_131 ⟨by decide, by decide⟩ rfl (Nat.le_of_ble_eq_true rfl) rfl (ok_i g1 (ok_i g2 ok_n)) dX9_lifts_19 (sl_afterI (sl_RI.mono (fun y6 M5 gy6 hM5 H => ?_) H))
      refine r_if_eq (tgt := 35) gy6 dX9_lifts_22 (by decide) (fun h7 => ?_) (fun h7 => ?_)
      · have H := H.1 h7
        refine r_aload_n (k := 0) rfl rfl dX9_lifts_35 ?_
        refine r_bipush dX9_lifts_36 (by decide) ?_
        refine r_callV (g := mX9_refuse) ckX9 rfl rfl rfl rfl mkX9_refuse mvX9_refuse ml_X9_58 ⟨by decide, by decide⟩ rfl (Nat.le_of_ble_eq_true rfl) rfl (ok_i ⟨by decide, by decide⟩ ok_n) dX9_lifts_38 (sl_afterI (sl_RI.mono (fun y9 M8 gy9 hM8 H => ?_) H))
        refine r_iret rfl gy9 dX9_lifts_41 ?_
        exact H
      · have H := H.2 h7
        refine r_aload_n (k := 0) rfl rfl dX9_lifts_25 ?_
        refine r_getR (k := 9) (o' := 7) (i' := 0) ckX9 rfl rfl (by decide) rfl rfl rfl fl_X9_46 dX9_lifts_26 ?_
        refine r_gI (k := 6) (kz := 6) rfl ckX6 rfl rfl (by decide) rfl rfl fl_X9_144 dX9_lifts_29 ?_
        refine r_if_eq (tgt := 42) (hM5 _ _ _) dX9_lifts_32 (by decide) (fun h10 => ?_) (fun h10 => ?_)
        · have H := H.1 h10
          refine r_aload_n (k := 0) rfl rfl dX9_lifts_42 ?_
          refine r_callV (g := mX9_present) ckX9 rfl rfl rfl rfl mkX9_present mvX9_present ml_X9_92 ⟨by decide, by decide⟩ rfl (Nat.le_of_ble_eq_true rfl) rfl ok_n dX9_lifts_43 (sl_afterR (sl_RR.mono (fun p12 M11 hM11 H => ?_) H))
          obtain ⟨zp12, H⟩ := H
          refine r_gI (k := 2) (kz := 2) rfl ckX7 zp12 rfl (by decide) rfl rfl fl_X9_70 dX9_lifts_46 ?_
          refine r_iconst dX9_lifts_49 ?_
          refine r_icmp_lt (tgt := 60) (hM11 _ _ _) ⟨by decide, by decide⟩ dX9_lifts_50 (by decide) (fun h13 => ?_) (fun h13 => ?_)
          · have H := H.1 h13
            refine r_iload_n (k := 3) rfl rfl dX9_lifts_60 ?_
            refine r_iconst dX9_lifts_61 ?_
            refine r_icmp_ne (tgt := 83) g3 ⟨by decide, by decide⟩ dX9_lifts_62 (by decide) (fun h14 => ?_) (fun h14 => ?_)
            · have H := H.1 h14
              refine r_aload_n (k := 0) rfl rfl dX9_lifts_83 ?_
              refine r_getR (k := 10) (o' := 8) (i' := 0) ckX9 rfl rfl (by decide) rfl rfl rfl fl_X9_53 dX9_lifts_84 ?_
              refine r_callV (g := mX8_forget) ckX8 rfl rfl rfl rfl mkX8_forget mvX8_forget ml_X9_180 ⟨by decide, by decide⟩ rfl (Nat.le_of_ble_eq_true rfl) rfl ok_n dX9_lifts_87 (sl_afterV (sl_RV.mono (fun M15 hM15 H => ?_) H))
              exact sl_At.sub [0] rfl H
            · have H := H.2 h14
              refine r_aload_n (k := 0) rfl rfl dX9_lifts_65 ?_
              refine r_getR (k := 10) (o' := 8) (i' := 0) ckX9 rfl rfl (by decide) rfl rfl rfl fl_X9_53 dX9_lifts_66 ?_
              refine r_aload_n (k := 0) rfl rfl dX9_lifts_69 ?_
              refine r_getR (k := 9) (o' := 7) (i' := 0) ckX9 rfl rfl (by decide) rfl rfl rfl fl_X9_46 dX9_lifts_70 ?_
              refine r_aload_n (k := 0) rfl rfl dX9_lifts_73 ?_
              refine r_getR (k := 8) (o' := 6) (i' := 0) ckX9 rfl rfl (by decide) rfl rfl rfl fl_X9_39 dX9_lifts_74 ?_
              refine r_callV (g := mX8_find) ckX8 rfl rfl rfl rfl mkX8_find mvX8_find ml_X9_167 ⟨by decide, by decide⟩ rfl (Nat.le_of_ble_eq_true rfl) rfl (ok_r (ok_r ok_n)) dX9_lifts_77 (sl_afterV (sl_RV.mono (fun M16 hM16 H => ?_) H))
              refine r_goto (tgt := 90) dX9_lifts_80 (by decide) ?_
              exact sl_At.sub [0] rfl H
          · have H := H.2 h13
            refine r_aload_n (k := 0) rfl rfl dX9_lifts_53 ?_
            refine r_bipush dX9_lifts_54 (by decide) ?_
            refine r_callV (g := mX9_refuse) ckX9 rfl rfl rfl rfl mkX9_refuse mvX9_refuse ml_X9_58 ⟨by decide, by decide⟩ rfl (Nat.le_of_ble_eq_true rfl) rfl (ok_i ⟨by decide, by decide⟩ ok_n) dX9_lifts_56 (sl_afterI (sl_RI.mono (fun y18 M17 gy18 hM17 H => ?_) H))
            refine r_iret rfl gy18 dX9_lifts_59 ?_
            exact H
        · have H := H.2 h10
          refine r_aload_n (k := 0) rfl rfl dX9_lifts_35 ?_
          refine r_bipush dX9_lifts_36 (by decide) ?_
          refine r_callV (g := mX9_refuse) ckX9 rfl rfl rfl rfl mkX9_refuse mvX9_refuse ml_X9_58 ⟨by decide, by decide⟩ rfl (Nat.le_of_ble_eq_true rfl) rfl (ok_i ⟨by decide, by decide⟩ ok_n) dX9_lifts_38 (sl_afterI (sl_RI.mono (fun y20 M19 gy20 hM19 H => ?_) H))
          refine r_iret rfl gy20 dX9_lifts_41 ?_
          exact H
    · have H := H.2 h4
      refine r_aload_n (k := 0) rfl rfl dX9_lifts_9 ?_
      refine r_bipush dX9_lifts_10 (by decide) ?_
      refine r_callV (g := mX9_refuse) ckX9 rfl rfl rfl rfl mkX9_refuse mvX9_refuse ml_X9_58 ⟨by decide, by decide⟩ rfl (Nat.le_of_ble_eq_true rfl) rfl (ok_i ⟨by decide, by decide⟩ ok_n) dX9_lifts_12 (sl_afterI (sl_RI.mono (fun y22 M21 gy22 hM21 H => ?_) H))
      refine r_iret rfl gy22 dX9_lifts_15 ?_
      exact H
set_option maxHeartbeats 4000000 in
set_option maxRecDepth 10000 in
theorem vX9_lifts_90 {l : Launch} {M : sl_M} {Q : sl_R} (H : sl_RM M → sl_RR l mX9_spare [vR 0 0] M (fun p2 M1 => (sl_cls p2 = 7) ∧ sl_RR l mX9_present [vR 0 0] M1 (fun p4 M3 => (sl_cls p4 = 7) ∧ sl_RV l mX7_buildLifted [vR p2 0, vR p4 0, vR 7 0, vR 8 0] M3 (fun M5 => sl_RV l mX9_advance [vR 0 0] M5 (fun M6 => (sl_rg (1 + (M6 8 0 5))) ∧ Q (some (vI (1 + (M6 8 0 5)))) M6))))) : sl_At l mX9_lifts 90 [(0, vR 0 0)] [] M Q := by
  refine sl_At.in (fun hM hls => ?_)
  have H := H hM
  refine r_aload_n (k := 0) rfl rfl dX9_lifts_90 ?_
  refine r_callV (g := mX9_spare) ckX9 rfl rfl rfl rfl mkX9_spare mvX9_spare ml_X9_66 ⟨by decide, by decide⟩ rfl (Nat.le_of_ble_eq_true rfl) rfl ok_n dX9_lifts_91 (sl_afterR (sl_RR.mono (fun p2 M1 hM1 H => ?_) H))
  obtain ⟨zp2, H⟩ := H
  refine r_aload_n (k := 0) rfl rfl dX9_lifts_94 ?_
  refine r_callV (g := mX9_present) ckX9 rfl rfl rfl rfl mkX9_present mvX9_present ml_X9_92 ⟨by decide, by decide⟩ rfl (Nat.le_of_ble_eq_true rfl) rfl ok_n dX9_lifts_95 (sl_afterR (sl_RR.mono (fun p4 M3 hM3 H => ?_) H))
  obtain ⟨zp4, H⟩ := H
  refine r_aload_n (k := 0) rfl rfl dX9_lifts_98 ?_
  refine r_getR (k := 9) (o' := 7) (i' := 0) ckX9 rfl rfl (by decide) rfl rfl rfl fl_X9_46 dX9_lifts_99 ?_
  refine r_aload_n (k := 0) rfl rfl dX9_lifts_102 ?_
  refine r_getR (k := 10) (o' := 8) (i' := 0) ckX9 rfl rfl (by decide) rfl rfl rfl fl_X9_53 dX9_lifts_103 ?_
  refine r_callV (g := mX7_buildLifted) ckX7 zp2 rfl rfl rfl mkX7_buildLifted mvX7_buildLifted ml_X9_183 ⟨by decide, by decide⟩ rfl (Nat.le_of_ble_eq_true rfl) rfl (ok_r (ok_r (ok_r ok_n))) dX9_lifts_106 (sl_afterV (sl_RV.mono (fun M5 hM5 H => ?_) H))
  refine r_aload_n (k := 0) rfl rfl dX9_lifts_109 ?_
  refine r_callV (g := mX9_advance) ckX9 rfl rfl rfl rfl mkX9_advance mvX9_advance ml_X9_84 ⟨by decide, by decide⟩ rfl (Nat.le_of_ble_eq_true rfl) rfl ok_n dX9_lifts_110 (sl_afterV (sl_RV.mono (fun M6 hM6 H => ?_) H))
  refine r_iconst dX9_lifts_113 ?_
  refine r_aload_n (k := 0) rfl rfl dX9_lifts_114 ?_
  refine r_getR (k := 10) (o' := 8) (i' := 0) ckX9 rfl rfl (by decide) rfl rfl rfl fl_X9_53 dX9_lifts_115 ?_
  refine r_gI (k := 5) (kz := 5) rfl ckX8 rfl rfl (by decide) rfl rfl fl_X9_171 dX9_lifts_118 ?_
  refine r_iadd dX9_lifts_121 ?_
  obtain ⟨c7, H⟩ := H
  refine r_iret rfl c7 dX9_lifts_122 ?_
  exact H
theorem eX9_lifts {l : Launch} {M : sl_M} {Q : sl_R} {x1 x2 x3 : Int} (k : sl_At l mX9_lifts 0 [(0, vR 0 0), (1, vI x1), (2, vI x2), (3, vI x3)] [] M Q) : sl_Runs l mX9_lifts [vR 0 0, vI x1, vI x2, vI x3] M Q := sl_Runs.of (ls := [(0, vR 0 0), (1, vI x1), (2, vI x2), (3, vI x3)]) rfl rfl (fun _ => rfl) (fun _ => Nat.le_of_ble_eq_true rfl) rfl (k)
theorem dX9_method_0 : decode cX9_method 0 = .ok (.aload_n 0, 1) := by decide +kernel
theorem dX9_method_1 : decode cX9_method 1 = .ok (.invokevirtual 92, 3) := by decide +kernel
theorem dX9_method_4 : decode cX9_method 4 = .ok (.iload_n 1, 1) := by decide +kernel
theorem dX9_method_5 : decode cX9_method 5 = .ok (.invokevirtual 187, 3) := by decide +kernel
theorem dX9_method_8 : decode cX9_method 8 = .ok (.ifCond .eq 12, 3) := by decide +kernel
theorem dX9_method_11 : decode cX9_method 11 = .ok (.iload_n 2, 1) := by decide +kernel
theorem dX9_method_12 : decode cX9_method 12 = .ok (.ifCond .lt 8, 3) := by decide +kernel
theorem dX9_method_15 : decode cX9_method 15 = .ok (.iload_n 2, 1) := by decide +kernel
theorem dX9_method_16 : decode cX9_method 16 = .ok (.iconst 5, 1) := by decide +kernel
theorem dX9_method_17 : decode cX9_method 17 = .ok (.if_icmp .le 10, 3) := by decide +kernel
theorem dX9_method_20 : decode cX9_method 20 = .ok (.aload_n 0, 1) := by decide +kernel
theorem dX9_method_21 : decode cX9_method 21 = .ok (.bipush (-2), 2) := by decide +kernel
theorem dX9_method_23 : decode cX9_method 23 = .ok (.invokevirtual 58, 3) := by decide +kernel
theorem dX9_method_26 : decode cX9_method 26 = .ok (.ireturn, 1) := by decide +kernel
theorem dX9_method_27 : decode cX9_method 27 = .ok (.aload_n 0, 1) := by decide +kernel
theorem dX9_method_28 : decode cX9_method 28 = .ok (.invokevirtual 92, 3) := by decide +kernel
theorem dX9_method_31 : decode cX9_method 31 = .ok (.iload_n 1, 1) := by decide +kernel
theorem dX9_method_32 : decode cX9_method 32 = .ok (.iload_n 2, 1) := by decide +kernel
theorem dX9_method_33 : decode cX9_method 33 = .ok (.invokevirtual 190, 3) := by decide +kernel
theorem dX9_method_36 : decode cX9_method 36 = .ok (.ireturn, 1) := by decide +kernel
set_option maxHeartbeats 4000000 in
set_option maxRecDepth 10000 in
theorem vX9_method_0 {l : Launch} {M : sl_M} {Q : sl_R} {x1 x2 : Int} (H : sl_RM M → sl_rg x1 → sl_rg x2 → sl_RR l mX9_present [vR 0 0] M (fun p2 M1 => (sl_cls p2 = 7) ∧ sl_RI l mX7_hasRoutine [vR p2 0, vI x1] M1 (fun y4 M3 => ((y4 = 0) → sl_RI l mX9_refuse [vR 0 0, vI (-2)] M3 (fun y7 M6 => Q (some (vI y7)) M6)) ∧ ((¬ (y4 = 0)) → ((x2 < 0) → sl_RI l mX9_refuse [vR 0 0, vI (-2)] M3 (fun y10 M9 => Q (some (vI y10)) M9)) ∧ ((¬ (x2 < 0)) → ((x2 ≤ 5) → sl_RR l mX9_present [vR 0 0] M3 (fun p13 M12 => (sl_cls p13 = 7) ∧ sl_RI l mX7_routineProperty [vR p13 0, vI x1, vI x2] M12 (fun y15 M14 => Q (some (vI y15)) M14))) ∧ ((¬ (x2 ≤ 5)) → sl_RI l mX9_refuse [vR 0 0, vI (-2)] M3 (fun y17 M16 => Q (some (vI y17)) M16))))))) : sl_At l mX9_method 0 [(0, vR 0 0), (1, vI x1), (2, vI x2)] [] M Q := by
  refine sl_At.in (fun hM hls => ?_)
  have g1 : sl_rg x1 := hls _ (List.mem_of_getElem? (i := 1) rfl)
  have g2 : sl_rg x2 := hls _ (List.mem_of_getElem? (i := 2) rfl)
  have H := H hM g1 g2
  refine r_aload_n (k := 0) rfl rfl dX9_method_0 ?_
  refine r_callV (g := mX9_present) ckX9 rfl rfl rfl rfl mkX9_present mvX9_present ml_X9_92 ⟨by decide, by decide⟩ rfl (Nat.le_of_ble_eq_true rfl) rfl ok_n dX9_method_1 (sl_afterR (sl_RR.mono (fun p2 M1 hM1 H => ?_) H))
  obtain ⟨zp2, H⟩ := H
  refine r_iload_n (k := 1) rfl rfl dX9_method_4 ?_
  refine r_callV (g := mX7_hasRoutine) ckX7 zp2 rfl rfl rfl mkX7_hasRoutine mvX7_hasRoutine ml_X9_187 ⟨by decide, by decide⟩ rfl (Nat.le_of_ble_eq_true rfl) rfl (ok_i g1 ok_n) dX9_method_5 (sl_afterI (sl_RI.mono (fun y4 M3 gy4 hM3 H => ?_) H))
  refine r_if_eq (tgt := 20) gy4 dX9_method_8 (by decide) (fun h5 => ?_) (fun h5 => ?_)
  · have H := H.1 h5
    refine r_aload_n (k := 0) rfl rfl dX9_method_20 ?_
    refine r_bipush dX9_method_21 (by decide) ?_
    refine r_callV (g := mX9_refuse) ckX9 rfl rfl rfl rfl mkX9_refuse mvX9_refuse ml_X9_58 ⟨by decide, by decide⟩ rfl (Nat.le_of_ble_eq_true rfl) rfl (ok_i ⟨by decide, by decide⟩ ok_n) dX9_method_23 (sl_afterI (sl_RI.mono (fun y7 M6 gy7 hM6 H => ?_) H))
    refine r_iret rfl gy7 dX9_method_26 ?_
    exact H
  · have H := H.2 h5
    refine r_iload_n (k := 2) rfl rfl dX9_method_11 ?_
    refine r_if_lt (tgt := 20) g2 dX9_method_12 (by decide) (fun h8 => ?_) (fun h8 => ?_)
    · have H := H.1 h8
      refine r_aload_n (k := 0) rfl rfl dX9_method_20 ?_
      refine r_bipush dX9_method_21 (by decide) ?_
      refine r_callV (g := mX9_refuse) ckX9 rfl rfl rfl rfl mkX9_refuse mvX9_refuse ml_X9_58 ⟨by decide, by decide⟩ rfl (Nat.le_of_ble_eq_true rfl) rfl (ok_i ⟨by decide, by decide⟩ ok_n) dX9_method_23 (sl_afterI (sl_RI.mono (fun y10 M9 gy10 hM9 H => ?_) H))
      refine r_iret rfl gy10 dX9_method_26 ?_
      exact H
    · have H := H.2 h8
      refine r_iload_n (k := 2) rfl rfl dX9_method_15 ?_
      refine r_iconst dX9_method_16 ?_
      refine r_icmp_le (tgt := 27) g2 ⟨by decide, by decide⟩ dX9_method_17 (by decide) (fun h11 => ?_) (fun h11 => ?_)
      · have H := H.1 h11
        refine r_aload_n (k := 0) rfl rfl dX9_method_27 ?_
        refine r_callV (g := mX9_present) ckX9 rfl rfl rfl rfl mkX9_present mvX9_present ml_X9_92 ⟨by decide, by decide⟩ rfl (Nat.le_of_ble_eq_true rfl) rfl ok_n dX9_method_28 (sl_afterR (sl_RR.mono (fun p13 M12 hM12 H => ?_) H))
        obtain ⟨zp13, H⟩ := H
        refine r_iload_n (k := 1) rfl rfl dX9_method_31 ?_
        refine r_iload_n (k := 2) rfl rfl dX9_method_32 ?_
        refine r_callV (g := mX7_routineProperty) ckX7 zp13 rfl rfl rfl mkX7_routineProperty mvX7_routineProperty ml_X9_190 ⟨by decide, by decide⟩ rfl (Nat.le_of_ble_eq_true rfl) rfl (ok_i g1 (ok_i g2 ok_n)) dX9_method_33 (sl_afterI (sl_RI.mono (fun y15 M14 gy15 hM14 H => ?_) H))
        refine r_iret rfl gy15 dX9_method_36 ?_
        exact H
      · have H := H.2 h11
        refine r_aload_n (k := 0) rfl rfl dX9_method_20 ?_
        refine r_bipush dX9_method_21 (by decide) ?_
        refine r_callV (g := mX9_refuse) ckX9 rfl rfl rfl rfl mkX9_refuse mvX9_refuse ml_X9_58 ⟨by decide, by decide⟩ rfl (Nat.le_of_ble_eq_true rfl) rfl (ok_i ⟨by decide, by decide⟩ ok_n) dX9_method_23 (sl_afterI (sl_RI.mono (fun y17 M16 gy17 hM16 H => ?_) H))
        refine r_iret rfl gy17 dX9_method_26 ?_
        exact H
theorem eX9_method {l : Launch} {M : sl_M} {Q : sl_R} {x1 x2 : Int} (k : sl_At l mX9_method 0 [(0, vR 0 0), (1, vI x1), (2, vI x2)] [] M Q) : sl_Runs l mX9_method [vR 0 0, vI x1, vI x2] M Q := sl_Runs.of (ls := [(0, vR 0 0), (1, vI x1), (2, vI x2)]) rfl rfl (fun _ => rfl) (fun _ => Nat.le_of_ble_eq_true rfl) rfl (k)
theorem dX9_formal_0 : decode cX9_formal 0 = .ok (.aload_n 0, 1) := by decide +kernel
theorem dX9_formal_1 : decode cX9_formal 1 = .ok (.invokevirtual 92, 3) := by decide +kernel
theorem dX9_formal_4 : decode cX9_formal 4 = .ok (.iload_n 1, 1) := by decide +kernel
theorem dX9_formal_5 : decode cX9_formal 5 = .ok (.invokevirtual 187, 3) := by decide +kernel
theorem dX9_formal_8 : decode cX9_formal 8 = .ok (.ifCond .eq 16, 3) := by decide +kernel
theorem dX9_formal_11 : decode cX9_formal 11 = .ok (.iload_n 2, 1) := by decide +kernel
theorem dX9_formal_12 : decode cX9_formal 12 = .ok (.ifCond .lt 12, 3) := by decide +kernel
theorem dX9_formal_15 : decode cX9_formal 15 = .ok (.iload_n 2, 1) := by decide +kernel
theorem dX9_formal_16 : decode cX9_formal 16 = .ok (.iconst 1, 1) := by decide +kernel
theorem dX9_formal_17 : decode cX9_formal 17 = .ok (.if_icmp .gt 7, 3) := by decide +kernel
theorem dX9_formal_20 : decode cX9_formal 20 = .ok (.iload_n 3, 1) := by decide +kernel
theorem dX9_formal_21 : decode cX9_formal 21 = .ok (.ifCond .ge 10, 3) := by decide +kernel
theorem dX9_formal_24 : decode cX9_formal 24 = .ok (.aload_n 0, 1) := by decide +kernel
theorem dX9_formal_25 : decode cX9_formal 25 = .ok (.bipush (-2), 2) := by decide +kernel
theorem dX9_formal_27 : decode cX9_formal 27 = .ok (.invokevirtual 58, 3) := by decide +kernel
theorem dX9_formal_30 : decode cX9_formal 30 = .ok (.ireturn, 1) := by decide +kernel
theorem dX9_formal_31 : decode cX9_formal 31 = .ok (.aload_n 0, 1) := by decide +kernel
theorem dX9_formal_32 : decode cX9_formal 32 = .ok (.invokevirtual 92, 3) := by decide +kernel
theorem dX9_formal_35 : decode cX9_formal 35 = .ok (.getfield 193, 3) := by decide +kernel
theorem dX9_formal_38 : decode cX9_formal 38 = .ok (.iload_n 1, 1) := by decide +kernel
theorem dX9_formal_39 : decode cX9_formal 39 = .ok (.aaload, 1) := by decide +kernel
theorem dX9_formal_40 : decode cX9_formal 40 = .ok (.astore 4, 2) := by decide +kernel
theorem dX9_formal_42 : decode cX9_formal 42 = .ok (.aload 4, 2) := by decide +kernel
theorem dX9_formal_44 : decode cX9_formal 44 = .ok (.iload_n 2, 1) := by decide +kernel
theorem dX9_formal_45 : decode cX9_formal 45 = .ok (.ifCond .ne 11, 3) := by decide +kernel
theorem dX9_formal_48 : decode cX9_formal 48 = .ok (.aload 4, 2) := by decide +kernel
theorem dX9_formal_50 : decode cX9_formal 50 = .ok (.getfield 197, 3) := by decide +kernel
theorem dX9_formal_53 : decode cX9_formal 53 = .ok (.goto 8, 3) := by decide +kernel
theorem dX9_formal_56 : decode cX9_formal 56 = .ok (.aload 4, 2) := by decide +kernel
theorem dX9_formal_58 : decode cX9_formal 58 = .ok (.getfield 200, 3) := by decide +kernel
theorem dX9_formal_61 : decode cX9_formal 61 = .ok (.iload_n 3, 1) := by decide +kernel
theorem dX9_formal_62 : decode cX9_formal 62 = .ok (.invokevirtual 201, 3) := by decide +kernel
theorem dX9_formal_65 : decode cX9_formal 65 = .ok (.ireturn, 1) := by decide +kernel
set_option maxHeartbeats 4000000 in
set_option maxRecDepth 10000 in
theorem vX9_formal_0 {l : Launch} {M : sl_M} {Q : sl_R} {x1 x2 x3 : Int} (H : sl_RM M → sl_rg x1 → sl_rg x2 → sl_rg x3 → sl_RR l mX9_present [vR 0 0] M (fun p2 M1 => (sl_cls p2 = 7) ∧ sl_RI l mX7_hasRoutine [vR p2 0, vI x1] M1 (fun y4 M3 => ((y4 = 0) → sl_RI l mX9_refuse [vR 0 0, vI (-2)] M3 (fun y7 M6 => Q (some (vI y7)) M6)) ∧ ((¬ (y4 = 0)) → ((x2 < 0) → sl_RI l mX9_refuse [vR 0 0, vI (-2)] M3 (fun y10 M9 => Q (some (vI y10)) M9)) ∧ ((¬ (x2 < 0)) → ((1 < x2) → sl_RI l mX9_refuse [vR 0 0, vI (-2)] M3 (fun y13 M12 => Q (some (vI y13)) M12)) ∧ ((¬ (1 < x2)) → ((0 ≤ x3) → sl_RR l mX9_present [vR 0 0] M3 (fun p16 M15 => (sl_cls p16 = 7) ∧ (0 ≤ x1 ∧ x1 < 3) ∧ sl_RI l mX5_formalAt [vR (3 * p16 + x1.toNat) 0, vI (if x2 ≠ 0 then M15 (3 * p16 + x1.toNat) 0 3 else M15 (3 * p16 + x1.toNat) 0 2), vI x3] M15 (fun y20 M19 => Q (some (vI y20)) M19))) ∧ ((¬ (0 ≤ x3)) → sl_RI l mX9_refuse [vR 0 0, vI (-2)] M3 (fun y22 M21 => Q (some (vI y22)) M21)))))))) : sl_At l mX9_formal 0 [(0, vR 0 0), (1, vI x1), (2, vI x2), (3, vI x3)] [] M Q := by
  refine sl_At.in (fun hM hls => ?_)
  have g1 : sl_rg x1 := hls _ (List.mem_of_getElem? (i := 1) rfl)
  have g2 : sl_rg x2 := hls _ (List.mem_of_getElem? (i := 2) rfl)
  have g3 : sl_rg x3 := hls _ (List.mem_of_getElem? (i := 3) rfl)
  have H := H hM g1 g2 g3
  refine r_aload_n (k := 0) rfl rfl dX9_formal_0 ?_
  refine r_callV (g := mX9_present) ckX9 rfl rfl rfl rfl mkX9_present mvX9_present ml_X9_92 ⟨by decide, by decide⟩ rfl (Nat.le_of_ble_eq_true rfl) rfl ok_n dX9_formal_1 (sl_afterR (sl_RR.mono (fun p2 M1 hM1 H => ?_) H))
  obtain ⟨zp2, H⟩ := H
  refine r_iload_n (k := 1) rfl rfl dX9_formal_4 ?_
  refine r_callV (g := mX7_hasRoutine) ckX7 zp2 rfl rfl rfl mkX7_hasRoutine mvX7_hasRoutine ml_X9_187 ⟨by decide, by decide⟩ rfl (Nat.le_of_ble_eq_true rfl) rfl (ok_i g1 ok_n) dX9_formal_5 (sl_afterI (sl_RI.mono (fun y4 M3 gy4 hM3 H => ?_) H))
  refine r_if_eq (tgt := 24) gy4 dX9_formal_8 (by decide) (fun h5 => ?_) (fun h5 => ?_)
  · have H := H.1 h5
    refine r_aload_n (k := 0) rfl rfl dX9_formal_24 ?_
    refine r_bipush dX9_formal_25 (by decide) ?_
    refine r_callV (g := mX9_refuse) ckX9 rfl rfl rfl rfl mkX9_refuse mvX9_refuse ml_X9_58 ⟨by decide, by decide⟩ rfl (Nat.le_of_ble_eq_true rfl) rfl (ok_i ⟨by decide, by decide⟩ ok_n) dX9_formal_27 (sl_afterI (sl_RI.mono (fun y7 M6 gy7 hM6 H => ?_) H))
    refine r_iret rfl gy7 dX9_formal_30 ?_
    exact H
  · have H := H.2 h5
    refine r_iload_n (k := 2) rfl rfl dX9_formal_11 ?_
    refine r_if_lt (tgt := 24) g2 dX9_formal_12 (by decide) (fun h8 => ?_) (fun h8 => ?_)
    · have H := H.1 h8
      refine r_aload_n (k := 0) rfl rfl dX9_formal_24 ?_
      refine r_bipush dX9_formal_25 (by decide) ?_
      refine r_callV (g := mX9_refuse) ckX9 rfl rfl rfl rfl mkX9_refuse mvX9_refuse ml_X9_58 ⟨by decide, by decide⟩ rfl (Nat.le_of_ble_eq_true rfl) rfl (ok_i ⟨by decide, by decide⟩ ok_n) dX9_formal_27 (sl_afterI (sl_RI.mono (fun y10 M9 gy10 hM9 H => ?_) H))
      refine r_iret rfl gy10 dX9_formal_30 ?_
      exact H
    · have H := H.2 h8
      refine r_iload_n (k := 2) rfl rfl dX9_formal_15 ?_
      refine r_iconst dX9_formal_16 ?_
      refine r_icmp_gt (tgt := 24) g2 ⟨by decide, by decide⟩ dX9_formal_17 (by decide) (fun h11 => ?_) (fun h11 => ?_)
      · have H := H.1 h11
        refine r_aload_n (k := 0) rfl rfl dX9_formal_24 ?_
        refine r_bipush dX9_formal_25 (by decide) ?_
        refine r_callV (g := mX9_refuse) ckX9 rfl rfl rfl rfl mkX9_refuse mvX9_refuse ml_X9_58 ⟨by decide, by decide⟩ rfl (Nat.le_of_ble_eq_true rfl) rfl (ok_i ⟨by decide, by decide⟩ ok_n) dX9_formal_27 (sl_afterI (sl_RI.mono (fun y13 M12 gy13 hM12 H => ?_) H))
        refine r_iret rfl gy13 dX9_formal_30 ?_
        exact H
      · have H := H.2 h11
        refine r_iload_n (k := 3) rfl rfl dX9_formal_20 ?_
        refine r_if_ge (tgt := 31) g3 dX9_formal_21 (by decide) (fun h14 => ?_) (fun h14 => ?_)
        · have H := H.1 h14
          refine r_aload_n (k := 0) rfl rfl dX9_formal_31 ?_
          refine r_callV (g := mX9_present) ckX9 rfl rfl rfl rfl mkX9_present mvX9_present ml_X9_92 ⟨by decide, by decide⟩ rfl (Nat.le_of_ble_eq_true rfl) rfl ok_n dX9_formal_32 (sl_afterR (sl_RR.mono (fun p16 M15 hM15 H => ?_) H))
          obtain ⟨zp16, H⟩ := H
          refine r_getR (k := 1) (o' := p16) (i' := 2) ckX7 zp16 rfl (by decide) rfl rfl rfl fl_X9_193 dX9_formal_35 ?_
          refine r_iload_n (k := 1) rfl rfl dX9_formal_38 ?_
          obtain ⟨c17, H⟩ := H
          refine r_aaldR zp16 rfl c17 dX9_formal_39 ?_
          refine r_astore (ls' := [(4, vR (3 * p16 + x1.toNat) 0), (0, vR 0 0), (1, vI x1), (2, vI x2), (3, vI x3)]) (by decide) rfl dX9_formal_40 ?_
          refine r_aload (k := 0) rfl dX9_formal_42 ?_
          refine r_iload_n (k := 3) rfl rfl dX9_formal_44 ?_
          have J : sl_At l mX9_formal 61 [(4, vR (3 * p16 + x1.toNat) 0), (0, vR 0 0), (1, vI x1), (2, vI x2), (3, vI x3)] [vI (if x2 ≠ 0 then M15 (3 * p16 + x1.toNat) 0 3 else M15 (3 * p16 + x1.toNat) 0 2), vR (3 * p16 + x1.toNat) 0] M15 Q := by
            refine r_iload_n (k := 4) rfl rfl dX9_formal_61 ?_
            refine r_callV (g := mX5_formalAt) ckX5 (cl_rout zp16 c17) rfl rfl rfl mkX5_formalAt mvX5_formalAt ml_X9_201 ⟨by decide, by decide⟩ rfl (Nat.le_of_ble_eq_true rfl) rfl (ok_i (sl_rgite (hM15 _ _ _) (hM15 _ _ _)) (ok_i g3 ok_n)) dX9_formal_62 (sl_afterI (sl_RI.mono (fun y20 M19 gy20 hM19 H => ?_) H))
            refine r_iret rfl gy20 dX9_formal_65 ?_
            exact H
          refine r_if_ne (tgt := 56) g2 dX9_formal_45 (by decide) (fun h18 => ?_) (fun h18 => ?_)
          · refine r_aload (k := 0) rfl dX9_formal_56 ?_
            refine r_gI (k := 3) (kz := 3) rfl ckX5 (cl_rout zp16 c17) rfl (by decide) rfl rfl fl_X9_200 dX9_formal_58 ?_
            rw [if_pos h18] at J
            exact J
          · refine r_aload (k := 0) rfl dX9_formal_48 ?_
            refine r_gI (k := 2) (kz := 2) rfl ckX5 (cl_rout zp16 c17) rfl (by decide) rfl rfl fl_X9_197 dX9_formal_50 ?_
            refine r_goto (tgt := 61) dX9_formal_53 (by decide) ?_
            rw [if_neg h18] at J
            exact J
        · have H := H.2 h14
          refine r_aload_n (k := 0) rfl rfl dX9_formal_24 ?_
          refine r_bipush dX9_formal_25 (by decide) ?_
          refine r_callV (g := mX9_refuse) ckX9 rfl rfl rfl rfl mkX9_refuse mvX9_refuse ml_X9_58 ⟨by decide, by decide⟩ rfl (Nat.le_of_ble_eq_true rfl) rfl (ok_i ⟨by decide, by decide⟩ ok_n) dX9_formal_27 (sl_afterI (sl_RI.mono (fun y22 M21 gy22 hM21 H => ?_) H))
          refine r_iret rfl gy22 dX9_formal_30 ?_
          exact H
theorem eX9_formal {l : Launch} {M : sl_M} {Q : sl_R} {x1 x2 x3 : Int} (k : sl_At l mX9_formal 0 [(0, vR 0 0), (1, vI x1), (2, vI x2), (3, vI x3)] [] M Q) : sl_Runs l mX9_formal [vR 0 0, vI x1, vI x2, vI x3] M Q := sl_Runs.of (ls := [(0, vR 0 0), (1, vI x1), (2, vI x2), (3, vI x3)]) rfl rfl (fun _ => rfl) (fun _ => Nat.le_of_ble_eq_true rfl) rfl (k)
theorem dX9_settles_0 : decode cX9_settles 0 = .ok (.aload_n 0, 1) := by decide +kernel
theorem dX9_settles_1 : decode cX9_settles 1 = .ok (.invokevirtual 92, 3) := by decide +kernel
theorem dX9_settles_4 : decode cX9_settles 4 = .ok (.iload_n 1, 1) := by decide +kernel
theorem dX9_settles_5 : decode cX9_settles 5 = .ok (.invokevirtual 187, 3) := by decide +kernel
theorem dX9_settles_8 : decode cX9_settles 8 = .ok (.ifCond .ne 10, 3) := by decide +kernel
theorem dX9_settles_11 : decode cX9_settles 11 = .ok (.aload_n 0, 1) := by decide +kernel
theorem dX9_settles_12 : decode cX9_settles 12 = .ok (.bipush (-2), 2) := by decide +kernel
theorem dX9_settles_14 : decode cX9_settles 14 = .ok (.invokevirtual 58, 3) := by decide +kernel
theorem dX9_settles_17 : decode cX9_settles 17 = .ok (.ireturn, 1) := by decide +kernel
theorem dX9_settles_18 : decode cX9_settles 18 = .ok (.aload_n 0, 1) := by decide +kernel
theorem dX9_settles_19 : decode cX9_settles 19 = .ok (.invokevirtual 92, 3) := by decide +kernel
theorem dX9_settles_22 : decode cX9_settles 22 = .ok (.iload_n 1, 1) := by decide +kernel
theorem dX9_settles_23 : decode cX9_settles 23 = .ok (.invokevirtual 204, 3) := by decide +kernel
theorem dX9_settles_26 : decode cX9_settles 26 = .ok (.istore_n 2, 1) := by decide +kernel
theorem dX9_settles_27 : decode cX9_settles 27 = .ok (.aload_n 0, 1) := by decide +kernel
theorem dX9_settles_28 : decode cX9_settles 28 = .ok (.invokevirtual 66, 3) := by decide +kernel
theorem dX9_settles_31 : decode cX9_settles 31 = .ok (.aload_n 0, 1) := by decide +kernel
theorem dX9_settles_32 : decode cX9_settles 32 = .ok (.invokevirtual 92, 3) := by decide +kernel
theorem dX9_settles_35 : decode cX9_settles 35 = .ok (.iload_n 1, 1) := by decide +kernel
theorem dX9_settles_36 : decode cX9_settles 36 = .ok (.invokevirtual 207, 3) := by decide +kernel
theorem dX9_settles_39 : decode cX9_settles 39 = .ok (.aload_n 0, 1) := by decide +kernel
theorem dX9_settles_40 : decode cX9_settles 40 = .ok (.invokevirtual 84, 3) := by decide +kernel
theorem dX9_settles_43 : decode cX9_settles 43 = .ok (.iload_n 2, 1) := by decide +kernel
theorem dX9_settles_44 : decode cX9_settles 44 = .ok (.ireturn, 1) := by decide +kernel
set_option maxHeartbeats 4000000 in
set_option maxRecDepth 10000 in
theorem vX9_settles_0 {l : Launch} {M : sl_M} {Q : sl_R} {x1 : Int} (H : sl_RM M → sl_rg x1 → sl_RR l mX9_present [vR 0 0] M (fun p2 M1 => (sl_cls p2 = 7) ∧ sl_RI l mX7_hasRoutine [vR p2 0, vI x1] M1 (fun y4 M3 => ((y4 ≠ 0) → sl_RR l mX9_present [vR 0 0] M3 (fun p7 M6 => (sl_cls p7 = 7) ∧ sl_RI l mX7_callsOf [vR p7 0, vI x1] M6 (fun y9 M8 => sl_RR l mX9_spare [vR 0 0] M8 (fun p11 M10 => (sl_cls p11 = 7) ∧ sl_RR l mX9_present [vR 0 0] M10 (fun p13 M12 => (sl_cls p13 = 7) ∧ sl_RV l mX7_buildSettled [vR p11 0, vR p13 0, vI x1] M12 (fun M14 => sl_RV l mX9_advance [vR 0 0] M14 (fun M15 => Q (some (vI y9)) M15))))))) ∧ ((¬ (y4 ≠ 0)) → sl_RI l mX9_refuse [vR 0 0, vI (-2)] M3 (fun y17 M16 => Q (some (vI y17)) M16))))) : sl_At l mX9_settles 0 [(0, vR 0 0), (1, vI x1)] [] M Q := by
  refine sl_At.in (fun hM hls => ?_)
  have g1 : sl_rg x1 := hls _ (List.mem_of_getElem? (i := 1) rfl)
  have H := H hM g1
  refine r_aload_n (k := 0) rfl rfl dX9_settles_0 ?_
  refine r_callV (g := mX9_present) ckX9 rfl rfl rfl rfl mkX9_present mvX9_present ml_X9_92 ⟨by decide, by decide⟩ rfl (Nat.le_of_ble_eq_true rfl) rfl ok_n dX9_settles_1 (sl_afterR (sl_RR.mono (fun p2 M1 hM1 H => ?_) H))
  obtain ⟨zp2, H⟩ := H
  refine r_iload_n (k := 1) rfl rfl dX9_settles_4 ?_
  refine r_callV (g := mX7_hasRoutine) ckX7 zp2 rfl rfl rfl mkX7_hasRoutine mvX7_hasRoutine ml_X9_187 ⟨by decide, by decide⟩ rfl (Nat.le_of_ble_eq_true rfl) rfl (ok_i g1 ok_n) dX9_settles_5 (sl_afterI (sl_RI.mono (fun y4 M3 gy4 hM3 H => ?_) H))
  refine r_if_ne (tgt := 18) gy4 dX9_settles_8 (by decide) (fun h5 => ?_) (fun h5 => ?_)
  · have H := H.1 h5
    refine r_aload_n (k := 0) rfl rfl dX9_settles_18 ?_
    refine r_callV (g := mX9_present) ckX9 rfl rfl rfl rfl mkX9_present mvX9_present ml_X9_92 ⟨by decide, by decide⟩ rfl (Nat.le_of_ble_eq_true rfl) rfl ok_n dX9_settles_19 (sl_afterR (sl_RR.mono (fun p7 M6 hM6 H => ?_) H))
    obtain ⟨zp7, H⟩ := H
    refine r_iload_n (k := 1) rfl rfl dX9_settles_22 ?_
    refine r_callV (g := mX7_callsOf) ckX7 zp7 rfl rfl rfl mkX7_callsOf mvX7_callsOf ml_X9_204 ⟨by decide, by decide⟩ rfl (Nat.le_of_ble_eq_true rfl) rfl (ok_i g1 ok_n) dX9_settles_23 (sl_afterI (sl_RI.mono (fun y9 M8 gy9 hM8 H => ?_) H))
    refine r_istore_n (ls' := [(2, vI y9), (0, vR 0 0), (1, vI x1)]) gy9 rfl (by decide) rfl dX9_settles_26 ?_
    refine r_aload_n (k := 1) rfl rfl dX9_settles_27 ?_
    refine r_callV (g := mX9_spare) ckX9 rfl rfl rfl rfl mkX9_spare mvX9_spare ml_X9_66 ⟨by decide, by decide⟩ rfl (Nat.le_of_ble_eq_true rfl) rfl ok_n dX9_settles_28 (sl_afterR (sl_RR.mono (fun p11 M10 hM10 H => ?_) H))
    obtain ⟨zp11, H⟩ := H
    refine r_aload_n (k := 1) rfl rfl dX9_settles_31 ?_
    refine r_callV (g := mX9_present) ckX9 rfl rfl rfl rfl mkX9_present mvX9_present ml_X9_92 ⟨by decide, by decide⟩ rfl (Nat.le_of_ble_eq_true rfl) rfl ok_n dX9_settles_32 (sl_afterR (sl_RR.mono (fun p13 M12 hM12 H => ?_) H))
    obtain ⟨zp13, H⟩ := H
    refine r_iload_n (k := 2) rfl rfl dX9_settles_35 ?_
    refine r_callV (g := mX7_buildSettled) ckX7 zp11 rfl rfl rfl mkX7_buildSettled mvX7_buildSettled ml_X9_207 ⟨by decide, by decide⟩ rfl (Nat.le_of_ble_eq_true rfl) rfl (ok_r (ok_i g1 ok_n)) dX9_settles_36 (sl_afterV (sl_RV.mono (fun M14 hM14 H => ?_) H))
    refine r_aload_n (k := 1) rfl rfl dX9_settles_39 ?_
    refine r_callV (g := mX9_advance) ckX9 rfl rfl rfl rfl mkX9_advance mvX9_advance ml_X9_84 ⟨by decide, by decide⟩ rfl (Nat.le_of_ble_eq_true rfl) rfl ok_n dX9_settles_40 (sl_afterV (sl_RV.mono (fun M15 hM15 H => ?_) H))
    refine r_iload_n (k := 0) rfl rfl dX9_settles_43 ?_
    refine r_iret rfl gy9 dX9_settles_44 ?_
    exact H
  · have H := H.2 h5
    refine r_aload_n (k := 0) rfl rfl dX9_settles_11 ?_
    refine r_bipush dX9_settles_12 (by decide) ?_
    refine r_callV (g := mX9_refuse) ckX9 rfl rfl rfl rfl mkX9_refuse mvX9_refuse ml_X9_58 ⟨by decide, by decide⟩ rfl (Nat.le_of_ble_eq_true rfl) rfl (ok_i ⟨by decide, by decide⟩ ok_n) dX9_settles_14 (sl_afterI (sl_RI.mono (fun y17 M16 gy17 hM16 H => ?_) H))
    refine r_iret rfl gy17 dX9_settles_17 ?_
    exact H
theorem eX9_settles {l : Launch} {M : sl_M} {Q : sl_R} {x1 : Int} (k : sl_At l mX9_settles 0 [(0, vR 0 0), (1, vI x1)] [] M Q) : sl_Runs l mX9_settles [vR 0 0, vI x1] M Q := sl_Runs.of (ls := [(0, vR 0 0), (1, vI x1)]) rfl rfl (fun _ => rfl) (fun _ => Nat.le_of_ble_eq_true rfl) rfl (k)
theorem dX9_back_0 : decode cX9_back 0 = .ok (.aload_n 0, 1) := by decide +kernel
theorem dX9_back_1 : decode cX9_back 1 = .ok (.getfield 211, 3) := by decide +kernel
theorem dX9_back_4 : decode cX9_back 4 = .ok (.ifCond .ne 10, 3) := by decide +kernel
theorem dX9_back_7 : decode cX9_back 7 = .ok (.aload_n 0, 1) := by decide +kernel
theorem dX9_back_8 : decode cX9_back 8 = .ok (.bipush (-3), 2) := by decide +kernel
theorem dX9_back_10 : decode cX9_back 10 = .ok (.invokevirtual 58, 3) := by decide +kernel
theorem dX9_back_13 : decode cX9_back 13 = .ok (.ireturn, 1) := by decide +kernel
theorem dX9_back_14 : decode cX9_back 14 = .ok (.aload_n 0, 1) := by decide +kernel
theorem dX9_back_15 : decode cX9_back 15 = .ok (.aload_n 0, 1) := by decide +kernel
theorem dX9_back_16 : decode cX9_back 16 = .ok (.getfield 214, 3) := by decide +kernel
theorem dX9_back_19 : decode cX9_back 19 = .ok (.bipush 8, 2) := by decide +kernel
theorem dX9_back_21 : decode cX9_back 21 = .ok (.iadd, 1) := by decide +kernel
theorem dX9_back_22 : decode cX9_back 22 = .ok (.iconst 1, 1) := by decide +kernel
theorem dX9_back_23 : decode cX9_back 23 = .ok (.isub, 1) := by decide +kernel
theorem dX9_back_24 : decode cX9_back 24 = .ok (.bipush 8, 2) := by decide +kernel
theorem dX9_back_26 : decode cX9_back 26 = .ok (.irem, 1) := by decide +kernel
theorem dX9_back_27 : decode cX9_back 27 = .ok (.putfield 214, 3) := by decide +kernel
theorem dX9_back_30 : decode cX9_back 30 = .ok (.aload_n 0, 1) := by decide +kernel
theorem dX9_back_31 : decode cX9_back 31 = .ok (.dup, 1) := by decide +kernel
theorem dX9_back_32 : decode cX9_back 32 = .ok (.getfield 211, 3) := by decide +kernel
theorem dX9_back_35 : decode cX9_back 35 = .ok (.iconst 1, 1) := by decide +kernel
theorem dX9_back_36 : decode cX9_back 36 = .ok (.isub, 1) := by decide +kernel
theorem dX9_back_37 : decode cX9_back 37 = .ok (.putfield 211, 3) := by decide +kernel
theorem dX9_back_40 : decode cX9_back 40 = .ok (.aload_n 0, 1) := by decide +kernel
theorem dX9_back_41 : decode cX9_back 41 = .ok (.getfield 39, 3) := by decide +kernel
theorem dX9_back_44 : decode cX9_back 44 = .ok (.invokevirtual 217, 3) := by decide +kernel
theorem dX9_back_47 : decode cX9_back 47 = .ok (.aload_n 0, 1) := by decide +kernel
theorem dX9_back_48 : decode cX9_back 48 = .ok (.getfield 211, 3) := by decide +kernel
theorem dX9_back_51 : decode cX9_back 51 = .ok (.ireturn, 1) := by decide +kernel
set_option maxHeartbeats 4000000 in
set_option maxRecDepth 10000 in
theorem vX9_back_0 {l : Launch} {M : sl_M} {Q : sl_R} (H : sl_RM M → ((M 0 0 5 ≠ 0) → (∀ M2, M2 = sl_wr M 0 0 4 (irem (M 0 0 4 + 8 - 1) 8) → (sl_rg (M2 0 0 5 - 1)) ∧ (∀ M4, M4 = sl_wr M2 0 0 5 (M2 0 0 5 - 1) → sl_RV l mX1_forget [vR 6 0] M4 (fun M5 => Q (some (vI (M5 0 0 5))) M5)))) ∧ ((¬ (M 0 0 5 ≠ 0)) → sl_RI l mX9_refuse [vR 0 0, vI (-3)] M (fun y7 M6 => Q (some (vI y7)) M6))) : sl_At l mX9_back 0 [(0, vR 0 0)] [] M Q := by
  refine sl_At.in (fun hM hls => ?_)
  have H := H hM
  refine r_aload_n (k := 0) rfl rfl dX9_back_0 ?_
  refine r_gI (k := 5) (kz := 5) rfl ckX9 rfl rfl (by decide) rfl rfl fl_X9_211 dX9_back_1 ?_
  refine r_if_ne (tgt := 14) (hM _ _ _) dX9_back_4 (by decide) (fun h1 => ?_) (fun h1 => ?_)
  · have H := H.1 h1
    refine r_aload_n (k := 0) rfl rfl dX9_back_14 ?_
    refine r_aload_n (k := 0) rfl rfl dX9_back_15 ?_
    refine r_gI (k := 4) (kz := 4) rfl ckX9 rfl rfl (by decide) rfl rfl fl_X9_214 dX9_back_16 ?_
    refine r_bipush dX9_back_19 (by decide) ?_
    refine r_iadd dX9_back_21 ?_
    refine r_iconst dX9_back_22 ?_
    refine r_isub dX9_back_23 ?_
    refine r_bipush dX9_back_24 (by decide) ?_
    refine r_irem ⟨by decide, by decide⟩ (by decide) dX9_back_26 ?_
    refine r_pI (k := 4) (kz := 4) rfl ckX9 rfl rfl (by decide) rfl rfl rfl rfl fl_X9_214 (rg_irem _ _) dX9_back_27 ?_
    refine r_mm (fun M2 e2 => ?_)
    have H := H M2 e2
    have hM2 : sl_RM M2 := by rw [e2]; exact sl_wr_RM hM (rg_irem _ _)
    refine r_aload_n (k := 0) rfl rfl dX9_back_30 ?_
    refine r_dup rfl dX9_back_31 ?_
    refine r_gI (k := 5) (kz := 5) rfl ckX9 rfl rfl (by decide) rfl rfl fl_X9_211 dX9_back_32 ?_
    refine r_iconst dX9_back_35 ?_
    refine r_isub dX9_back_36 ?_
    obtain ⟨c3, H⟩ := H
    refine r_pI (k := 5) (kz := 5) rfl ckX9 rfl rfl (by decide) rfl rfl rfl rfl fl_X9_211 c3 dX9_back_37 ?_
    refine r_mm (fun M4 e4 => ?_)
    have H := H M4 e4
    have hM4 : sl_RM M4 := by rw [e4]; exact sl_wr_RM hM2 c3
    refine r_aload_n (k := 0) rfl rfl dX9_back_40 ?_
    refine r_getR (k := 8) (o' := 6) (i' := 0) ckX9 rfl rfl (by decide) rfl rfl rfl fl_X9_39 dX9_back_41 ?_
    refine r_callV (g := mX1_forget) ckX1 rfl rfl rfl rfl mkX1_forget mvX1_forget ml_X9_217 ⟨by decide, by decide⟩ rfl (Nat.le_of_ble_eq_true rfl) rfl ok_n dX9_back_44 (sl_afterV (sl_RV.mono (fun M5 hM5 H => ?_) H))
    refine r_aload_n (k := 0) rfl rfl dX9_back_47 ?_
    refine r_gI (k := 5) (kz := 5) rfl ckX9 rfl rfl (by decide) rfl rfl fl_X9_211 dX9_back_48 ?_
    refine r_iret rfl (hM5 _ _ _) dX9_back_51 ?_
    exact H
  · have H := H.2 h1
    refine r_aload_n (k := 0) rfl rfl dX9_back_7 ?_
    refine r_bipush dX9_back_8 (by decide) ?_
    refine r_callV (g := mX9_refuse) ckX9 rfl rfl rfl rfl mkX9_refuse mvX9_refuse ml_X9_58 ⟨by decide, by decide⟩ rfl (Nat.le_of_ble_eq_true rfl) rfl (ok_i ⟨by decide, by decide⟩ ok_n) dX9_back_10 (sl_afterI (sl_RI.mono (fun y7 M6 gy7 hM6 H => ?_) H))
    refine r_iret rfl gy7 dX9_back_13 ?_
    exact H
theorem eX9_back {l : Launch} {M : sl_M} {Q : sl_R}  (k : sl_At l mX9_back 0 [(0, vR 0 0)] [] M Q) : sl_Runs l mX9_back [vR 0 0] M Q := sl_Runs.of (ls := [(0, vR 0 0)]) rfl rfl (fun _ => rfl) (fun _ => Nat.le_of_ble_eq_true rfl) rfl (k)
theorem dX9_told_0 : decode cX9_told 0 = .ok (.iload_n 1, 1) := by decide +kernel
theorem dX9_told_1 : decode cX9_told 1 = .ok (.ifCond .lt 9, 3) := by decide +kernel
theorem dX9_told_4 : decode cX9_told 4 = .ok (.iload_n 1, 1) := by decide +kernel
theorem dX9_told_5 : decode cX9_told 5 = .ok (.bipush 6, 2) := by decide +kernel
theorem dX9_told_7 : decode cX9_told 7 = .ok (.if_icmp .le 10, 3) := by decide +kernel
theorem dX9_told_10 : decode cX9_told 10 = .ok (.aload_n 0, 1) := by decide +kernel
theorem dX9_told_11 : decode cX9_told 11 = .ok (.bipush (-2), 2) := by decide +kernel
theorem dX9_told_13 : decode cX9_told 13 = .ok (.invokevirtual 58, 3) := by decide +kernel
theorem dX9_told_16 : decode cX9_told 16 = .ok (.ireturn, 1) := by decide +kernel
theorem dX9_told_17 : decode cX9_told 17 = .ok (.aload_n 0, 1) := by decide +kernel
theorem dX9_told_18 : decode cX9_told 18 = .ok (.iload_n 1, 1) := by decide +kernel
theorem dX9_told_19 : decode cX9_told 19 = .ok (.invokevirtual 218, 3) := by decide +kernel
theorem dX9_told_22 : decode cX9_told 22 = .ok (.ireturn, 1) := by decide +kernel
set_option maxHeartbeats 4000000 in
set_option maxRecDepth 10000 in
theorem vX9_told_0 {l : Launch} {M : sl_M} {Q : sl_R} {x1 : Int} (H : sl_RM M → sl_rg x1 → ((x1 < 0) → sl_RI l mX9_refuse [vR 0 0, vI (-2)] M (fun y3 M2 => Q (some (vI y3)) M2)) ∧ ((¬ (x1 < 0)) → ((x1 ≤ 6) → sl_RI l mX9_tally [vR 0 0, vI x1] M (fun y6 M5 => Q (some (vI y6)) M5)) ∧ ((¬ (x1 ≤ 6)) → sl_RI l mX9_refuse [vR 0 0, vI (-2)] M (fun y8 M7 => Q (some (vI y8)) M7)))) : sl_At l mX9_told 0 [(0, vR 0 0), (1, vI x1)] [] M Q := by
  refine sl_At.in (fun hM hls => ?_)
  have g1 : sl_rg x1 := hls _ (List.mem_of_getElem? (i := 1) rfl)
  have H := H hM g1
  refine r_iload_n (k := 1) rfl rfl dX9_told_0 ?_
  refine r_if_lt (tgt := 10) g1 dX9_told_1 (by decide) (fun h1 => ?_) (fun h1 => ?_)
  · have H := H.1 h1
    refine r_aload_n (k := 0) rfl rfl dX9_told_10 ?_
    refine r_bipush dX9_told_11 (by decide) ?_
    refine r_callV (g := mX9_refuse) ckX9 rfl rfl rfl rfl mkX9_refuse mvX9_refuse ml_X9_58 ⟨by decide, by decide⟩ rfl (Nat.le_of_ble_eq_true rfl) rfl (ok_i ⟨by decide, by decide⟩ ok_n) dX9_told_13 (sl_afterI (sl_RI.mono (fun y3 M2 gy3 hM2 H => ?_) H))
    refine r_iret rfl gy3 dX9_told_16 ?_
    exact H
  · have H := H.2 h1
    refine r_iload_n (k := 1) rfl rfl dX9_told_4 ?_
    refine r_bipush dX9_told_5 (by decide) ?_
    refine r_icmp_le (tgt := 17) g1 ⟨by decide, by decide⟩ dX9_told_7 (by decide) (fun h4 => ?_) (fun h4 => ?_)
    · have H := H.1 h4
      refine r_aload_n (k := 0) rfl rfl dX9_told_17 ?_
      refine r_iload_n (k := 1) rfl rfl dX9_told_18 ?_
      refine r_callV (g := mX9_tally) ckX9 rfl rfl rfl rfl mkX9_tally mvX9_tally ml_X9_218 ⟨by decide, by decide⟩ rfl (Nat.le_of_ble_eq_true rfl) rfl (ok_i g1 ok_n) dX9_told_19 (sl_afterI (sl_RI.mono (fun y6 M5 gy6 hM5 H => ?_) H))
      refine r_iret rfl gy6 dX9_told_22 ?_
      exact H
    · have H := H.2 h4
      refine r_aload_n (k := 0) rfl rfl dX9_told_10 ?_
      refine r_bipush dX9_told_11 (by decide) ?_
      refine r_callV (g := mX9_refuse) ckX9 rfl rfl rfl rfl mkX9_refuse mvX9_refuse ml_X9_58 ⟨by decide, by decide⟩ rfl (Nat.le_of_ble_eq_true rfl) rfl (ok_i ⟨by decide, by decide⟩ ok_n) dX9_told_13 (sl_afterI (sl_RI.mono (fun y8 M7 gy8 hM7 H => ?_) H))
      refine r_iret rfl gy8 dX9_told_16 ?_
      exact H
theorem eX9_told {l : Launch} {M : sl_M} {Q : sl_R} {x1 : Int} (k : sl_At l mX9_told 0 [(0, vR 0 0), (1, vI x1)] [] M Q) : sl_Runs l mX9_told [vR 0 0, vI x1] M Q := sl_Runs.of (ls := [(0, vR 0 0), (1, vI x1)]) rfl rfl (fun _ => rfl) (fun _ => Nat.le_of_ble_eq_true rfl) rfl (k)
theorem dX9_digest_0 : decode cX9_digest 0 = .ok (.ldc2_w 221, 3) := by decide +kernel
theorem dX9_digest_3 : decode cX9_digest 3 = .ok (.lstore_n 1, 1) := by decide +kernel
theorem dX9_digest_4 : decode cX9_digest 4 = .ok (.iconst 0, 1) := by decide +kernel
theorem dX9_digest_5 : decode cX9_digest 5 = .ok (.istore_n 3, 1) := by decide +kernel
theorem dX9_digest_6 : decode cX9_digest 6 = .ok (.iload_n 3, 1) := by decide +kernel
theorem dX9_digest_7 : decode cX9_digest 7 = .ok (.bipush 6, 2) := by decide +kernel
theorem dX9_digest_9 : decode cX9_digest 9 = .ok (.if_icmp .gt 22, 3) := by decide +kernel
theorem dX9_digest_12 : decode cX9_digest 12 = .ok (.ldc2_w 223, 3) := by decide +kernel
theorem dX9_digest_15 : decode cX9_digest 15 = .ok (.lload_n 1, 1) := by decide +kernel
theorem dX9_digest_16 : decode cX9_digest 16 = .ok (.lmul, 1) := by decide +kernel
theorem dX9_digest_17 : decode cX9_digest 17 = .ok (.aload_n 0, 1) := by decide +kernel
theorem dX9_digest_18 : decode cX9_digest 18 = .ok (.iload_n 3, 1) := by decide +kernel
theorem dX9_digest_19 : decode cX9_digest 19 = .ok (.invokevirtual 218, 3) := by decide +kernel
theorem dX9_digest_22 : decode cX9_digest 22 = .ok (.i2l, 1) := by decide +kernel
theorem dX9_digest_23 : decode cX9_digest 23 = .ok (.ladd, 1) := by decide +kernel
theorem dX9_digest_24 : decode cX9_digest 24 = .ok (.lstore_n 1, 1) := by decide +kernel
theorem dX9_digest_25 : decode cX9_digest 25 = .ok (.iinc 3 1, 3) := by decide +kernel
theorem dX9_digest_28 : decode cX9_digest 28 = .ok (.goto (-22), 3) := by decide +kernel
theorem dX9_digest_31 : decode cX9_digest 31 = .ok (.aload_n 0, 1) := by decide +kernel
theorem dX9_digest_32 : decode cX9_digest 32 = .ok (.invokevirtual 92, 3) := by decide +kernel
theorem dX9_digest_35 : decode cX9_digest 35 = .ok (.getfield 73, 3) := by decide +kernel
theorem dX9_digest_38 : decode cX9_digest 38 = .ok (.astore_n 3, 1) := by decide +kernel
theorem dX9_digest_39 : decode cX9_digest 39 = .ok (.iconst 0, 1) := by decide +kernel
theorem dX9_digest_40 : decode cX9_digest 40 = .ok (.istore 4, 2) := by decide +kernel
theorem dX9_digest_42 : decode cX9_digest 42 = .ok (.iload 4, 2) := by decide +kernel
theorem dX9_digest_44 : decode cX9_digest 44 = .ok (.aload_n 3, 1) := by decide +kernel
theorem dX9_digest_45 : decode cX9_digest 45 = .ok (.getfield 87, 3) := by decide +kernel
theorem dX9_digest_48 : decode cX9_digest 48 = .ok (.if_icmp .ge 78, 3) := by decide +kernel
theorem dX9_digest_51 : decode cX9_digest 51 = .ok (.iconst 0, 1) := by decide +kernel
theorem dX9_digest_52 : decode cX9_digest 52 = .ok (.istore 5, 2) := by decide +kernel
theorem dX9_digest_54 : decode cX9_digest 54 = .ok (.iload 5, 2) := by decide +kernel
theorem dX9_digest_56 : decode cX9_digest 56 = .ok (.bipush 6, 2) := by decide +kernel
theorem dX9_digest_58 : decode cX9_digest 58 = .ok (.if_icmp .gt 25, 3) := by decide +kernel
theorem dX9_digest_61 : decode cX9_digest 61 = .ok (.ldc2_w 223, 3) := by decide +kernel
theorem dX9_digest_64 : decode cX9_digest 64 = .ok (.lload_n 1, 1) := by decide +kernel
theorem dX9_digest_65 : decode cX9_digest 65 = .ok (.lmul, 1) := by decide +kernel
theorem dX9_digest_66 : decode cX9_digest 66 = .ok (.aload_n 3, 1) := by decide +kernel
theorem dX9_digest_67 : decode cX9_digest 67 = .ok (.iload 4, 2) := by decide +kernel
theorem dX9_digest_69 : decode cX9_digest 69 = .ok (.iload 5, 2) := by decide +kernel
theorem dX9_digest_71 : decode cX9_digest 71 = .ok (.invokevirtual 99, 3) := by decide +kernel
theorem dX9_digest_74 : decode cX9_digest 74 = .ok (.i2l, 1) := by decide +kernel
theorem dX9_digest_75 : decode cX9_digest 75 = .ok (.ladd, 1) := by decide +kernel
theorem dX9_digest_76 : decode cX9_digest 76 = .ok (.lstore_n 1, 1) := by decide +kernel
theorem dX9_digest_77 : decode cX9_digest 77 = .ok (.iinc 5 1, 3) := by decide +kernel
theorem dX9_digest_80 : decode cX9_digest 80 = .ok (.goto (-26), 3) := by decide +kernel
theorem dX9_digest_83 : decode cX9_digest 83 = .ok (.iconst 0, 1) := by decide +kernel
theorem dX9_digest_84 : decode cX9_digest 84 = .ok (.istore 5, 2) := by decide +kernel
theorem dX9_digest_86 : decode cX9_digest 86 = .ok (.iload 5, 2) := by decide +kernel
theorem dX9_digest_88 : decode cX9_digest 88 = .ok (.aload_n 3, 1) := by decide +kernel
theorem dX9_digest_89 : decode cX9_digest 89 = .ok (.getfield 225, 3) := by decide +kernel
theorem dX9_digest_92 : decode cX9_digest 92 = .ok (.iload 4, 2) := by decide +kernel
theorem dX9_digest_94 : decode cX9_digest 94 = .ok (.iaload, 1) := by decide +kernel
theorem dX9_digest_95 : decode cX9_digest 95 = .ok (.if_icmp .ge 25, 3) := by decide +kernel
theorem dX9_digest_98 : decode cX9_digest 98 = .ok (.ldc2_w 223, 3) := by decide +kernel
theorem dX9_digest_101 : decode cX9_digest 101 = .ok (.lload_n 1, 1) := by decide +kernel
theorem dX9_digest_102 : decode cX9_digest 102 = .ok (.lmul, 1) := by decide +kernel
theorem dX9_digest_103 : decode cX9_digest 103 = .ok (.aload_n 3, 1) := by decide +kernel
theorem dX9_digest_104 : decode cX9_digest 104 = .ok (.iload 4, 2) := by decide +kernel
theorem dX9_digest_106 : decode cX9_digest 106 = .ok (.iload 5, 2) := by decide +kernel
theorem dX9_digest_108 : decode cX9_digest 108 = .ok (.invokevirtual 103, 3) := by decide +kernel
theorem dX9_digest_111 : decode cX9_digest 111 = .ok (.i2l, 1) := by decide +kernel
theorem dX9_digest_112 : decode cX9_digest 112 = .ok (.ladd, 1) := by decide +kernel
theorem dX9_digest_113 : decode cX9_digest 113 = .ok (.lstore_n 1, 1) := by decide +kernel
theorem dX9_digest_114 : decode cX9_digest 114 = .ok (.iinc 5 1, 3) := by decide +kernel
theorem dX9_digest_117 : decode cX9_digest 117 = .ok (.goto (-31), 3) := by decide +kernel
theorem dX9_digest_120 : decode cX9_digest 120 = .ok (.iinc 4 1, 3) := by decide +kernel
theorem dX9_digest_123 : decode cX9_digest 123 = .ok (.goto (-81), 3) := by decide +kernel
theorem dX9_digest_126 : decode cX9_digest 126 = .ok (.iconst 0, 1) := by decide +kernel
theorem dX9_digest_127 : decode cX9_digest 127 = .ok (.istore 4, 2) := by decide +kernel
theorem dX9_digest_129 : decode cX9_digest 129 = .ok (.iload 4, 2) := by decide +kernel
theorem dX9_digest_131 : decode cX9_digest 131 = .ok (.aload_n 0, 1) := by decide +kernel
theorem dX9_digest_132 : decode cX9_digest 132 = .ok (.invokevirtual 92, 3) := by decide +kernel
theorem dX9_digest_135 : decode cX9_digest 135 = .ok (.getfield 70, 3) := by decide +kernel
theorem dX9_digest_138 : decode cX9_digest 138 = .ok (.if_icmp .ge 43, 3) := by decide +kernel
theorem dX9_digest_141 : decode cX9_digest 141 = .ok (.iconst 0, 1) := by decide +kernel
theorem dX9_digest_142 : decode cX9_digest 142 = .ok (.istore 5, 2) := by decide +kernel
theorem dX9_digest_144 : decode cX9_digest 144 = .ok (.iload 5, 2) := by decide +kernel
theorem dX9_digest_146 : decode cX9_digest 146 = .ok (.iconst 5, 1) := by decide +kernel
theorem dX9_digest_147 : decode cX9_digest 147 = .ok (.if_icmp .gt 28, 3) := by decide +kernel
theorem dX9_digest_150 : decode cX9_digest 150 = .ok (.ldc2_w 223, 3) := by decide +kernel
theorem dX9_digest_153 : decode cX9_digest 153 = .ok (.lload_n 1, 1) := by decide +kernel
theorem dX9_digest_154 : decode cX9_digest 154 = .ok (.lmul, 1) := by decide +kernel
theorem dX9_digest_155 : decode cX9_digest 155 = .ok (.aload_n 0, 1) := by decide +kernel
theorem dX9_digest_156 : decode cX9_digest 156 = .ok (.invokevirtual 92, 3) := by decide +kernel
theorem dX9_digest_159 : decode cX9_digest 159 = .ok (.iload 4, 2) := by decide +kernel
theorem dX9_digest_161 : decode cX9_digest 161 = .ok (.iload 5, 2) := by decide +kernel
theorem dX9_digest_163 : decode cX9_digest 163 = .ok (.invokevirtual 190, 3) := by decide +kernel
theorem dX9_digest_166 : decode cX9_digest 166 = .ok (.i2l, 1) := by decide +kernel
theorem dX9_digest_167 : decode cX9_digest 167 = .ok (.ladd, 1) := by decide +kernel
theorem dX9_digest_168 : decode cX9_digest 168 = .ok (.lstore_n 1, 1) := by decide +kernel
theorem dX9_digest_169 : decode cX9_digest 169 = .ok (.iinc 5 1, 3) := by decide +kernel
theorem dX9_digest_172 : decode cX9_digest 172 = .ok (.goto (-28), 3) := by decide +kernel
theorem dX9_digest_175 : decode cX9_digest 175 = .ok (.iinc 4 1, 3) := by decide +kernel
theorem dX9_digest_178 : decode cX9_digest 178 = .ok (.goto (-49), 3) := by decide +kernel
theorem dX9_digest_181 : decode cX9_digest 181 = .ok (.lload_n 1, 1) := by decide +kernel
theorem dX9_digest_182 : decode cX9_digest 182 = .ok (.lreturn, 1) := by decide +kernel
set_option maxHeartbeats 4000000 in
set_option maxRecDepth 10000 in
theorem vX9_digest_0 {l : Launch} {M : sl_M} {Q : sl_R} (H : sl_RM M → sl_At l mX9_digest 6 [(0, vR 0 0), (1, vL (2251 : Int64)), (3, vI 0)] [] M Q) : sl_At l mX9_digest 0 [(0, vR 0 0)] [] M Q := by
  refine sl_At.in (fun hM hls => ?_)
  have H := H hM
  refine r_ldc2 (n := 2251) cl_X9_221 dX9_digest_0 ?_
  refine r_lstore_n (ls' := [(1, vL (2251 : Int64)), (0, vR 0 0)]) rfl (by decide) rfl dX9_digest_3 ?_
  refine r_iconst dX9_digest_4 ?_
  refine r_istore_n (ls' := [(3, vI 0), (1, vL (2251 : Int64)), (0, vR 0 0)]) ⟨by decide, by decide⟩ rfl (by decide) rfl dX9_digest_5 ?_
  exact sl_At.sub [2, 1, 0] rfl H
set_option maxHeartbeats 4000000 in
set_option maxRecDepth 10000 in
theorem vX9_digest_6 {l : Launch} {M : sl_M} {Q : sl_R} {w1 : Int64} {x3 : Int} (H : sl_RM M → sl_rg x3 → ((6 < x3) → sl_RR l mX9_present [vR 0 0] M (fun p3 M2 => (sl_cls p3 = 7) ∧ sl_At l mX9_digest 42 [(0, vR 0 0), (1, vL w1), (3, vR (p3 + 10) 0), (4, vI 0)] [] M2 Q)) ∧ ((¬ (6 < x3)) → sl_RI l mX9_tally [vR 0 0, vI x3] M (fun y5 M4 => (sl_rg (x3 + 1)) ∧ sl_At l mX9_digest 6 [(0, vR 0 0), (1, vL (((31 : Int64) * w1) + ((Int32.ofInt y5).toInt64))), (3, vI (x3 + 1))] [] M4 Q))) : sl_At l mX9_digest 6 [(0, vR 0 0), (1, vL w1), (3, vI x3)] [] M Q := by
  refine sl_At.in (fun hM hls => ?_)
  have g3 : sl_rg x3 := hls _ (List.mem_of_getElem? (i := 2) rfl)
  have H := H hM g3
  refine r_iload_n (k := 2) rfl rfl dX9_digest_6 ?_
  refine r_bipush dX9_digest_7 (by decide) ?_
  refine r_icmp_gt (tgt := 31) g3 ⟨by decide, by decide⟩ dX9_digest_9 (by decide) (fun h1 => ?_) (fun h1 => ?_)
  · have H := H.1 h1
    refine r_aload_n (k := 0) rfl rfl dX9_digest_31 ?_
    refine r_callV (g := mX9_present) ckX9 rfl rfl rfl rfl mkX9_present mvX9_present ml_X9_92 ⟨by decide, by decide⟩ rfl (Nat.le_of_ble_eq_true rfl) rfl ok_n dX9_digest_32 (sl_afterR (sl_RR.mono (fun p3 M2 hM2 H => ?_) H))
    obtain ⟨zp3, H⟩ := H
    refine r_getR (k := 0) (o' := p3 + 10) (i' := 0) ckX7 zp3 rfl (by decide) rfl rfl rfl fl_X9_73 dX9_digest_35 ?_
    refine r_astore_n (ls' := [(3, vR (p3 + 10) 0), (0, vR 0 0), (1, vL w1)]) rfl (by decide) rfl dX9_digest_38 ?_
    refine r_iconst dX9_digest_39 ?_
    refine r_istore (ls' := [(4, vI 0), (3, vR (p3 + 10) 0), (0, vR 0 0), (1, vL w1)]) ⟨by decide, by decide⟩ (by decide) rfl dX9_digest_40 ?_
    exact sl_At.sub [2, 3, 1, 0] rfl H
  · have H := H.2 h1
    refine r_ldc2 (n := 31) cl_X9_223 dX9_digest_12 ?_
    refine r_lload_n (k := 1) rfl rfl dX9_digest_15 ?_
    refine r_lmul dX9_digest_16 ?_
    refine r_aload_n (k := 0) rfl rfl dX9_digest_17 ?_
    refine r_iload_n (k := 2) rfl rfl dX9_digest_18 ?_
    refine r_callV (g := mX9_tally) ckX9 rfl rfl rfl rfl mkX9_tally mvX9_tally ml_X9_218 ⟨by decide, by decide⟩ rfl (Nat.le_of_ble_eq_true rfl) rfl (ok_i g3 ok_n) dX9_digest_19 (sl_afterI (sl_RI.mono (fun y5 M4 gy5 hM4 H => ?_) H))
    refine r_i2l dX9_digest_22 ?_
    refine r_ladd dX9_digest_23 ?_
    refine r_lstore_n (ls' := [(1, vL (((31 : Int64) * w1) + ((Int32.ofInt y5).toInt64))), (0, vR 0 0), (3, vI x3)]) rfl (by decide) rfl dX9_digest_24 ?_
    obtain ⟨c6, H⟩ := H
    refine r_iinc (k := 2) (ls' := [(3, vI (x3 + 1)), (1, vL (((31 : Int64) * w1) + ((Int32.ofInt y5).toInt64))), (0, vR 0 0)]) rfl c6 (by decide) rfl dX9_digest_25 ?_
    refine r_goto (tgt := 6) dX9_digest_28 (by decide) ?_
    exact sl_At.sub [2, 1, 0] rfl H
set_option maxHeartbeats 4000000 in
set_option maxRecDepth 10000 in
theorem vX9_digest_42 {l : Launch} {M : sl_M} {Q : sl_R} {w1 : Int64} {o3 : Nat} {x4 : Int} (ho3 : sl_cls o3 = 0) (H : sl_RM M → sl_rg x4 → ((M o3 0 11 ≤ x4) → sl_At l mX9_digest 129 [(0, vR 0 0), (1, vL w1), (4, vI 0)] [] M Q) ∧ ((¬ (M o3 0 11 ≤ x4)) → sl_At l mX9_digest 54 [(0, vR 0 0), (1, vL w1), (3, vR o3 0), (4, vI x4), (5, vI 0)] [] M Q)) : sl_At l mX9_digest 42 [(0, vR 0 0), (1, vL w1), (3, vR o3 0), (4, vI x4)] [] M Q := by
  refine sl_At.in (fun hM hls => ?_)
  have g4 : sl_rg x4 := hls _ (List.mem_of_getElem? (i := 3) rfl)
  have H := H hM g4
  refine r_iload (k := 3) rfl dX9_digest_42 ?_
  refine r_aload_n (k := 2) rfl rfl dX9_digest_44 ?_
  refine r_gI (k := 11) (kz := 11) rfl ckX0 ho3 rfl (by decide) rfl rfl fl_X9_87 dX9_digest_45 ?_
  refine r_icmp_ge (tgt := 126) g4 (hM _ _ _) dX9_digest_48 (by decide) (fun h1 => ?_) (fun h1 => ?_)
  · have H := H.1 h1
    refine r_iconst dX9_digest_126 ?_
    refine r_istore (ls' := [(4, vI 0), (0, vR 0 0), (1, vL w1), (3, vR o3 0)]) ⟨by decide, by decide⟩ (by decide) rfl dX9_digest_127 ?_
    exact sl_At.sub [1, 2, 0] rfl H
  · have H := H.2 h1
    refine r_iconst dX9_digest_51 ?_
    refine r_istore (ls' := [(5, vI 0), (0, vR 0 0), (1, vL w1), (3, vR o3 0), (4, vI x4)]) ⟨by decide, by decide⟩ (by decide) rfl dX9_digest_52 ?_
    exact sl_At.sub [1, 2, 3, 4, 0] rfl H
set_option maxHeartbeats 4000000 in
set_option maxRecDepth 10000 in
theorem vX9_digest_54 {l : Launch} {M : sl_M} {Q : sl_R} {w1 : Int64} {o3 : Nat} {x4 x5 : Int} (ho3 : sl_cls o3 = 0) (H : sl_RM M → sl_rg x4 → sl_rg x5 → ((6 < x5) → sl_At l mX9_digest 86 [(0, vR 0 0), (1, vL w1), (3, vR o3 0), (4, vI x4), (5, vI 0)] [] M Q) ∧ ((¬ (6 < x5)) → sl_RI l mX0_property [vR o3 0, vI x4, vI x5] M (fun y3 M2 => (sl_rg (x5 + 1)) ∧ sl_At l mX9_digest 54 [(0, vR 0 0), (1, vL (((31 : Int64) * w1) + ((Int32.ofInt y3).toInt64))), (3, vR o3 0), (4, vI x4), (5, vI (x5 + 1))] [] M2 Q))) : sl_At l mX9_digest 54 [(0, vR 0 0), (1, vL w1), (3, vR o3 0), (4, vI x4), (5, vI x5)] [] M Q := by
  refine sl_At.in (fun hM hls => ?_)
  have g4 : sl_rg x4 := hls _ (List.mem_of_getElem? (i := 3) rfl)
  have g5 : sl_rg x5 := hls _ (List.mem_of_getElem? (i := 4) rfl)
  have H := H hM g4 g5
  refine r_iload (k := 4) rfl dX9_digest_54 ?_
  refine r_bipush dX9_digest_56 (by decide) ?_
  refine r_icmp_gt (tgt := 83) g5 ⟨by decide, by decide⟩ dX9_digest_58 (by decide) (fun h1 => ?_) (fun h1 => ?_)
  · have H := H.1 h1
    refine r_iconst dX9_digest_83 ?_
    refine r_istore (ls' := [(5, vI 0), (0, vR 0 0), (1, vL w1), (3, vR o3 0), (4, vI x4)]) ⟨by decide, by decide⟩ (by decide) rfl dX9_digest_84 ?_
    exact sl_At.sub [1, 2, 3, 4, 0] rfl H
  · have H := H.2 h1
    refine r_ldc2 (n := 31) cl_X9_223 dX9_digest_61 ?_
    refine r_lload_n (k := 1) rfl rfl dX9_digest_64 ?_
    refine r_lmul dX9_digest_65 ?_
    refine r_aload_n (k := 2) rfl rfl dX9_digest_66 ?_
    refine r_iload (k := 3) rfl dX9_digest_67 ?_
    refine r_iload (k := 4) rfl dX9_digest_69 ?_
    refine r_callV (g := mX0_property) ckX0 ho3 rfl rfl rfl mkX0_property mvX0_property ml_X9_99 ⟨by decide, by decide⟩ rfl (Nat.le_of_ble_eq_true rfl) rfl (ok_i g4 (ok_i g5 ok_n)) dX9_digest_71 (sl_afterI (sl_RI.mono (fun y3 M2 gy3 hM2 H => ?_) H))
    refine r_i2l dX9_digest_74 ?_
    refine r_ladd dX9_digest_75 ?_
    refine r_lstore_n (ls' := [(1, vL (((31 : Int64) * w1) + ((Int32.ofInt y3).toInt64))), (0, vR 0 0), (3, vR o3 0), (4, vI x4), (5, vI x5)]) rfl (by decide) rfl dX9_digest_76 ?_
    obtain ⟨c4, H⟩ := H
    refine r_iinc (k := 4) (ls' := [(5, vI (x5 + 1)), (1, vL (((31 : Int64) * w1) + ((Int32.ofInt y3).toInt64))), (0, vR 0 0), (3, vR o3 0), (4, vI x4)]) rfl c4 (by decide) rfl dX9_digest_77 ?_
    refine r_goto (tgt := 54) dX9_digest_80 (by decide) ?_
    exact sl_At.sub [2, 1, 3, 4, 0] rfl H
set_option maxHeartbeats 4000000 in
set_option maxRecDepth 10000 in
theorem vX9_digest_86 {l : Launch} {M : sl_M} {Q : sl_R} {w1 : Int64} {o3 : Nat} {x4 x5 : Int} (ho3 : sl_cls o3 = 0) (H : sl_RM M → sl_rg x4 → sl_rg x5 → (0 ≤ x4 ∧ x4 < 40) ∧ ((M o3 9 x4 ≤ x5) → (sl_rg (x4 + 1)) ∧ sl_At l mX9_digest 42 [(0, vR 0 0), (1, vL w1), (3, vR o3 0), (4, vI (x4 + 1))] [] M Q) ∧ ((¬ (M o3 9 x4 ≤ x5)) → sl_RI l mX0_symbol [vR o3 0, vI x4, vI x5] M (fun y5 M4 => (sl_rg (x5 + 1)) ∧ sl_At l mX9_digest 86 [(0, vR 0 0), (1, vL (((31 : Int64) * w1) + ((Int32.ofInt y5).toInt64))), (3, vR o3 0), (4, vI x4), (5, vI (x5 + 1))] [] M4 Q))) : sl_At l mX9_digest 86 [(0, vR 0 0), (1, vL w1), (3, vR o3 0), (4, vI x4), (5, vI x5)] [] M Q := by
  refine sl_At.in (fun hM hls => ?_)
  have g4 : sl_rg x4 := hls _ (List.mem_of_getElem? (i := 3) rfl)
  have g5 : sl_rg x5 := hls _ (List.mem_of_getElem? (i := 4) rfl)
  have H := H hM g4 g5
  refine r_iload (k := 4) rfl dX9_digest_86 ?_
  refine r_aload_n (k := 2) rfl rfl dX9_digest_88 ?_
  refine r_getR (k := 8) (o' := o3) (i' := 9) ckX0 ho3 rfl (by decide) rfl rfl rfl fl_X9_225 dX9_digest_89 ?_
  refine r_iload (k := 3) rfl dX9_digest_92 ?_
  obtain ⟨c1, H⟩ := H
  refine r_iald ho3 rfl rfl c1 dX9_digest_94 ?_
  refine r_icmp_ge (tgt := 120) g5 (hM _ _ _) dX9_digest_95 (by decide) (fun h2 => ?_) (fun h2 => ?_)
  · have H := H.1 h2
    obtain ⟨c3, H⟩ := H
    refine r_iinc (k := 3) (ls' := [(4, vI (x4 + 1)), (0, vR 0 0), (1, vL w1), (3, vR o3 0), (5, vI x5)]) rfl c3 (by decide) rfl dX9_digest_120 ?_
    refine r_goto (tgt := 42) dX9_digest_123 (by decide) ?_
    exact sl_At.sub [1, 2, 3, 0] rfl H
  · have H := H.2 h2
    refine r_ldc2 (n := 31) cl_X9_223 dX9_digest_98 ?_
    refine r_lload_n (k := 1) rfl rfl dX9_digest_101 ?_
    refine r_lmul dX9_digest_102 ?_
    refine r_aload_n (k := 2) rfl rfl dX9_digest_103 ?_
    refine r_iload (k := 3) rfl dX9_digest_104 ?_
    refine r_iload (k := 4) rfl dX9_digest_106 ?_
    refine r_callV (g := mX0_symbol) ckX0 ho3 rfl rfl rfl mkX0_symbol mvX0_symbol ml_X9_103 ⟨by decide, by decide⟩ rfl (Nat.le_of_ble_eq_true rfl) rfl (ok_i g4 (ok_i g5 ok_n)) dX9_digest_108 (sl_afterI (sl_RI.mono (fun y5 M4 gy5 hM4 H => ?_) H))
    refine r_i2l dX9_digest_111 ?_
    refine r_ladd dX9_digest_112 ?_
    refine r_lstore_n (ls' := [(1, vL (((31 : Int64) * w1) + ((Int32.ofInt y5).toInt64))), (0, vR 0 0), (3, vR o3 0), (4, vI x4), (5, vI x5)]) rfl (by decide) rfl dX9_digest_113 ?_
    obtain ⟨c6, H⟩ := H
    refine r_iinc (k := 4) (ls' := [(5, vI (x5 + 1)), (1, vL (((31 : Int64) * w1) + ((Int32.ofInt y5).toInt64))), (0, vR 0 0), (3, vR o3 0), (4, vI x4)]) rfl c6 (by decide) rfl dX9_digest_114 ?_
    refine r_goto (tgt := 86) dX9_digest_117 (by decide) ?_
    exact sl_At.sub [2, 1, 3, 4, 0] rfl H
set_option maxHeartbeats 4000000 in
set_option maxRecDepth 10000 in
theorem vX9_digest_129 {l : Launch} {M : sl_M} {Q : sl_R} {w1 : Int64} {x4 : Int} (H : sl_RM M → sl_rg x4 → sl_RR l mX9_present [vR 0 0] M (fun p2 M1 => (sl_cls p2 = 7) ∧ ((M1 p2 0 2 ≤ x4) → Q (some (vL w1)) M1) ∧ ((¬ (M1 p2 0 2 ≤ x4)) → sl_At l mX9_digest 144 [(0, vR 0 0), (1, vL w1), (4, vI x4), (5, vI 0)] [] M1 Q))) : sl_At l mX9_digest 129 [(0, vR 0 0), (1, vL w1), (4, vI x4)] [] M Q := by
  refine sl_At.in (fun hM hls => ?_)
  have g4 : sl_rg x4 := hls _ (List.mem_of_getElem? (i := 2) rfl)
  have H := H hM g4
  refine r_iload (k := 2) rfl dX9_digest_129 ?_
  refine r_aload_n (k := 0) rfl rfl dX9_digest_131 ?_
  refine r_callV (g := mX9_present) ckX9 rfl rfl rfl rfl mkX9_present mvX9_present ml_X9_92 ⟨by decide, by decide⟩ rfl (Nat.le_of_ble_eq_true rfl) rfl ok_n dX9_digest_132 (sl_afterR (sl_RR.mono (fun p2 M1 hM1 H => ?_) H))
  obtain ⟨zp2, H⟩ := H
  refine r_gI (k := 2) (kz := 2) rfl ckX7 zp2 rfl (by decide) rfl rfl fl_X9_70 dX9_digest_135 ?_
  refine r_icmp_ge (tgt := 181) g4 (hM1 _ _ _) dX9_digest_138 (by decide) (fun h3 => ?_) (fun h3 => ?_)
  · have H := H.1 h3
    refine r_lload_n (k := 1) rfl rfl dX9_digest_181 ?_
    refine r_lret rfl dX9_digest_182 ?_
    exact H
  · have H := H.2 h3
    refine r_iconst dX9_digest_141 ?_
    refine r_istore (ls' := [(5, vI 0), (0, vR 0 0), (1, vL w1), (4, vI x4)]) ⟨by decide, by decide⟩ (by decide) rfl dX9_digest_142 ?_
    exact sl_At.sub [1, 2, 3, 0] rfl H
set_option maxHeartbeats 4000000 in
set_option maxRecDepth 10000 in
theorem vX9_digest_144 {l : Launch} {M : sl_M} {Q : sl_R} {w1 : Int64} {x4 x5 : Int} (H : sl_RM M → sl_rg x4 → sl_rg x5 → ((5 < x5) → (sl_rg (x4 + 1)) ∧ sl_At l mX9_digest 129 [(0, vR 0 0), (1, vL w1), (4, vI (x4 + 1))] [] M Q) ∧ ((¬ (5 < x5)) → sl_RR l mX9_present [vR 0 0] M (fun p4 M3 => (sl_cls p4 = 7) ∧ sl_RI l mX7_routineProperty [vR p4 0, vI x4, vI x5] M3 (fun y6 M5 => (sl_rg (x5 + 1)) ∧ sl_At l mX9_digest 144 [(0, vR 0 0), (1, vL (((31 : Int64) * w1) + ((Int32.ofInt y6).toInt64))), (4, vI x4), (5, vI (x5 + 1))] [] M5 Q)))) : sl_At l mX9_digest 144 [(0, vR 0 0), (1, vL w1), (4, vI x4), (5, vI x5)] [] M Q := by
  refine sl_At.in (fun hM hls => ?_)
  have g4 : sl_rg x4 := hls _ (List.mem_of_getElem? (i := 2) rfl)
  have g5 : sl_rg x5 := hls _ (List.mem_of_getElem? (i := 3) rfl)
  have H := H hM g4 g5
  refine r_iload (k := 3) rfl dX9_digest_144 ?_
  refine r_iconst dX9_digest_146 ?_
  refine r_icmp_gt (tgt := 175) g5 ⟨by decide, by decide⟩ dX9_digest_147 (by decide) (fun h1 => ?_) (fun h1 => ?_)
  · have H := H.1 h1
    obtain ⟨c2, H⟩ := H
    refine r_iinc (k := 2) (ls' := [(4, vI (x4 + 1)), (0, vR 0 0), (1, vL w1), (5, vI x5)]) rfl c2 (by decide) rfl dX9_digest_175 ?_
    refine r_goto (tgt := 129) dX9_digest_178 (by decide) ?_
    exact sl_At.sub [1, 2, 0] rfl H
  · have H := H.2 h1
    refine r_ldc2 (n := 31) cl_X9_223 dX9_digest_150 ?_
    refine r_lload_n (k := 1) rfl rfl dX9_digest_153 ?_
    refine r_lmul dX9_digest_154 ?_
    refine r_aload_n (k := 0) rfl rfl dX9_digest_155 ?_
    refine r_callV (g := mX9_present) ckX9 rfl rfl rfl rfl mkX9_present mvX9_present ml_X9_92 ⟨by decide, by decide⟩ rfl (Nat.le_of_ble_eq_true rfl) rfl ok_n dX9_digest_156 (sl_afterR (sl_RR.mono (fun p4 M3 hM3 H => ?_) H))
    obtain ⟨zp4, H⟩ := H
    refine r_iload (k := 2) rfl dX9_digest_159 ?_
    refine r_iload (k := 3) rfl dX9_digest_161 ?_
    refine r_callV (g := mX7_routineProperty) ckX7 zp4 rfl rfl rfl mkX7_routineProperty mvX7_routineProperty ml_X9_190 ⟨by decide, by decide⟩ rfl (Nat.le_of_ble_eq_true rfl) rfl (ok_i g4 (ok_i g5 ok_n)) dX9_digest_163 (sl_afterI (sl_RI.mono (fun y6 M5 gy6 hM5 H => ?_) H))
    refine r_i2l dX9_digest_166 ?_
    refine r_ladd dX9_digest_167 ?_
    refine r_lstore_n (ls' := [(1, vL (((31 : Int64) * w1) + ((Int32.ofInt y6).toInt64))), (0, vR 0 0), (4, vI x4), (5, vI x5)]) rfl (by decide) rfl dX9_digest_168 ?_
    obtain ⟨c7, H⟩ := H
    refine r_iinc (k := 3) (ls' := [(5, vI (x5 + 1)), (1, vL (((31 : Int64) * w1) + ((Int32.ofInt y6).toInt64))), (0, vR 0 0), (4, vI x4)]) rfl c7 (by decide) rfl dX9_digest_169 ?_
    refine r_goto (tgt := 144) dX9_digest_172 (by decide) ?_
    exact sl_At.sub [2, 1, 3, 0] rfl H
theorem eX9_digest {l : Launch} {M : sl_M} {Q : sl_R}  (k : sl_At l mX9_digest 0 [(0, vR 0 0)] [] M Q) : sl_Runs l mX9_digest [vR 0 0] M Q := sl_Runs.of (ls := [(0, vR 0 0)]) rfl rfl (fun _ => rfl) (fun _ => Nat.le_of_ble_eq_true rfl) rfl (k)
theorem dX9_refuse_0 : decode cX9_refuse 0 = .ok (.bipush (-2), 2) := by decide +kernel
theorem dX9_refuse_2 : decode cX9_refuse 2 = .ok (.iload_n 1, 1) := by decide +kernel
theorem dX9_refuse_3 : decode cX9_refuse 3 = .ok (.isub, 1) := by decide +kernel
theorem dX9_refuse_4 : decode cX9_refuse 4 = .ok (.istore_n 2, 1) := by decide +kernel
theorem dX9_refuse_5 : decode cX9_refuse 5 = .ok (.iload_n 2, 1) := by decide +kernel
theorem dX9_refuse_6 : decode cX9_refuse 6 = .ok (.ifCond .lt 22, 3) := by decide +kernel
theorem dX9_refuse_9 : decode cX9_refuse 9 = .ok (.iload_n 2, 1) := by decide +kernel
theorem dX9_refuse_10 : decode cX9_refuse 10 = .ok (.aload_n 0, 1) := by decide +kernel
theorem dX9_refuse_11 : decode cX9_refuse 11 = .ok (.getfield 13, 3) := by decide +kernel
theorem dX9_refuse_14 : decode cX9_refuse 14 = .ok (.arraylength, 1) := by decide +kernel
theorem dX9_refuse_15 : decode cX9_refuse 15 = .ok (.if_icmp .ge 13, 3) := by decide +kernel
theorem dX9_refuse_18 : decode cX9_refuse 18 = .ok (.aload_n 0, 1) := by decide +kernel
theorem dX9_refuse_19 : decode cX9_refuse 19 = .ok (.getfield 13, 3) := by decide +kernel
theorem dX9_refuse_22 : decode cX9_refuse 22 = .ok (.iload_n 2, 1) := by decide +kernel
theorem dX9_refuse_23 : decode cX9_refuse 23 = .ok (.dup2, 1) := by decide +kernel
theorem dX9_refuse_24 : decode cX9_refuse 24 = .ok (.iaload, 1) := by decide +kernel
theorem dX9_refuse_25 : decode cX9_refuse 25 = .ok (.iconst 1, 1) := by decide +kernel
theorem dX9_refuse_26 : decode cX9_refuse 26 = .ok (.iadd, 1) := by decide +kernel
theorem dX9_refuse_27 : decode cX9_refuse 27 = .ok (.iastore, 1) := by decide +kernel
theorem dX9_refuse_28 : decode cX9_refuse 28 = .ok (.iload_n 1, 1) := by decide +kernel
theorem dX9_refuse_29 : decode cX9_refuse 29 = .ok (.ireturn, 1) := by decide +kernel
set_option maxHeartbeats 4000000 in
set_option maxRecDepth 10000 in
theorem vX9_refuse_0 {l : Launch} {M : sl_M} {Q : sl_R} {x1 : Int} (H : sl_RM M → sl_rg x1 → (sl_rg ((-2) - x1)) ∧ (∀ y2 : Int, y2 = (-2) - x1 → ((y2 < 0) → Q (some (vI x1)) M) ∧ ((¬ (y2 < 0)) → ((3 ≤ y2) → Q (some (vI x1)) M) ∧ ((¬ (3 ≤ y2)) → (0 ≤ y2 ∧ y2 < 3) ∧ (sl_rg (M 0 3 y2 + 1)) ∧ (∀ M7, M7 = sl_wr M 0 3 y2 (M 0 3 y2 + 1) → Q (some (vI x1)) M7))))) : sl_At l mX9_refuse 0 [(0, vR 0 0), (1, vI x1)] [] M Q := by
  refine sl_At.in (fun hM hls => ?_)
  have g1 : sl_rg x1 := hls _ (List.mem_of_getElem? (i := 1) rfl)
  have H := H hM g1
  refine r_bipush dX9_refuse_0 (by decide) ?_
  refine r_iload_n (k := 1) rfl rfl dX9_refuse_2 ?_
  refine r_isub dX9_refuse_3 ?_
  obtain ⟨c1, H⟩ := H
  refine r_nm (fun y2 fy2 => ?_)
  have H := H y2 fy2
  have gy2 : sl_rg y2 := by rw [fy2]; exact c1
  refine r_istore_n (ls' := [(2, vI y2), (0, vR 0 0), (1, vI x1)]) gy2 rfl (by decide) rfl dX9_refuse_4 ?_
  refine r_iload_n (k := 0) rfl rfl dX9_refuse_5 ?_
  refine r_if_lt (tgt := 28) gy2 dX9_refuse_6 (by decide) (fun h3 => ?_) (fun h3 => ?_)
  · have H := H.1 h3
    refine r_iload_n (k := 2) rfl rfl dX9_refuse_28 ?_
    refine r_iret rfl g1 dX9_refuse_29 ?_
    exact H
  · have H := H.2 h3
    refine r_iload_n (k := 0) rfl rfl dX9_refuse_9 ?_
    refine r_aload_n (k := 1) rfl rfl dX9_refuse_10 ?_
    refine r_getR (k := 2) (o' := 0) (i' := 3) ckX9 rfl rfl (by decide) rfl rfl rfl fl_X9_13 dX9_refuse_11 ?_
    refine r_aL (n := 3) (nz := 3) rfl rfl rfl rfl rfl dX9_refuse_14 ?_
    refine r_icmp_ge (tgt := 28) gy2 ⟨by decide, by decide⟩ dX9_refuse_15 (by decide) (fun h4 => ?_) (fun h4 => ?_)
    · have H := H.1 h4
      refine r_iload_n (k := 2) rfl rfl dX9_refuse_28 ?_
      refine r_iret rfl g1 dX9_refuse_29 ?_
      exact H
    · have H := H.2 h4
      refine r_aload_n (k := 1) rfl rfl dX9_refuse_18 ?_
      refine r_getR (k := 2) (o' := 0) (i' := 3) ckX9 rfl rfl (by decide) rfl rfl rfl fl_X9_13 dX9_refuse_19 ?_
      refine r_iload_n (k := 0) rfl rfl dX9_refuse_22 ?_
      refine r_dup2 rfl rfl dX9_refuse_23 ?_
      obtain ⟨c5, H⟩ := H
      refine r_iald rfl rfl rfl c5 dX9_refuse_24 ?_
      refine r_iconst dX9_refuse_25 ?_
      refine r_iadd dX9_refuse_26 ?_
      obtain ⟨c6, H⟩ := H
      refine r_iast rfl rfl rfl c5 c6 dX9_refuse_27 ?_
      refine r_mm (fun M7 e7 => ?_)
      have H := H M7 e7
      have hM7 : sl_RM M7 := by rw [e7]; exact sl_wr_RM hM c6
      refine r_iload_n (k := 2) rfl rfl dX9_refuse_28 ?_
      refine r_iret rfl g1 dX9_refuse_29 ?_
      exact H
theorem eX9_refuse {l : Launch} {M : sl_M} {Q : sl_R} {x1 : Int} (k : sl_At l mX9_refuse 0 [(0, vR 0 0), (1, vI x1)] [] M Q) : sl_Runs l mX9_refuse [vR 0 0, vI x1] M Q := sl_Runs.of (ls := [(0, vR 0 0), (1, vI x1)]) rfl rfl (fun _ => rfl) (fun _ => Nat.le_of_ble_eq_true rfl) rfl (k)
theorem dX9_tally_0 : decode cX9_tally 0 = .ok (.iload_n 1, 1) := by decide +kernel
theorem dX9_tally_1 : decode cX9_tally 1 = .ok (.tableswitch 60 3 6 #[31, 36, 47, 55], 31) := by decide +kernel
theorem dX9_tally_32 : decode cX9_tally 32 = .ok (.aload_n 0, 1) := by decide +kernel
theorem dX9_tally_33 : decode cX9_tally 33 = .ok (.getfield 62, 3) := by decide +kernel
theorem dX9_tally_36 : decode cX9_tally 36 = .ok (.ireturn, 1) := by decide +kernel
theorem dX9_tally_37 : decode cX9_tally 37 = .ok (.aload_n 0, 1) := by decide +kernel
theorem dX9_tally_38 : decode cX9_tally 38 = .ok (.invokevirtual 92, 3) := by decide +kernel
theorem dX9_tally_41 : decode cX9_tally 41 = .ok (.getfield 73, 3) := by decide +kernel
theorem dX9_tally_44 : decode cX9_tally 44 = .ok (.getfield 87, 3) := by decide +kernel
theorem dX9_tally_47 : decode cX9_tally 47 = .ok (.ireturn, 1) := by decide +kernel
theorem dX9_tally_48 : decode cX9_tally 48 = .ok (.aload_n 0, 1) := by decide +kernel
theorem dX9_tally_49 : decode cX9_tally 49 = .ok (.invokevirtual 92, 3) := by decide +kernel
theorem dX9_tally_52 : decode cX9_tally 52 = .ok (.getfield 70, 3) := by decide +kernel
theorem dX9_tally_55 : decode cX9_tally 55 = .ok (.ireturn, 1) := by decide +kernel
theorem dX9_tally_56 : decode cX9_tally 56 = .ok (.aload_n 0, 1) := by decide +kernel
theorem dX9_tally_57 : decode cX9_tally 57 = .ok (.getfield 211, 3) := by decide +kernel
theorem dX9_tally_60 : decode cX9_tally 60 = .ok (.ireturn, 1) := by decide +kernel
theorem dX9_tally_61 : decode cX9_tally 61 = .ok (.iload_n 1, 1) := by decide +kernel
theorem dX9_tally_62 : decode cX9_tally 62 = .ok (.ifCond .lt 21, 3) := by decide +kernel
theorem dX9_tally_65 : decode cX9_tally 65 = .ok (.iload_n 1, 1) := by decide +kernel
theorem dX9_tally_66 : decode cX9_tally 66 = .ok (.aload_n 0, 1) := by decide +kernel
theorem dX9_tally_67 : decode cX9_tally 67 = .ok (.getfield 13, 3) := by decide +kernel
theorem dX9_tally_70 : decode cX9_tally 70 = .ok (.arraylength, 1) := by decide +kernel
theorem dX9_tally_71 : decode cX9_tally 71 = .ok (.if_icmp .ge 12, 3) := by decide +kernel
theorem dX9_tally_74 : decode cX9_tally 74 = .ok (.aload_n 0, 1) := by decide +kernel
theorem dX9_tally_75 : decode cX9_tally 75 = .ok (.getfield 13, 3) := by decide +kernel
theorem dX9_tally_78 : decode cX9_tally 78 = .ok (.iload_n 1, 1) := by decide +kernel
theorem dX9_tally_79 : decode cX9_tally 79 = .ok (.iaload, 1) := by decide +kernel
theorem dX9_tally_80 : decode cX9_tally 80 = .ok (.goto 4, 3) := by decide +kernel
theorem dX9_tally_83 : decode cX9_tally 83 = .ok (.iconst 0, 1) := by decide +kernel
theorem dX9_tally_84 : decode cX9_tally 84 = .ok (.ireturn, 1) := by decide +kernel
set_option maxHeartbeats 4000000 in
set_option maxRecDepth 10000 in
theorem vX9_tally_0 {l : Launch} {M : sl_M} {Q : sl_R} {x1 : Int} (H : sl_RM M → sl_rg x1 → ((x1 = 3) → Q (some (vI (M 0 0 1))) M) ∧ ((x1 = 4) → sl_RR l mX9_present [vR 0 0] M (fun p2 M1 => (sl_cls p2 = 7) ∧ Q (some (vI (M1 (p2 + 10) 0 11))) M1)) ∧ ((x1 = 5) → sl_RR l mX9_present [vR 0 0] M (fun p4 M3 => (sl_cls p4 = 7) ∧ Q (some (vI (M3 p4 0 2))) M3)) ∧ ((x1 = 6) → Q (some (vI (M 0 0 5))) M) ∧ ((¬ (x1 = 3) ∧ ¬ (x1 = 4) ∧ ¬ (x1 = 5) ∧ ¬ (x1 = 6)) → ((x1 < 0) → Q (some (vI 0)) M) ∧ ((¬ (x1 < 0)) → (((¬ (3 ≤ x1)) → (0 ≤ x1 ∧ x1 < 3))) ∧ Q (some (vI (if 3 ≤ x1 then 0 else M 0 3 x1))) M))) : sl_At l mX9_tally 0 [(0, vR 0 0), (1, vI x1)] [] M Q := by
  refine sl_At.in (fun hM hls => ?_)
  have g1 : sl_rg x1 := hls _ (List.mem_of_getElem? (i := 1) rfl)
  have H := H hM g1
  refine r_iload_n (k := 1) rfl rfl dX9_tally_0 ?_
  by_cases h8 : x1 = 3
  · refine r_tsIn (tgt := 32) 0 g1 dX9_tally_1 (by omega) (by decide) rfl (by decide) ?_
    have H := H.1 (by omega)
    refine r_aload_n (k := 0) rfl rfl dX9_tally_32 ?_
    refine r_gI (k := 1) (kz := 1) rfl ckX9 rfl rfl (by decide) rfl rfl fl_X9_62 dX9_tally_33 ?_
    refine r_iret rfl (hM _ _ _) dX9_tally_36 ?_
    exact H
  by_cases h9 : x1 = 4
  · refine r_tsIn (tgt := 37) 1 g1 dX9_tally_1 (by omega) (by decide) rfl (by decide) ?_
    have H := H.2.1 (by omega)
    refine r_aload_n (k := 0) rfl rfl dX9_tally_37 ?_
    refine r_callV (g := mX9_present) ckX9 rfl rfl rfl rfl mkX9_present mvX9_present ml_X9_92 ⟨by decide, by decide⟩ rfl (Nat.le_of_ble_eq_true rfl) rfl ok_n dX9_tally_38 (sl_afterR (sl_RR.mono (fun p2 M1 hM1 H => ?_) H))
    obtain ⟨zp2, H⟩ := H
    refine r_getR (k := 0) (o' := p2 + 10) (i' := 0) ckX7 zp2 rfl (by decide) rfl rfl rfl fl_X9_73 dX9_tally_41 ?_
    refine r_gI (k := 11) (kz := 11) rfl ckX0 (cl_prog zp2) rfl (by decide) rfl rfl fl_X9_87 dX9_tally_44 ?_
    refine r_iret rfl (hM1 _ _ _) dX9_tally_47 ?_
    exact H
  by_cases h10 : x1 = 5
  · refine r_tsIn (tgt := 48) 2 g1 dX9_tally_1 (by omega) (by decide) rfl (by decide) ?_
    have H := H.2.2.1 (by omega)
    refine r_aload_n (k := 0) rfl rfl dX9_tally_48 ?_
    refine r_callV (g := mX9_present) ckX9 rfl rfl rfl rfl mkX9_present mvX9_present ml_X9_92 ⟨by decide, by decide⟩ rfl (Nat.le_of_ble_eq_true rfl) rfl ok_n dX9_tally_49 (sl_afterR (sl_RR.mono (fun p4 M3 hM3 H => ?_) H))
    obtain ⟨zp4, H⟩ := H
    refine r_gI (k := 2) (kz := 2) rfl ckX7 zp4 rfl (by decide) rfl rfl fl_X9_70 dX9_tally_52 ?_
    refine r_iret rfl (hM3 _ _ _) dX9_tally_55 ?_
    exact H
  by_cases h11 : x1 = 6
  · refine r_tsIn (tgt := 56) 3 g1 dX9_tally_1 (by omega) (by decide) rfl (by decide) ?_
    have H := H.2.2.2.1 (by omega)
    refine r_aload_n (k := 0) rfl rfl dX9_tally_56 ?_
    refine r_gI (k := 5) (kz := 5) rfl ckX9 rfl rfl (by decide) rfl rfl fl_X9_211 dX9_tally_57 ?_
    refine r_iret rfl (hM _ _ _) dX9_tally_60 ?_
    exact H
  refine r_tsOut (tgt := 61) g1 dX9_tally_1 (by omega) (by decide) ?_
  have H := H.2.2.2.2 (by omega)
  refine r_iload_n (k := 1) rfl rfl dX9_tally_61 ?_
  refine r_if_lt (tgt := 83) g1 dX9_tally_62 (by decide) (fun h5 => ?_) (fun h5 => ?_)
  · have H := H.1 h5
    refine r_iconst dX9_tally_83 ?_
    refine r_iret rfl ⟨by decide, by decide⟩ dX9_tally_84 ?_
    exact H
  · have H := H.2 h5
    refine r_iload_n (k := 1) rfl rfl dX9_tally_65 ?_
    refine r_aload_n (k := 0) rfl rfl dX9_tally_66 ?_
    refine r_getR (k := 2) (o' := 0) (i' := 3) ckX9 rfl rfl (by decide) rfl rfl rfl fl_X9_13 dX9_tally_67 ?_
    refine r_aL (n := 3) (nz := 3) rfl rfl rfl rfl rfl dX9_tally_70 ?_
    obtain ⟨K, H⟩ := H
    have J : sl_At l mX9_tally 84 [(0, vR 0 0), (1, vI x1)] [vI (if 3 ≤ x1 then 0 else M 0 3 x1)] M Q := by
      refine r_iret rfl (sl_rgite ⟨by decide, by decide⟩ (hM _ _ _)) dX9_tally_84 ?_
      exact H
    refine r_icmp_ge (tgt := 83) g1 ⟨by decide, by decide⟩ dX9_tally_71 (by decide) (fun h7 => ?_) (fun h7 => ?_)
    · refine r_iconst dX9_tally_83 ?_
      rw [if_pos h7] at J
      exact J
    · replace K := K h7
      have c6 := K
      refine r_aload_n (k := 0) rfl rfl dX9_tally_74 ?_
      refine r_getR (k := 2) (o' := 0) (i' := 3) ckX9 rfl rfl (by decide) rfl rfl rfl fl_X9_13 dX9_tally_75 ?_
      refine r_iload_n (k := 1) rfl rfl dX9_tally_78 ?_
      refine r_iald rfl rfl rfl c6 dX9_tally_79 ?_
      refine r_goto (tgt := 84) dX9_tally_80 (by decide) ?_
      rw [if_neg h7] at J
      exact J
theorem eX9_tally {l : Launch} {M : sl_M} {Q : sl_R} {x1 : Int} (k : sl_At l mX9_tally 0 [(0, vR 0 0), (1, vI x1)] [] M Q) : sl_Runs l mX9_tally [vR 0 0, vI x1] M Q := sl_Runs.of (ls := [(0, vR 0 0), (1, vI x1)]) rfl rfl (fun _ => rfl) (fun _ => Nat.le_of_ble_eq_true rfl) rfl (k)
theorem dX9_present_0 : decode cX9_present 0 = .ok (.aload_n 0, 1) := by decide +kernel
theorem dX9_present_1 : decode cX9_present 1 = .ok (.getfield 18, 3) := by decide +kernel
theorem dX9_present_4 : decode cX9_present 4 = .ok (.aload_n 0, 1) := by decide +kernel
theorem dX9_present_5 : decode cX9_present 5 = .ok (.getfield 214, 3) := by decide +kernel
theorem dX9_present_8 : decode cX9_present 8 = .ok (.aaload, 1) := by decide +kernel
theorem dX9_present_9 : decode cX9_present 9 = .ok (.areturn, 1) := by decide +kernel
set_option maxHeartbeats 4000000 in
set_option maxRecDepth 10000 in
theorem vX9_present_0 {l : Launch} {M : sl_M} {Q : sl_R} (H : sl_RM M → (0 ≤ M 0 0 4 ∧ M 0 0 4 < 8) ∧ Q (some (vR (10 + (M 0 0 4).toNat) 0)) M) : sl_At l mX9_present 0 [(0, vR 0 0)] [] M Q := by
  refine sl_At.in (fun hM hls => ?_)
  have H := H hM
  refine r_aload_n (k := 0) rfl rfl dX9_present_0 ?_
  refine r_getR (k := 3) (o' := 0) (i' := 4) ckX9 rfl rfl (by decide) rfl rfl rfl fl_X9_18 dX9_present_1 ?_
  refine r_aload_n (k := 0) rfl rfl dX9_present_4 ?_
  refine r_gI (k := 4) (kz := 4) rfl ckX9 rfl rfl (by decide) rfl rfl fl_X9_214 dX9_present_5 ?_
  obtain ⟨c1, H⟩ := H
  refine r_aaldS rfl c1 dX9_present_8 ?_
  refine r_aret rfl dX9_present_9 ?_
  exact H
theorem eX9_present {l : Launch} {M : sl_M} {Q : sl_R}  (k : sl_At l mX9_present 0 [(0, vR 0 0)] [] M Q) : sl_Runs l mX9_present [vR 0 0] M Q := sl_Runs.of (ls := [(0, vR 0 0)]) rfl rfl (fun _ => rfl) (fun _ => Nat.le_of_ble_eq_true rfl) rfl (k)
theorem dX9_spare_0 : decode cX9_spare 0 = .ok (.aload_n 0, 1) := by decide +kernel
theorem dX9_spare_1 : decode cX9_spare 1 = .ok (.getfield 18, 3) := by decide +kernel
theorem dX9_spare_4 : decode cX9_spare 4 = .ok (.aload_n 0, 1) := by decide +kernel
theorem dX9_spare_5 : decode cX9_spare 5 = .ok (.getfield 214, 3) := by decide +kernel
theorem dX9_spare_8 : decode cX9_spare 8 = .ok (.iconst 1, 1) := by decide +kernel
theorem dX9_spare_9 : decode cX9_spare 9 = .ok (.iadd, 1) := by decide +kernel
theorem dX9_spare_10 : decode cX9_spare 10 = .ok (.bipush 8, 2) := by decide +kernel
theorem dX9_spare_12 : decode cX9_spare 12 = .ok (.irem, 1) := by decide +kernel
theorem dX9_spare_13 : decode cX9_spare 13 = .ok (.aaload, 1) := by decide +kernel
theorem dX9_spare_14 : decode cX9_spare 14 = .ok (.areturn, 1) := by decide +kernel
set_option maxHeartbeats 4000000 in
set_option maxRecDepth 10000 in
theorem vX9_spare_0 {l : Launch} {M : sl_M} {Q : sl_R} (H : sl_RM M → (0 ≤ irem (M 0 0 4 + 1) 8 ∧ irem (M 0 0 4 + 1) 8 < 8) ∧ Q (some (vR (10 + (irem (M 0 0 4 + 1) 8).toNat) 0)) M) : sl_At l mX9_spare 0 [(0, vR 0 0)] [] M Q := by
  refine sl_At.in (fun hM hls => ?_)
  have H := H hM
  refine r_aload_n (k := 0) rfl rfl dX9_spare_0 ?_
  refine r_getR (k := 3) (o' := 0) (i' := 4) ckX9 rfl rfl (by decide) rfl rfl rfl fl_X9_18 dX9_spare_1 ?_
  refine r_aload_n (k := 0) rfl rfl dX9_spare_4 ?_
  refine r_gI (k := 4) (kz := 4) rfl ckX9 rfl rfl (by decide) rfl rfl fl_X9_214 dX9_spare_5 ?_
  refine r_iconst dX9_spare_8 ?_
  refine r_iadd dX9_spare_9 ?_
  refine r_bipush dX9_spare_10 (by decide) ?_
  refine r_irem ⟨by decide, by decide⟩ (by decide) dX9_spare_12 ?_
  obtain ⟨c1, H⟩ := H
  refine r_aaldS rfl c1 dX9_spare_13 ?_
  refine r_aret rfl dX9_spare_14 ?_
  exact H
theorem eX9_spare {l : Launch} {M : sl_M} {Q : sl_R}  (k : sl_At l mX9_spare 0 [(0, vR 0 0)] [] M Q) : sl_Runs l mX9_spare [vR 0 0] M Q := sl_Runs.of (ls := [(0, vR 0 0)]) rfl rfl (fun _ => rfl) (fun _ => Nat.le_of_ble_eq_true rfl) rfl (k)
theorem dX9_advance_0 : decode cX9_advance 0 = .ok (.aload_n 0, 1) := by decide +kernel
theorem dX9_advance_1 : decode cX9_advance 1 = .ok (.aload_n 0, 1) := by decide +kernel
theorem dX9_advance_2 : decode cX9_advance 2 = .ok (.getfield 214, 3) := by decide +kernel
theorem dX9_advance_5 : decode cX9_advance 5 = .ok (.iconst 1, 1) := by decide +kernel
theorem dX9_advance_6 : decode cX9_advance 6 = .ok (.iadd, 1) := by decide +kernel
theorem dX9_advance_7 : decode cX9_advance 7 = .ok (.bipush 8, 2) := by decide +kernel
theorem dX9_advance_9 : decode cX9_advance 9 = .ok (.irem, 1) := by decide +kernel
theorem dX9_advance_10 : decode cX9_advance 10 = .ok (.putfield 214, 3) := by decide +kernel
theorem dX9_advance_13 : decode cX9_advance 13 = .ok (.aload_n 0, 1) := by decide +kernel
theorem dX9_advance_14 : decode cX9_advance 14 = .ok (.aload_n 0, 1) := by decide +kernel
theorem dX9_advance_15 : decode cX9_advance 15 = .ok (.getfield 211, 3) := by decide +kernel
theorem dX9_advance_18 : decode cX9_advance 18 = .ok (.iconst 1, 1) := by decide +kernel
theorem dX9_advance_19 : decode cX9_advance 19 = .ok (.iadd, 1) := by decide +kernel
theorem dX9_advance_20 : decode cX9_advance 20 = .ok (.bipush 6, 2) := by decide +kernel
theorem dX9_advance_22 : decode cX9_advance 22 = .ok (.invokestatic 228, 3) := by decide +kernel
theorem dX9_advance_25 : decode cX9_advance 25 = .ok (.putfield 211, 3) := by decide +kernel
theorem dX9_advance_28 : decode cX9_advance 28 = .ok (.aload_n 0, 1) := by decide +kernel
theorem dX9_advance_29 : decode cX9_advance 29 = .ok (.getfield 39, 3) := by decide +kernel
theorem dX9_advance_32 : decode cX9_advance 32 = .ok (.invokevirtual 217, 3) := by decide +kernel
theorem dX9_advance_35 : decode cX9_advance 35 = .ok (.return_, 1) := by decide +kernel
set_option maxHeartbeats 4000000 in
set_option maxRecDepth 10000 in
theorem vX9_advance_0 {l : Launch} {M : sl_M} {Q : sl_R} (H : sl_RM M → (∀ M1, M1 = sl_wr M 0 0 4 (irem (M 0 0 4 + 1) 8) → (sl_rg (M1 0 0 5 + 1)) ∧ (∀ M3, M3 = sl_wr M1 0 0 5 (min (M1 0 0 5 + 1) 6) → sl_RV l mX1_forget [vR 6 0] M3 (fun M4 => Q none M4)))) : sl_At l mX9_advance 0 [(0, vR 0 0)] [] M Q := by
  refine sl_At.in (fun hM hls => ?_)
  have H := H hM
  refine r_aload_n (k := 0) rfl rfl dX9_advance_0 ?_
  refine r_aload_n (k := 0) rfl rfl dX9_advance_1 ?_
  refine r_gI (k := 4) (kz := 4) rfl ckX9 rfl rfl (by decide) rfl rfl fl_X9_214 dX9_advance_2 ?_
  refine r_iconst dX9_advance_5 ?_
  refine r_iadd dX9_advance_6 ?_
  refine r_bipush dX9_advance_7 (by decide) ?_
  refine r_irem ⟨by decide, by decide⟩ (by decide) dX9_advance_9 ?_
  refine r_pI (k := 4) (kz := 4) rfl ckX9 rfl rfl (by decide) rfl rfl rfl rfl fl_X9_214 (rg_irem _ _) dX9_advance_10 ?_
  refine r_mm (fun M1 e1 => ?_)
  have H := H M1 e1
  have hM1 : sl_RM M1 := by rw [e1]; exact sl_wr_RM hM (rg_irem _ _)
  refine r_aload_n (k := 0) rfl rfl dX9_advance_13 ?_
  refine r_aload_n (k := 0) rfl rfl dX9_advance_14 ?_
  refine r_gI (k := 5) (kz := 5) rfl ckX9 rfl rfl (by decide) rfl rfl fl_X9_211 dX9_advance_15 ?_
  refine r_iconst dX9_advance_18 ?_
  refine r_iadd dX9_advance_19 ?_
  refine r_bipush dX9_advance_20 (by decide) ?_
  obtain ⟨c2, H⟩ := H
  refine r_min c2 ⟨by decide, by decide⟩ ml_X9_228 w_min1 w_min2 w_min3 ⟨by decide, Nat.le_of_ble_eq_true rfl⟩ dX9_advance_22 ?_
  refine r_pI (k := 5) (kz := 5) rfl ckX9 rfl rfl (by decide) rfl rfl rfl rfl fl_X9_211 (sl_rgmin c2 ⟨by decide, by decide⟩) dX9_advance_25 ?_
  refine r_mm (fun M3 e3 => ?_)
  have H := H M3 e3
  have hM3 : sl_RM M3 := by rw [e3]; exact sl_wr_RM hM1 (sl_rgmin c2 ⟨by decide, by decide⟩)
  refine r_aload_n (k := 0) rfl rfl dX9_advance_28 ?_
  refine r_getR (k := 8) (o' := 6) (i' := 0) ckX9 rfl rfl (by decide) rfl rfl rfl fl_X9_39 dX9_advance_29 ?_
  refine r_callV (g := mX1_forget) ckX1 rfl rfl rfl rfl mkX1_forget mvX1_forget ml_X9_217 ⟨by decide, by decide⟩ rfl (Nat.le_of_ble_eq_true rfl) rfl ok_n dX9_advance_32 (sl_afterV (sl_RV.mono (fun M4 hM4 H => ?_) H))
  refine r_vret rfl dX9_advance_35 ?_
  exact H
theorem eX9_advance {l : Launch} {M : sl_M} {Q : sl_R}  (k : sl_At l mX9_advance 0 [(0, vR 0 0)] [] M Q) : sl_Runs l mX9_advance [vR 0 0] M Q := sl_Runs.of (ls := [(0, vR 0 0)]) rfl rfl (fun _ => rfl) (fun _ => Nat.le_of_ble_eq_true rfl) rfl (k)
theorem dX9_choose_0 : decode cX9_choose 0 = .ok (.aload_n 0, 1) := by decide +kernel
theorem dX9_choose_1 : decode cX9_choose 1 = .ok (.invokevirtual 92, 3) := by decide +kernel
theorem dX9_choose_4 : decode cX9_choose 4 = .ok (.getfield 73, 3) := by decide +kernel
theorem dX9_choose_7 : decode cX9_choose 7 = .ok (.iload_n 1, 1) := by decide +kernel
theorem dX9_choose_8 : decode cX9_choose 8 = .ok (.iload_n 2, 1) := by decide +kernel
theorem dX9_choose_9 : decode cX9_choose 9 = .ok (.invokevirtual 233, 3) := by decide +kernel
theorem dX9_choose_12 : decode cX9_choose 12 = .ok (.ifCond .ne 5, 3) := by decide +kernel
theorem dX9_choose_15 : decode cX9_choose 15 = .ok (.iconst 0, 1) := by decide +kernel
theorem dX9_choose_16 : decode cX9_choose 16 = .ok (.ireturn, 1) := by decide +kernel
theorem dX9_choose_17 : decode cX9_choose 17 = .ok (.aload_n 0, 1) := by decide +kernel
theorem dX9_choose_18 : decode cX9_choose 18 = .ok (.getfield 39, 3) := by decide +kernel
theorem dX9_choose_21 : decode cX9_choose 21 = .ok (.aload_n 0, 1) := by decide +kernel
theorem dX9_choose_22 : decode cX9_choose 22 = .ok (.invokevirtual 92, 3) := by decide +kernel
theorem dX9_choose_25 : decode cX9_choose 25 = .ok (.invokevirtual 160, 3) := by decide +kernel
theorem dX9_choose_28 : decode cX9_choose 28 = .ok (.aload_n 0, 1) := by decide +kernel
theorem dX9_choose_29 : decode cX9_choose 29 = .ok (.getfield 39, 3) := by decide +kernel
theorem dX9_choose_32 : decode cX9_choose 32 = .ok (.aload_n 0, 1) := by decide +kernel
theorem dX9_choose_33 : decode cX9_choose 33 = .ok (.getfield 46, 3) := by decide +kernel
theorem dX9_choose_36 : decode cX9_choose 36 = .ok (.iload_n 1, 1) := by decide +kernel
theorem dX9_choose_37 : decode cX9_choose 37 = .ok (.iload_n 2, 1) := by decide +kernel
theorem dX9_choose_38 : decode cX9_choose 38 = .ok (.invokevirtual 236, 3) := by decide +kernel
theorem dX9_choose_41 : decode cX9_choose 41 = .ok (.iconst 1, 1) := by decide +kernel
theorem dX9_choose_42 : decode cX9_choose 42 = .ok (.ireturn, 1) := by decide +kernel
set_option maxHeartbeats 4000000 in
set_option maxRecDepth 10000 in
theorem vX9_choose_0 {l : Launch} {M : sl_M} {Q : sl_R} {x1 x2 : Int} (H : sl_RM M → sl_rg x1 → sl_rg x2 → sl_RR l mX9_present [vR 0 0] M (fun p2 M1 => (sl_cls p2 = 7) ∧ sl_RI l mX0_isSpan [vR (p2 + 10) 0, vI x1, vI x2] M1 (fun y4 M3 => ((y4 ≠ 0) → sl_RR l mX9_present [vR 0 0] M3 (fun p7 M6 => (sl_cls p7 = 7) ∧ sl_RV l mX1_study [vR 6 0, vR p7 0] M6 (fun M8 => sl_RV l mX1_examine [vR 6 0, vR 7 0, vI x1, vI x2] M8 (fun M9 => Q (some (vI 1)) M9)))) ∧ ((¬ (y4 ≠ 0)) → Q (some (vI 0)) M3)))) : sl_At l mX9_choose 0 [(0, vR 0 0), (1, vI x1), (2, vI x2)] [] M Q := by
  refine sl_At.in (fun hM hls => ?_)
  have g1 : sl_rg x1 := hls _ (List.mem_of_getElem? (i := 1) rfl)
  have g2 : sl_rg x2 := hls _ (List.mem_of_getElem? (i := 2) rfl)
  have H := H hM g1 g2
  refine r_aload_n (k := 0) rfl rfl dX9_choose_0 ?_
  refine r_callV (g := mX9_present) ckX9 rfl rfl rfl rfl mkX9_present mvX9_present ml_X9_92 ⟨by decide, by decide⟩ rfl (Nat.le_of_ble_eq_true rfl) rfl ok_n dX9_choose_1 (sl_afterR (sl_RR.mono (fun p2 M1 hM1 H => ?_) H))
  obtain ⟨zp2, H⟩ := H
  refine r_getR (k := 0) (o' := p2 + 10) (i' := 0) ckX7 zp2 rfl (by decide) rfl rfl rfl fl_X9_73 dX9_choose_4 ?_
  refine r_iload_n (k := 1) rfl rfl dX9_choose_7 ?_
  refine r_iload_n (k := 2) rfl rfl dX9_choose_8 ?_
  refine r_callV (g := mX0_isSpan) ckX0 (cl_prog zp2) rfl rfl rfl mkX0_isSpan mvX0_isSpan ml_X9_233 ⟨by decide, by decide⟩ rfl (Nat.le_of_ble_eq_true rfl) rfl (ok_i g1 (ok_i g2 ok_n)) dX9_choose_9 (sl_afterI (sl_RI.mono (fun y4 M3 gy4 hM3 H => ?_) H))
  refine r_if_ne (tgt := 17) gy4 dX9_choose_12 (by decide) (fun h5 => ?_) (fun h5 => ?_)
  · have H := H.1 h5
    refine r_aload_n (k := 0) rfl rfl dX9_choose_17 ?_
    refine r_getR (k := 8) (o' := 6) (i' := 0) ckX9 rfl rfl (by decide) rfl rfl rfl fl_X9_39 dX9_choose_18 ?_
    refine r_aload_n (k := 0) rfl rfl dX9_choose_21 ?_
    refine r_callV (g := mX9_present) ckX9 rfl rfl rfl rfl mkX9_present mvX9_present ml_X9_92 ⟨by decide, by decide⟩ rfl (Nat.le_of_ble_eq_true rfl) rfl ok_n dX9_choose_22 (sl_afterR (sl_RR.mono (fun p7 M6 hM6 H => ?_) H))
    obtain ⟨zp7, H⟩ := H
    refine r_callV (g := mX1_study) ckX1 rfl rfl rfl rfl mkX1_study mvX1_study ml_X9_160 ⟨by decide, by decide⟩ rfl (Nat.le_of_ble_eq_true rfl) rfl (ok_r ok_n) dX9_choose_25 (sl_afterV (sl_RV.mono (fun M8 hM8 H => ?_) H))
    refine r_aload_n (k := 0) rfl rfl dX9_choose_28 ?_
    refine r_getR (k := 8) (o' := 6) (i' := 0) ckX9 rfl rfl (by decide) rfl rfl rfl fl_X9_39 dX9_choose_29 ?_
    refine r_aload_n (k := 0) rfl rfl dX9_choose_32 ?_
    refine r_getR (k := 9) (o' := 7) (i' := 0) ckX9 rfl rfl (by decide) rfl rfl rfl fl_X9_46 dX9_choose_33 ?_
    refine r_iload_n (k := 1) rfl rfl dX9_choose_36 ?_
    refine r_iload_n (k := 2) rfl rfl dX9_choose_37 ?_
    refine r_callV (g := mX1_examine) ckX1 rfl rfl rfl rfl mkX1_examine mvX1_examine ml_X9_236 ⟨by decide, by decide⟩ rfl (Nat.le_of_ble_eq_true rfl) rfl (ok_r (ok_i g1 (ok_i g2 ok_n))) dX9_choose_38 (sl_afterV (sl_RV.mono (fun M9 hM9 H => ?_) H))
    refine r_iconst dX9_choose_41 ?_
    refine r_zret rfl (Or.inr rfl) dX9_choose_42 ?_
    exact H
  · have H := H.2 h5
    refine r_iconst dX9_choose_15 ?_
    refine r_zret rfl (Or.inl rfl) dX9_choose_16 ?_
    exact H
theorem eX9_choose {l : Launch} {M : sl_M} {Q : sl_R} {x1 x2 : Int} (k : sl_At l mX9_choose 0 [(0, vR 0 0), (1, vI x1), (2, vI x2)] [] M Q) : sl_Runs l mX9_choose [vR 0 0, vI x1, vI x2] M Q := sl_Runs.of (ls := [(0, vR 0 0), (1, vI x1), (2, vI x2)]) rfl rfl (fun _ => rfl) (fun _ => Nat.le_of_ble_eq_true rfl) rfl (k)
theorem dX9_renamedSet_0 : decode cX9_renamedSet 0 = .ok (.iconst 0, 1) := by decide +kernel
theorem dX9_renamedSet_1 : decode cX9_renamedSet 1 = .ok (.istore_n 2, 1) := by decide +kernel
theorem dX9_renamedSet_2 : decode cX9_renamedSet 2 = .ok (.iconst 0, 1) := by decide +kernel
theorem dX9_renamedSet_3 : decode cX9_renamedSet 3 = .ok (.istore_n 3, 1) := by decide +kernel
theorem dX9_renamedSet_4 : decode cX9_renamedSet 4 = .ok (.iload_n 3, 1) := by decide +kernel
theorem dX9_renamedSet_5 : decode cX9_renamedSet 5 = .ok (.bipush 8, 2) := by decide +kernel
theorem dX9_renamedSet_7 : decode cX9_renamedSet 7 = .ok (.if_icmp .ge 30, 3) := by decide +kernel
theorem dX9_renamedSet_10 : decode cX9_renamedSet 10 = .ok (.iload_n 1, 1) := by decide +kernel
theorem dX9_renamedSet_11 : decode cX9_renamedSet 11 = .ok (.iload_n 3, 1) := by decide +kernel
theorem dX9_renamedSet_12 : decode cX9_renamedSet 12 = .ok (.ishr, 1) := by decide +kernel
theorem dX9_renamedSet_13 : decode cX9_renamedSet 13 = .ok (.iconst 1, 1) := by decide +kernel
theorem dX9_renamedSet_14 : decode cX9_renamedSet 14 = .ok (.iand, 1) := by decide +kernel
theorem dX9_renamedSet_15 : decode cX9_renamedSet 15 = .ok (.ifCond .eq 16, 3) := by decide +kernel
theorem dX9_renamedSet_18 : decode cX9_renamedSet 18 = .ok (.iload_n 2, 1) := by decide +kernel
theorem dX9_renamedSet_19 : decode cX9_renamedSet 19 = .ok (.iconst 1, 1) := by decide +kernel
theorem dX9_renamedSet_20 : decode cX9_renamedSet 20 = .ok (.iload_n 0, 1) := by decide +kernel
theorem dX9_renamedSet_21 : decode cX9_renamedSet 21 = .ok (.iconst 3, 1) := by decide +kernel
theorem dX9_renamedSet_22 : decode cX9_renamedSet 22 = .ok (.iload_n 3, 1) := by decide +kernel
theorem dX9_renamedSet_23 : decode cX9_renamedSet 23 = .ok (.imul, 1) := by decide +kernel
theorem dX9_renamedSet_24 : decode cX9_renamedSet 24 = .ok (.ishr, 1) := by decide +kernel
theorem dX9_renamedSet_25 : decode cX9_renamedSet 25 = .ok (.bipush 7, 2) := by decide +kernel
theorem dX9_renamedSet_27 : decode cX9_renamedSet 27 = .ok (.iand, 1) := by decide +kernel
theorem dX9_renamedSet_28 : decode cX9_renamedSet 28 = .ok (.ishl, 1) := by decide +kernel
theorem dX9_renamedSet_29 : decode cX9_renamedSet 29 = .ok (.ior, 1) := by decide +kernel
theorem dX9_renamedSet_30 : decode cX9_renamedSet 30 = .ok (.istore_n 2, 1) := by decide +kernel
theorem dX9_renamedSet_31 : decode cX9_renamedSet 31 = .ok (.iinc 3 1, 3) := by decide +kernel
theorem dX9_renamedSet_34 : decode cX9_renamedSet 34 = .ok (.goto (-30), 3) := by decide +kernel
theorem dX9_renamedSet_37 : decode cX9_renamedSet 37 = .ok (.iload_n 2, 1) := by decide +kernel
theorem dX9_renamedSet_38 : decode cX9_renamedSet 38 = .ok (.ireturn, 1) := by decide +kernel
set_option maxHeartbeats 4000000 in
set_option maxRecDepth 10000 in
theorem vX9_renamedSet_0 {l : Launch} {M : sl_M} {Q : sl_R} {x0 x1 : Int} (H : sl_RM M → sl_rg x0 → sl_rg x1 → sl_At l mX9_renamedSet 4 [(0, vI x0), (1, vI x1), (2, vI 0), (3, vI 0)] [] M Q) : sl_At l mX9_renamedSet 0 [(0, vI x0), (1, vI x1)] [] M Q := by
  refine sl_At.in (fun hM hls => ?_)
  have g0 : sl_rg x0 := hls _ (List.mem_of_getElem? (i := 0) rfl)
  have g1 : sl_rg x1 := hls _ (List.mem_of_getElem? (i := 1) rfl)
  have H := H hM g0 g1
  refine r_iconst dX9_renamedSet_0 ?_
  refine r_istore_n (ls' := [(2, vI 0), (0, vI x0), (1, vI x1)]) ⟨by decide, by decide⟩ rfl (by decide) rfl dX9_renamedSet_1 ?_
  refine r_iconst dX9_renamedSet_2 ?_
  refine r_istore_n (ls' := [(3, vI 0), (2, vI 0), (0, vI x0), (1, vI x1)]) ⟨by decide, by decide⟩ rfl (by decide) rfl dX9_renamedSet_3 ?_
  exact sl_At.sub [2, 3, 1, 0] rfl H
set_option maxHeartbeats 4000000 in
set_option maxRecDepth 10000 in
theorem vX9_renamedSet_4 {l : Launch} {M : sl_M} {Q : sl_R} {x0 x1 x2 x3 : Int} (H : sl_RM M → sl_rg x0 → sl_rg x1 → sl_rg x2 → sl_rg x3 → ((8 ≤ x3) → Q (some (vI x2)) M) ∧ ((¬ (8 ≤ x3)) → ((iand (ishr x1 x3) 1 = 0) → (sl_rg (x3 + 1)) ∧ sl_At l mX9_renamedSet 4 [(0, vI x0), (1, vI x1), (2, vI x2), (3, vI (x3 + 1))] [] M Q) ∧ ((¬ (iand (ishr x1 x3) 1 = 0)) → (∀ y4 : Int, y4 = ior x2 (ishl 1 (iand (ishr x0 (3 * x3)) 7)) → (sl_rg (x3 + 1)) ∧ sl_At l mX9_renamedSet 4 [(0, vI x0), (1, vI x1), (2, vI y4), (3, vI (x3 + 1))] [] M Q)))) : sl_At l mX9_renamedSet 4 [(0, vI x0), (1, vI x1), (2, vI x2), (3, vI x3)] [] M Q := by
  refine sl_At.in (fun hM hls => ?_)
  have g0 : sl_rg x0 := hls _ (List.mem_of_getElem? (i := 0) rfl)
  have g1 : sl_rg x1 := hls _ (List.mem_of_getElem? (i := 1) rfl)
  have g2 : sl_rg x2 := hls _ (List.mem_of_getElem? (i := 2) rfl)
  have g3 : sl_rg x3 := hls _ (List.mem_of_getElem? (i := 3) rfl)
  have H := H hM g0 g1 g2 g3
  refine r_iload_n (k := 3) rfl rfl dX9_renamedSet_4 ?_
  refine r_bipush dX9_renamedSet_5 (by decide) ?_
  refine r_icmp_ge (tgt := 37) g3 ⟨by decide, by decide⟩ dX9_renamedSet_7 (by decide) (fun h1 => ?_) (fun h1 => ?_)
  · have H := H.1 h1
    refine r_iload_n (k := 2) rfl rfl dX9_renamedSet_37 ?_
    refine r_iret rfl g2 dX9_renamedSet_38 ?_
    exact H
  · have H := H.2 h1
    refine r_iload_n (k := 1) rfl rfl dX9_renamedSet_10 ?_
    refine r_iload_n (k := 3) rfl rfl dX9_renamedSet_11 ?_
    refine r_ishr dX9_renamedSet_12 ?_
    refine r_iconst dX9_renamedSet_13 ?_
    refine r_iand dX9_renamedSet_14 ?_
    refine r_if_eq (tgt := 31) (rg_iand _ _) dX9_renamedSet_15 (by decide) (fun h2 => ?_) (fun h2 => ?_)
    · have H := H.1 h2
      obtain ⟨c3, H⟩ := H
      refine r_iinc (k := 3) (ls' := [(3, vI (x3 + 1)), (0, vI x0), (1, vI x1), (2, vI x2)]) rfl c3 (by decide) rfl dX9_renamedSet_31 ?_
      refine r_goto (tgt := 4) dX9_renamedSet_34 (by decide) ?_
      exact sl_At.sub [1, 2, 3, 0] rfl H
    · have H := H.2 h2
      refine r_iload_n (k := 2) rfl rfl dX9_renamedSet_18 ?_
      refine r_iconst dX9_renamedSet_19 ?_
      refine r_iload_n (k := 0) rfl rfl dX9_renamedSet_20 ?_
      refine r_iconst dX9_renamedSet_21 ?_
      refine r_iload_n (k := 3) rfl rfl dX9_renamedSet_22 ?_
      refine r_imul dX9_renamedSet_23 ?_
      refine r_ishr dX9_renamedSet_24 ?_
      refine r_bipush dX9_renamedSet_25 (by decide) ?_
      refine r_iand dX9_renamedSet_27 ?_
      refine r_ishl dX9_renamedSet_28 ?_
      refine r_ior dX9_renamedSet_29 ?_
      refine r_nm (fun y4 fy4 => ?_)
      have H := H y4 fy4
      have gy4 : sl_rg y4 := by rw [fy4]; exact (rg_ior _ _)
      refine r_istore_n (ls' := [(2, vI y4), (0, vI x0), (1, vI x1), (3, vI x3)]) gy4 rfl (by decide) rfl dX9_renamedSet_30 ?_
      obtain ⟨c5, H⟩ := H
      refine r_iinc (k := 3) (ls' := [(3, vI (x3 + 1)), (2, vI y4), (0, vI x0), (1, vI x1)]) rfl c5 (by decide) rfl dX9_renamedSet_31 ?_
      refine r_goto (tgt := 4) dX9_renamedSet_34 (by decide) ?_
      exact sl_At.sub [2, 3, 1, 0] rfl H
theorem eX9_renamedSet {l : Launch} {M : sl_M} {Q : sl_R} {x0 x1 : Int} (k : sl_At l mX9_renamedSet 0 [(0, vI x0), (1, vI x1)] [] M Q) : sl_Runs l mX9_renamedSet [vI x0, vI x1] M Q := sl_Runs.of (ls := [(0, vI x0), (1, vI x1)]) rfl rfl (fun _ => rfl) (fun _ => Nat.le_of_ble_eq_true rfl) rfl (k)
