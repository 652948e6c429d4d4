theorem dX3_execute_0 : decode cX3_execute 0 = .ok (.aload_n 0, 1) := by decide +kernel
theorem dX3_execute_1 : decode cX3_execute 1 = .ok (.getfield 12, 3) := by decide +kernel
theorem dX3_execute_4 : decode cX3_execute 4 = .ok (.iconst 0, 1) := by decide +kernel
theorem dX3_execute_5 : decode cX3_execute 5 = .ok (.putfield 35, 3) := by decide +kernel
theorem dX3_execute_8 : decode cX3_execute 8 = .ok (.aload_n 0, 1) := by decide +kernel
theorem dX3_execute_9 : decode cX3_execute 9 = .ok (.getfield 12, 3) := by decide +kernel
theorem dX3_execute_12 : decode cX3_execute 12 = .ok (.iconst 0, 1) := by decide +kernel
theorem dX3_execute_13 : decode cX3_execute 13 = .ok (.iload_n 2, 1) := by decide +kernel
theorem dX3_execute_14 : decode cX3_execute 14 = .ok (.invokevirtual 39, 3) := by decide +kernel
theorem dX3_execute_17 : decode cX3_execute 17 = .ok (.aload_n 0, 1) := by decide +kernel
theorem dX3_execute_18 : decode cX3_execute 18 = .ok (.getfield 12, 3) := by decide +kernel
theorem dX3_execute_21 : decode cX3_execute 21 = .ok (.iconst 1, 1) := by decide +kernel
theorem dX3_execute_22 : decode cX3_execute 22 = .ok (.iload_n 3, 1) := by decide +kernel
theorem dX3_execute_23 : decode cX3_execute 23 = .ok (.invokevirtual 39, 3) := by decide +kernel
theorem dX3_execute_26 : decode cX3_execute 26 = .ok (.aload_n 0, 1) := by decide +kernel
theorem dX3_execute_27 : decode cX3_execute 27 = .ok (.iconst 0, 1) := by decide +kernel
theorem dX3_execute_28 : decode cX3_execute 28 = .ok (.putfield 43, 3) := by decide +kernel
theorem dX3_execute_31 : decode cX3_execute 31 = .ok (.aload_n 0, 1) := by decide +kernel
theorem dX3_execute_32 : decode cX3_execute 32 = .ok (.iconst 0, 1) := by decide +kernel
theorem dX3_execute_33 : decode cX3_execute 33 = .ok (.putfield 46, 3) := by decide +kernel
theorem dX3_execute_36 : decode cX3_execute 36 = .ok (.aload_n 0, 1) := by decide +kernel
theorem dX3_execute_37 : decode cX3_execute 37 = .ok (.iconst 0, 1) := by decide +kernel
theorem dX3_execute_38 : decode cX3_execute 38 = .ok (.putfield 49, 3) := by decide +kernel
theorem dX3_execute_41 : decode cX3_execute 41 = .ok (.aload_n 0, 1) := by decide +kernel
theorem dX3_execute_42 : decode cX3_execute 42 = .ok (.iconst 0, 1) := by decide +kernel
theorem dX3_execute_43 : decode cX3_execute 43 = .ok (.putfield 52, 3) := by decide +kernel
theorem dX3_execute_46 : decode cX3_execute 46 = .ok (.aload_n 1, 1) := by decide +kernel
theorem dX3_execute_47 : decode cX3_execute 47 = .ok (.getfield 55, 3) := by decide +kernel
theorem dX3_execute_50 : decode cX3_execute 50 = .ok (.astore 4, 2) := by decide +kernel
theorem dX3_execute_52 : decode cX3_execute 52 = .ok (.aload 4, 2) := by decide +kernel
theorem dX3_execute_54 : decode cX3_execute 54 = .ok (.getfield 61, 3) := by decide +kernel
theorem dX3_execute_57 : decode cX3_execute 57 = .ok (.ifCond .le 7, 3) := by decide +kernel
theorem dX3_execute_60 : decode cX3_execute 60 = .ok (.iconst 0, 1) := by decide +kernel
theorem dX3_execute_61 : decode cX3_execute 61 = .ok (.goto 4, 3) := by decide +kernel
theorem dX3_execute_64 : decode cX3_execute 64 = .ok (.iconst (-1), 1) := by decide +kernel
theorem dX3_execute_65 : decode cX3_execute 65 = .ok (.istore 5, 2) := by decide +kernel
theorem dX3_execute_67 : decode cX3_execute 67 = .ok (.iconst 0, 1) := by decide +kernel
theorem dX3_execute_68 : decode cX3_execute 68 = .ok (.istore 6, 2) := by decide +kernel
theorem dX3_execute_70 : decode cX3_execute 70 = .ok (.iload 6, 2) := by decide +kernel
theorem dX3_execute_72 : decode cX3_execute 72 = .ok (.ldc 66, 2) := by decide +kernel
theorem dX3_execute_74 : decode cX3_execute 74 = .ok (.if_icmp .ge 51, 3) := by decide +kernel
theorem dX3_execute_77 : decode cX3_execute 77 = .ok (.iload 5, 2) := by decide +kernel
theorem dX3_execute_79 : decode cX3_execute 79 = .ok (.ifCond .lt 46, 3) := by decide +kernel
theorem dX3_execute_82 : decode cX3_execute 82 = .ok (.aload 4, 2) := by decide +kernel
theorem dX3_execute_84 : decode cX3_execute 84 = .ok (.getfield 67, 3) := by decide +kernel
theorem dX3_execute_87 : decode cX3_execute 87 = .ok (.iload 5, 2) := by decide +kernel
theorem dX3_execute_89 : decode cX3_execute 89 = .ok (.iaload, 1) := by decide +kernel
theorem dX3_execute_90 : decode cX3_execute 90 = .ok (.bipush 7, 2) := by decide +kernel
theorem dX3_execute_92 : decode cX3_execute 92 = .ok (.if_icmp .ne 13, 3) := by decide +kernel
theorem dX3_execute_95 : decode cX3_execute 95 = .ok (.aload_n 0, 1) := by decide +kernel
theorem dX3_execute_96 : decode cX3_execute 96 = .ok (.aload_n 1, 1) := by decide +kernel
theorem dX3_execute_97 : decode cX3_execute 97 = .ok (.iload 5, 2) := by decide +kernel
theorem dX3_execute_99 : decode cX3_execute 99 = .ok (.invokevirtual 70, 3) := by decide +kernel
theorem dX3_execute_102 : decode cX3_execute 102 = .ok (.goto 15, 3) := by decide +kernel
theorem dX3_execute_105 : decode cX3_execute 105 = .ok (.aload_n 0, 1) := by decide +kernel
theorem dX3_execute_106 : decode cX3_execute 106 = .ok (.aload 4, 2) := by decide +kernel
theorem dX3_execute_108 : decode cX3_execute 108 = .ok (.iload 5, 2) := by decide +kernel
theorem dX3_execute_110 : decode cX3_execute 110 = .ok (.aload_n 0, 1) := by decide +kernel
theorem dX3_execute_111 : decode cX3_execute 111 = .ok (.getfield 12, 3) := by decide +kernel
theorem dX3_execute_114 : decode cX3_execute 114 = .ok (.invokevirtual 74, 3) := by decide +kernel
theorem dX3_execute_117 : decode cX3_execute 117 = .ok (.istore 5, 2) := by decide +kernel
theorem dX3_execute_119 : decode cX3_execute 119 = .ok (.iinc 6 1, 3) := by decide +kernel
theorem dX3_execute_122 : decode cX3_execute 122 = .ok (.goto (-52), 3) := by decide +kernel
theorem dX3_execute_125 : decode cX3_execute 125 = .ok (.aload_n 0, 1) := by decide +kernel
theorem dX3_execute_126 : decode cX3_execute 126 = .ok (.getfield 52, 3) := by decide +kernel
theorem dX3_execute_129 : decode cX3_execute 129 = .ok (.ifCond .eq 10, 3) := by decide +kernel
theorem dX3_execute_132 : decode cX3_execute 132 = .ok (.iconst 1, 1) := by decide +kernel
theorem dX3_execute_133 : decode cX3_execute 133 = .ok (.aload_n 0, 1) := by decide +kernel
theorem dX3_execute_134 : decode cX3_execute 134 = .ok (.getfield 52, 3) := by decide +kernel
theorem dX3_execute_137 : decode cX3_execute 137 = .ok (.iadd, 1) := by decide +kernel
theorem dX3_execute_138 : decode cX3_execute 138 = .ok (.ireturn, 1) := by decide +kernel
theorem dX3_execute_139 : decode cX3_execute 139 = .ok (.iload 5, 2) := by decide +kernel
theorem dX3_execute_141 : decode cX3_execute 141 = .ok (.bipush (-8), 2) := by decide +kernel
theorem dX3_execute_143 : decode cX3_execute 143 = .ok (.if_icmp .ne 7, 3) := by decide +kernel
theorem dX3_execute_146 : decode cX3_execute 146 = .ok (.iconst 1, 1) := by decide +kernel
theorem dX3_execute_147 : decode cX3_execute 147 = .ok (.goto 4, 3) := by decide +kernel
theorem dX3_execute_150 : decode cX3_execute 150 = .ok (.iconst 0, 1) := by decide +kernel
theorem dX3_execute_151 : decode cX3_execute 151 = .ok (.ireturn, 1) := by decide +kernel
set_option maxHeartbeats 4000000 in
set_option maxRecDepth 10000 in
theorem vX3_execute_0 {l : Launch} {M : sl_M} {Q : sl_R} {o1 : Nat} {x2 x3 : Int} (ho1 : sl_cls o1 = 7) (H : sl_RM M → sl_rg x2 → sl_rg x3 → (∀ M1, M1 = sl_wr M 4 0 1 0 → sl_RV l mX2_give [vR 4 0, vI 0, vI x2] M1 (fun M2 => sl_RV l mX2_give [vR 4 0, vI 1, vI x3] M2 (fun M3 => (∀ M4, M4 = sl_wr M3 3 0 2 0 → (∀ M5, M5 = sl_wr M4 3 0 3 0 → (∀ M6, M6 = sl_wr M5 3 0 5 0 → (∀ M7, M7 = sl_wr M6 3 0 6 0 → (∀ y9 : Int, y9 = (if M7 (o1 + 10) 0 11 ≤ 0 then (-1) else 0) → sl_At l mX3_execute 70 [(0, vR 3 0), (1, vR o1 0), (4, vR (o1 + 10) 0), (5, vI y9), (6, vI 0)] [] M7 Q))))))))) : sl_At l mX3_execute 0 [(0, vR 3 0), (1, vR o1 0), (2, vI x2), (3, vI x3)] [] M Q := by
  refine sl_At.in (fun hM hls => ?_)
  have g2 : sl_rg x2 := hls _ (List.mem_of_getElem? (i := 2) rfl)
  have g3 : sl_rg x3 := hls _ (List.mem_of_getElem? (i := 3) rfl)
  have H := H hM g2 g3
  refine r_aload_n (k := 0) rfl rfl dX3_execute_0 ?_
  refine r_getR (k := 0) (o' := 4) (i' := 0) ckX3 rfl rfl (by decide) rfl rfl rfl fl_X3_12 dX3_execute_1 ?_
  refine r_iconst dX3_execute_4 ?_
  refine r_pI (k := 1) (kz := 1) rfl ckX2 rfl rfl (by decide) rfl rfl rfl rfl fl_X3_35 ⟨by decide, by decide⟩ dX3_execute_5 ?_
  refine r_mm (fun M1 e1 => ?_)
  have H := H M1 e1
  have hM1 : sl_RM M1 := by rw [e1]; exact sl_wr_RM hM ⟨by decide, by decide⟩
  refine r_aload_n (k := 0) rfl rfl dX3_execute_8 ?_
  refine r_getR (k := 0) (o' := 4) (i' := 0) ckX3 rfl rfl (by decide) rfl rfl rfl fl_X3_12 dX3_execute_9 ?_
  refine r_iconst dX3_execute_12 ?_
  refine r_iload_n (k := 2) rfl rfl dX3_execute_13 ?_
  refine r_callV (g := mX2_give) ckX2 rfl rfl rfl rfl mkX2_give mvX2_give ml_X3_39 ⟨by decide, by decide⟩ rfl (Nat.le_of_ble_eq_true rfl) rfl (ok_i ⟨by decide, by decide⟩ (ok_i g2 ok_n)) dX3_execute_14 (sl_afterV (sl_RV.mono (fun M2 hM2 H => ?_) H))
  refine r_aload_n (k := 0) rfl rfl dX3_execute_17 ?_
  refine r_getR (k := 0) (o' := 4) (i' := 0) ckX3 rfl rfl (by decide) rfl rfl rfl fl_X3_12 dX3_execute_18 ?_
  refine r_iconst dX3_execute_21 ?_
  refine r_iload_n (k := 3) rfl rfl dX3_execute_22 ?_
  refine r_callV (g := mX2_give) ckX2 rfl rfl rfl rfl mkX2_give mvX2_give ml_X3_39 ⟨by decide, by decide⟩ rfl (Nat.le_of_ble_eq_true rfl) rfl (ok_i ⟨by decide, by decide⟩ (ok_i g3 ok_n)) dX3_execute_23 (sl_afterV (sl_RV.mono (fun M3 hM3 H => ?_) H))
  refine r_aload_n (k := 0) rfl rfl dX3_execute_26 ?_
  refine r_iconst dX3_execute_27 ?_
  refine r_pI (k := 2) (kz := 2) rfl ckX3 rfl rfl (by decide) rfl rfl rfl rfl fl_X3_43 ⟨by decide, by decide⟩ dX3_execute_28 ?_
  refine r_mm (fun M4 e4 => ?_)
  have H := H M4 e4
  have hM4 : sl_RM M4 := by rw [e4]; exact sl_wr_RM hM3 ⟨by decide, by decide⟩
  refine r_aload_n (k := 0) rfl rfl dX3_execute_31 ?_
  refine r_iconst dX3_execute_32 ?_
  refine r_pI (k := 3) (kz := 3) rfl ckX3 rfl rfl (by decide) rfl rfl rfl rfl fl_X3_46 ⟨by decide, by decide⟩ dX3_execute_33 ?_
  refine r_mm (fun M5 e5 => ?_)
  have H := H M5 e5
  have hM5 : sl_RM M5 := by rw [e5]; exact sl_wr_RM hM4 ⟨by decide, by decide⟩
  refine r_aload_n (k := 0) rfl rfl dX3_execute_36 ?_
  refine r_iconst dX3_execute_37 ?_
  refine r_pI (k := 5) (kz := 5) rfl ckX3 rfl rfl (by decide) rfl rfl rfl rfl fl_X3_49 ⟨by decide, by decide⟩ dX3_execute_38 ?_
  refine r_mm (fun M6 e6 => ?_)
  have H := H M6 e6
  have hM6 : sl_RM M6 := by rw [e6]; exact sl_wr_RM hM5 ⟨by decide, by decide⟩
  refine r_aload_n (k := 0) rfl rfl dX3_execute_41 ?_
  refine r_iconst dX3_execute_42 ?_
  refine r_pI (k := 6) (kz := 6) rfl ckX3 rfl rfl (by decide) rfl rfl rfl rfl fl_X3_52 ⟨by decide, by decide⟩ dX3_execute_43 ?_
  refine r_mm (fun M7 e7 => ?_)
  have H := H M7 e7
  have hM7 : sl_RM M7 := by rw [e7]; exact sl_wr_RM hM6 ⟨by decide, by decide⟩
  refine r_aload_n (k := 1) rfl rfl dX3_execute_46 ?_
  refine r_getR (k := 0) (o' := o1 + 10) (i' := 0) ckX7 ho1 rfl (by decide) rfl rfl rfl fl_X3_55 dX3_execute_47 ?_
  refine r_astore (ls' := [(4, vR (o1 + 10) 0), (0, vR 3 0), (1, vR o1 0), (2, vI x2), (3, vI x3)]) (by decide) rfl dX3_execute_50 ?_
  refine r_aload (k := 0) rfl dX3_execute_52 ?_
  refine r_gI (k := 11) (kz := 11) rfl ckX0 (cl_prog ho1) rfl (by decide) rfl rfl fl_X3_61 dX3_execute_54 ?_
  have J : sl_At l mX3_execute 65 [(4, vR (o1 + 10) 0), (0, vR 3 0), (1, vR o1 0), (2, vI x2), (3, vI x3)] [vI (if M7 (o1 + 10) 0 11 ≤ 0 then (-1) else 0)] M7 Q := by
    refine r_nm (fun y9 fy9 => ?_)
    have H := H y9 fy9
    have gy9 : sl_rg y9 := by rw [fy9]; exact (sl_rgite ⟨by decide, by decide⟩ ⟨by decide, by decide⟩)
    refine r_istore (ls' := [(5, vI y9), (4, vR (o1 + 10) 0), (0, vR 3 0), (1, vR o1 0), (2, vI x2), (3, vI x3)]) gy9 (by decide) rfl dX3_execute_65 ?_
    refine r_iconst dX3_execute_67 ?_
    refine r_istore (ls' := [(6, vI 0), (5, vI y9), (4, vR (o1 + 10) 0), (0, vR 3 0), (1, vR o1 0), (2, vI x2), (3, vI x3)]) ⟨by decide, by decide⟩ (by decide) rfl dX3_execute_68 ?_
    exact sl_At.sub [3, 4, 2, 1, 0] rfl H
  refine r_if_le (tgt := 64) (hM7 _ _ _) dX3_execute_57 (by decide) (fun h8 => ?_) (fun h8 => ?_)
  · refine r_iconst dX3_execute_64 ?_
    rw [if_pos h8] at J
    exact J
  · refine r_iconst dX3_execute_60 ?_
    refine r_goto (tgt := 65) dX3_execute_61 (by decide) ?_
    rw [if_neg h8] at J
    exact J
set_option maxHeartbeats 4000000 in
set_option maxRecDepth 10000 in
theorem vX3_execute_70 {l : Launch} {M : sl_M} {Q : sl_R} {o1 o4 : Nat} {x5 x6 : Int} (ho1 : sl_cls o1 = 7) (ho4 : sl_cls o4 = 0) (H : sl_RM M → sl_rg x5 → sl_rg x6 → ((1000000 ≤ x6) → ((M 3 0 6 = 0) → Q (some (vI (if ¬ (x5 ≠ (-8)) then 1 else 0))) M) ∧ ((¬ (M 3 0 6 = 0)) → (sl_rg (1 + (M 3 0 6))) ∧ Q (some (vI (1 + (M 3 0 6)))) M)) ∧ ((¬ (1000000 ≤ x6)) → ((x5 < 0) → ((M 3 0 6 = 0) → Q (some (vI (if ¬ (x5 ≠ (-8)) then 1 else 0))) M) ∧ ((¬ (M 3 0 6 = 0)) → (sl_rg (1 + (M 3 0 6))) ∧ Q (some (vI (1 + (M 3 0 6)))) M)) ∧ ((¬ (x5 < 0)) → (0 ≤ x5 ∧ x5 < 40) ∧ ((M o4 1 x5 ≠ 7) → sl_RI l mX3_step [vR 3 0, vR o4 0, vI x5, vR 4 0] M (fun y12 M11 => (sl_rg (x6 + 1)) ∧ sl_At l mX3_execute 70 [(0, vR 3 0), (1, vR o1 0), (4, vR o4 0), (5, vI y12), (6, vI (x6 + 1))] [] M11 Q)) ∧ ((¬ (M o4 1 x5 ≠ 7)) → sl_RI l mX3_perform [vR 3 0, vR o1 0, vI x5] M (fun y15 M14 => (sl_rg (x6 + 1)) ∧ sl_At l mX3_execute 70 [(0, vR 3 0), (1, vR o1 0), (4, vR o4 0), (5, vI y15), (6, vI (x6 + 1))] [] M14 Q))))) : sl_At l mX3_execute 70 [(0, vR 3 0), (1, vR o1 0), (4, vR o4 0), (5, vI x5), (6, vI x6)] [] M Q := by
  refine sl_At.in (fun hM hls => ?_)
  have g5 : sl_rg x5 := hls _ (List.mem_of_getElem? (i := 3) rfl)
  have g6 : sl_rg x6 := hls _ (List.mem_of_getElem? (i := 4) rfl)
  have H := H hM g5 g6
  refine r_iload (k := 4) rfl dX3_execute_70 ?_
  refine r_ldc (n := 1000000) co_X3_66 dX3_execute_72 ?_
  refine r_icmp_ge (tgt := 125) g6 ⟨by decide, by decide⟩ dX3_execute_74 (by decide) (fun h1 => ?_) (fun h1 => ?_)
  · have H := H.1 h1
    refine r_aload_n (k := 0) rfl rfl dX3_execute_125 ?_
    refine r_gI (k := 6) (kz := 6) rfl ckX3 rfl rfl (by decide) rfl rfl fl_X3_52 dX3_execute_126 ?_
    refine r_if_eq (tgt := 139) (hM _ _ _) dX3_execute_129 (by decide) (fun h2 => ?_) (fun h2 => ?_)
    · have H := H.1 h2
      refine r_iload (k := 3) rfl dX3_execute_139 ?_
      refine r_bipush dX3_execute_141 (by decide) ?_
      have J : sl_At l mX3_execute 151 [(0, vR 3 0), (1, vR o1 0), (4, vR o4 0), (5, vI x5), (6, vI x6)] [vI (if ¬ (x5 ≠ (-8)) then 1 else 0)] M Q := by
        refine r_iret rfl rg_b dX3_execute_151 ?_
        exact H
      refine r_icmp_ne (tgt := 150) g5 ⟨by decide, by decide⟩ dX3_execute_143 (by decide) (fun h3 => ?_) (fun h3 => ?_)
      · refine r_iconst dX3_execute_150 ?_
        rw [if_neg (show ¬ (¬ (x5 ≠ (-8))) by omega)] at J
        exact J
      · refine r_iconst dX3_execute_146 ?_
        refine r_goto (tgt := 151) dX3_execute_147 (by decide) ?_
        rw [if_pos (show ¬ (x5 ≠ (-8)) by omega)] at J
        exact J
    · have H := H.2 h2
      refine r_iconst dX3_execute_132 ?_
      refine r_aload_n (k := 0) rfl rfl dX3_execute_133 ?_
      refine r_gI (k := 6) (kz := 6) rfl ckX3 rfl rfl (by decide) rfl rfl fl_X3_52 dX3_execute_134 ?_
      refine r_iadd dX3_execute_137 ?_
      obtain ⟨c4, H⟩ := H
      refine r_iret rfl c4 dX3_execute_138 ?_
      exact H
  · have H := H.2 h1
    refine r_iload (k := 3) rfl dX3_execute_77 ?_
    refine r_if_lt (tgt := 125) g5 dX3_execute_79 (by decide) (fun h5 => ?_) (fun h5 => ?_)
    · have H := H.1 h5
      refine r_aload_n (k := 0) rfl rfl dX3_execute_125 ?_
      refine r_gI (k := 6) (kz := 6) rfl ckX3 rfl rfl (by decide) rfl rfl fl_X3_52 dX3_execute_126 ?_
      refine r_if_eq (tgt := 139) (hM _ _ _) dX3_execute_129 (by decide) (fun h6 => ?_) (fun h6 => ?_)
      · have H := H.1 h6
        refine r_iload (k := 3) rfl dX3_execute_139 ?_
        refine r_bipush dX3_execute_141 (by decide) ?_
        have J : sl_At l mX3_execute 151 [(0, vR 3 0), (1, vR o1 0), (4, vR o4 0), (5, vI x5), (6, vI x6)] [vI (if ¬ (x5 ≠ (-8)) then 1 else 0)] M Q := by
          refine r_iret rfl rg_b dX3_execute_151 ?_
          exact H
        refine r_icmp_ne (tgt := 150) g5 ⟨by decide, by decide⟩ dX3_execute_143 (by decide) (fun h7 => ?_) (fun h7 => ?_)
        · refine r_iconst dX3_execute_150 ?_
          rw [if_neg (show ¬ (¬ (x5 ≠ (-8))) by omega)] at J
          exact J
        · refine r_iconst dX3_execute_146 ?_
          refine r_goto (tgt := 151) dX3_execute_147 (by decide) ?_
          rw [if_pos (show ¬ (x5 ≠ (-8)) by omega)] at J
          exact J
      · have H := H.2 h6
        refine r_iconst dX3_execute_132 ?_
        refine r_aload_n (k := 0) rfl rfl dX3_execute_133 ?_
        refine r_gI (k := 6) (kz := 6) rfl ckX3 rfl rfl (by decide) rfl rfl fl_X3_52 dX3_execute_134 ?_
        refine r_iadd dX3_execute_137 ?_
        obtain ⟨c8, H⟩ := H
        refine r_iret rfl c8 dX3_execute_138 ?_
        exact H
    · have H := H.2 h5
      refine r_aload (k := 2) rfl dX3_execute_82 ?_
      refine r_getR (k := 0) (o' := o4) (i' := 1) ckX0 ho4 rfl (by decide) rfl rfl rfl fl_X3_67 dX3_execute_84 ?_
      refine r_iload (k := 3) rfl dX3_execute_87 ?_
      obtain ⟨c9, H⟩ := H
      refine r_iald ho4 rfl rfl c9 dX3_execute_89 ?_
      refine r_bipush dX3_execute_90 (by decide) ?_
      refine r_icmp_ne (tgt := 105) (hM _ _ _) ⟨by decide, by decide⟩ dX3_execute_92 (by decide) (fun h10 => ?_) (fun h10 => ?_)
      · have H := H.1 h10
        refine r_aload_n (k := 0) rfl rfl dX3_execute_105 ?_
        refine r_aload (k := 2) rfl dX3_execute_106 ?_
        refine r_iload (k := 3) rfl dX3_execute_108 ?_
        refine r_aload_n (k := 0) rfl rfl dX3_execute_110 ?_
        refine r_getR (k := 0) (o' := 4) (i' := 0) ckX3 rfl rfl (by decide) rfl rfl rfl fl_X3_12 dX3_execute_111 ?_
        refine r_callV (g := mX3_step) ckX3 rfl rfl rfl rfl mkX3_step mvX3_step ml_X3_74 ⟨by decide, by decide⟩ rfl (Nat.le_of_ble_eq_true rfl) rfl (ok_r (ok_i g5 (ok_r ok_n))) dX3_execute_114 (sl_afterI (sl_RI.mono (fun y12 M11 gy12 hM11 H => ?_) H))
        refine r_istore (ls' := [(5, vI y12), (0, vR 3 0), (1, vR o1 0), (4, vR o4 0), (6, vI x6)]) gy12 (by decide) rfl dX3_execute_117 ?_
        obtain ⟨c13, H⟩ := H
        refine r_iinc (k := 4) (ls' := [(6, vI (x6 + 1)), (5, vI y12), (0, vR 3 0), (1, vR o1 0), (4, vR o4 0)]) rfl c13 (by decide) rfl dX3_execute_119 ?_
        refine r_goto (tgt := 70) dX3_execute_122 (by decide) ?_
        exact sl_At.sub [2, 3, 4, 1, 0] rfl H
      · have H := H.2 h10
        refine r_aload_n (k := 0) rfl rfl dX3_execute_95 ?_
        refine r_aload_n (k := 1) rfl rfl dX3_execute_96 ?_
        refine r_iload (k := 3) rfl dX3_execute_97 ?_
        refine r_callV (g := mX3_perform) ckX3 rfl rfl rfl rfl mkX3_perform mvX3_perform ml_X3_70 ⟨by decide, by decide⟩ rfl (Nat.le_of_ble_eq_true rfl) rfl (ok_r (ok_i g5 ok_n)) dX3_execute_99 (sl_afterI (sl_RI.mono (fun y15 M14 gy15 hM14 H => ?_) H))
        refine r_goto (tgt := 117) dX3_execute_102 (by decide) ?_
        refine r_istore (ls' := [(5, vI y15), (0, vR 3 0), (1, vR o1 0), (4, vR o4 0), (6, vI x6)]) gy15 (by decide) rfl dX3_execute_117 ?_
        obtain ⟨c16, H⟩ := H
        refine r_iinc (k := 4) (ls' := [(6, vI (x6 + 1)), (5, vI y15), (0, vR 3 0), (1, vR o1 0), (4, vR o4 0)]) rfl c16 (by decide) rfl dX3_execute_119 ?_
        refine r_goto (tgt := 70) dX3_execute_122 (by decide) ?_
        exact sl_At.sub [2, 3, 4, 1, 0] rfl H
theorem eX3_execute {l : Launch} {M : sl_M} {Q : sl_R} {o1 : Nat} {x2 x3 : Int} (k : sl_At l mX3_execute 0 [(0, vR 3 0), (1, vR o1 0), (2, vI x2), (3, vI x3)] [] M Q) : sl_Runs l mX3_execute [vR 3 0, vR o1 0, vI x2, vI x3] M Q := sl_Runs.of (ls := [(0, vR 3 0), (1, vR o1 0), (2, vI x2), (3, vI x3)]) rfl rfl (fun _ => rfl) (fun _ => Nat.le_of_ble_eq_true rfl) rfl (k)
theorem dX3_perform_0 : decode cX3_perform 0 = .ok (.aload_n 1, 1) := by decide +kernel
theorem dX3_perform_1 : decode cX3_perform 1 = .ok (.getfield 55, 3) := by decide +kernel
theorem dX3_perform_4 : decode cX3_perform 4 = .ok (.astore_n 3, 1) := by decide +kernel
theorem dX3_perform_5 : decode cX3_perform 5 = .ok (.aload_n 1, 1) := by decide +kernel
theorem dX3_perform_6 : decode cX3_perform 6 = .ok (.aload_n 3, 1) := by decide +kernel
theorem dX3_perform_7 : decode cX3_perform 7 = .ok (.getfield 78, 3) := by decide +kernel
theorem dX3_perform_10 : decode cX3_perform 10 = .ok (.iload_n 2, 1) := by decide +kernel
theorem dX3_perform_11 : decode cX3_perform 11 = .ok (.iaload, 1) := by decide +kernel
theorem dX3_perform_12 : decode cX3_perform 12 = .ok (.invokevirtual 81, 3) := by decide +kernel
theorem dX3_perform_15 : decode cX3_perform 15 = .ok (.ifCond .ne 5, 3) := by decide +kernel
theorem dX3_perform_18 : decode cX3_perform 18 = .ok (.iconst (-1), 1) := by decide +kernel
theorem dX3_perform_19 : decode cX3_perform 19 = .ok (.ireturn, 1) := by decide +kernel
theorem dX3_perform_20 : decode cX3_perform 20 = .ok (.aload_n 1, 1) := by decide +kernel
theorem dX3_perform_21 : decode cX3_perform 21 = .ok (.getfield 85, 3) := by decide +kernel
theorem dX3_perform_24 : decode cX3_perform 24 = .ok (.aload_n 3, 1) := by decide +kernel
theorem dX3_perform_25 : decode cX3_perform 25 = .ok (.getfield 78, 3) := by decide +kernel
theorem dX3_perform_28 : decode cX3_perform 28 = .ok (.iload_n 2, 1) := by decide +kernel
theorem dX3_perform_29 : decode cX3_perform 29 = .ok (.iaload, 1) := by decide +kernel
theorem dX3_perform_30 : decode cX3_perform 30 = .ok (.aaload, 1) := by decide +kernel
theorem dX3_perform_31 : decode cX3_perform 31 = .ok (.astore 4, 2) := by decide +kernel
theorem dX3_perform_33 : decode cX3_perform 33 = .ok (.aload_n 3, 1) := by decide +kernel
theorem dX3_perform_34 : decode cX3_perform 34 = .ok (.getfield 89, 3) := by decide +kernel
theorem dX3_perform_37 : decode cX3_perform 37 = .ok (.iload_n 2, 1) := by decide +kernel
theorem dX3_perform_38 : decode cX3_perform 38 = .ok (.iaload, 1) := by decide +kernel
theorem dX3_perform_39 : decode cX3_perform 39 = .ok (.istore 5, 2) := by decide +kernel
theorem dX3_perform_41 : decode cX3_perform 41 = .ok (.aload_n 0, 1) := by decide +kernel
theorem dX3_perform_42 : decode cX3_perform 42 = .ok (.getfield 18, 3) := by decide +kernel
theorem dX3_perform_45 : decode cX3_perform 45 = .ok (.iconst 0, 1) := by decide +kernel
theorem dX3_perform_46 : decode cX3_perform 46 = .ok (.putfield 35, 3) := by decide +kernel
theorem dX3_perform_49 : decode cX3_perform 49 = .ok (.iconst 0, 1) := by decide +kernel
theorem dX3_perform_50 : decode cX3_perform 50 = .ok (.istore 6, 2) := by decide +kernel
theorem dX3_perform_52 : decode cX3_perform 52 = .ok (.iload 6, 2) := by decide +kernel
theorem dX3_perform_54 : decode cX3_perform 54 = .ok (.bipush 8, 2) := by decide +kernel
theorem dX3_perform_56 : decode cX3_perform 56 = .ok (.if_icmp .ge 46, 3) := by decide +kernel
theorem dX3_perform_59 : decode cX3_perform 59 = .ok (.aload 4, 2) := by decide +kernel
theorem dX3_perform_61 : decode cX3_perform 61 = .ok (.getfield 92, 3) := by decide +kernel
theorem dX3_perform_64 : decode cX3_perform 64 = .ok (.iload 6, 2) := by decide +kernel
theorem dX3_perform_66 : decode cX3_perform 66 = .ok (.invokestatic 97, 3) := by decide +kernel
theorem dX3_perform_69 : decode cX3_perform 69 = .ok (.ifCond .eq 27, 3) := by decide +kernel
theorem dX3_perform_72 : decode cX3_perform 72 = .ok (.aload_n 0, 1) := by decide +kernel
theorem dX3_perform_73 : decode cX3_perform 73 = .ok (.getfield 18, 3) := by decide +kernel
theorem dX3_perform_76 : decode cX3_perform 76 = .ok (.iload 6, 2) := by decide +kernel
theorem dX3_perform_78 : decode cX3_perform 78 = .ok (.aload_n 0, 1) := by decide +kernel
theorem dX3_perform_79 : decode cX3_perform 79 = .ok (.iload 5, 2) := by decide +kernel
theorem dX3_perform_81 : decode cX3_perform 81 = .ok (.iload 6, 2) := by decide +kernel
theorem dX3_perform_83 : decode cX3_perform 83 = .ok (.invokestatic 101, 3) := by decide +kernel
theorem dX3_perform_86 : decode cX3_perform 86 = .ok (.aload_n 0, 1) := by decide +kernel
theorem dX3_perform_87 : decode cX3_perform 87 = .ok (.getfield 12, 3) := by decide +kernel
theorem dX3_perform_90 : decode cX3_perform 90 = .ok (.invokevirtual 105, 3) := by decide +kernel
theorem dX3_perform_93 : decode cX3_perform 93 = .ok (.invokevirtual 39, 3) := by decide +kernel
theorem dX3_perform_96 : decode cX3_perform 96 = .ok (.iinc 6 1, 3) := by decide +kernel
theorem dX3_perform_99 : decode cX3_perform 99 = .ok (.goto (-47), 3) := by decide +kernel
theorem dX3_perform_102 : decode cX3_perform 102 = .ok (.aload_n 0, 1) := by decide +kernel
theorem dX3_perform_103 : decode cX3_perform 103 = .ok (.getfield 52, 3) := by decide +kernel
theorem dX3_perform_106 : decode cX3_perform 106 = .ok (.ifCond .ne 15, 3) := by decide +kernel
theorem dX3_perform_109 : decode cX3_perform 109 = .ok (.aload_n 0, 1) := by decide +kernel
theorem dX3_perform_110 : decode cX3_perform 110 = .ok (.aload 4, 2) := by decide +kernel
theorem dX3_perform_112 : decode cX3_perform 112 = .ok (.getfield 109, 3) := by decide +kernel
theorem dX3_perform_115 : decode cX3_perform 115 = .ok (.invokevirtual 112, 3) := by decide +kernel
theorem dX3_perform_118 : decode cX3_perform 118 = .ok (.goto 4, 3) := by decide +kernel
theorem dX3_perform_121 : decode cX3_perform 121 = .ok (.iconst 1, 1) := by decide +kernel
theorem dX3_perform_122 : decode cX3_perform 122 = .ok (.istore 6, 2) := by decide +kernel
theorem dX3_perform_124 : decode cX3_perform 124 = .ok (.aload_n 0, 1) := by decide +kernel
theorem dX3_perform_125 : decode cX3_perform 125 = .ok (.getfield 52, 3) := by decide +kernel
theorem dX3_perform_128 : decode cX3_perform 128 = .ok (.ifCond .eq 5, 3) := by decide +kernel
theorem dX3_perform_131 : decode cX3_perform 131 = .ok (.iconst (-1), 1) := by decide +kernel
theorem dX3_perform_132 : decode cX3_perform 132 = .ok (.ireturn, 1) := by decide +kernel
theorem dX3_perform_133 : decode cX3_perform 133 = .ok (.iconst 0, 1) := by decide +kernel
theorem dX3_perform_134 : decode cX3_perform 134 = .ok (.istore 7, 2) := by decide +kernel
theorem dX3_perform_136 : decode cX3_perform 136 = .ok (.iload 7, 2) := by decide +kernel
theorem dX3_perform_138 : decode cX3_perform 138 = .ok (.bipush 8, 2) := by decide +kernel
theorem dX3_perform_140 : decode cX3_perform 140 = .ok (.if_icmp .ge 54, 3) := by decide +kernel
theorem dX3_perform_143 : decode cX3_perform 143 = .ok (.aload 4, 2) := by decide +kernel
theorem dX3_perform_145 : decode cX3_perform 145 = .ok (.getfield 116, 3) := by decide +kernel
theorem dX3_perform_148 : decode cX3_perform 148 = .ok (.aload_n 0, 1) := by decide +kernel
theorem dX3_perform_149 : decode cX3_perform 149 = .ok (.getfield 18, 3) := by decide +kernel
theorem dX3_perform_152 : decode cX3_perform 152 = .ok (.getfield 35, 3) := by decide +kernel
theorem dX3_perform_155 : decode cX3_perform 155 = .ok (.iand, 1) := by decide +kernel
theorem dX3_perform_156 : decode cX3_perform 156 = .ok (.iload 7, 2) := by decide +kernel
theorem dX3_perform_158 : decode cX3_perform 158 = .ok (.invokestatic 97, 3) := by decide +kernel
theorem dX3_perform_161 : decode cX3_perform 161 = .ok (.ifCond .eq 27, 3) := by decide +kernel
theorem dX3_perform_164 : decode cX3_perform 164 = .ok (.aload_n 0, 1) := by decide +kernel
theorem dX3_perform_165 : decode cX3_perform 165 = .ok (.getfield 12, 3) := by decide +kernel
theorem dX3_perform_168 : decode cX3_perform 168 = .ok (.iload 5, 2) := by decide +kernel
theorem dX3_perform_170 : decode cX3_perform 170 = .ok (.iload 7, 2) := by decide +kernel
theorem dX3_perform_172 : decode cX3_perform 172 = .ok (.invokestatic 101, 3) := by decide +kernel
theorem dX3_perform_175 : decode cX3_perform 175 = .ok (.aload_n 0, 1) := by decide +kernel
theorem dX3_perform_176 : decode cX3_perform 176 = .ok (.getfield 18, 3) := by decide +kernel
theorem dX3_perform_179 : decode cX3_perform 179 = .ok (.getfield 119, 3) := by decide +kernel
theorem dX3_perform_182 : decode cX3_perform 182 = .ok (.iload 7, 2) := by decide +kernel
theorem dX3_perform_184 : decode cX3_perform 184 = .ok (.iaload, 1) := by decide +kernel
theorem dX3_perform_185 : decode cX3_perform 185 = .ok (.invokevirtual 39, 3) := by decide +kernel
theorem dX3_perform_188 : decode cX3_perform 188 = .ok (.iinc 7 1, 3) := by decide +kernel
theorem dX3_perform_191 : decode cX3_perform 191 = .ok (.goto (-55), 3) := by decide +kernel
theorem dX3_perform_194 : decode cX3_perform 194 = .ok (.aload_n 3, 1) := by decide +kernel
theorem dX3_perform_195 : decode cX3_perform 195 = .ok (.iload_n 2, 1) := by decide +kernel
theorem dX3_perform_196 : decode cX3_perform 196 = .ok (.iload 6, 2) := by decide +kernel
theorem dX3_perform_198 : decode cX3_perform 198 = .ok (.iconst 0, 1) := by decide +kernel
theorem dX3_perform_199 : decode cX3_perform 199 = .ok (.aload_n 3, 1) := by decide +kernel
theorem dX3_perform_200 : decode cX3_perform 200 = .ok (.getfield 61, 3) := by decide +kernel
theorem dX3_perform_203 : decode cX3_perform 203 = .ok (.iconst 1, 1) := by decide +kernel
theorem dX3_perform_204 : decode cX3_perform 204 = .ok (.isub, 1) := by decide +kernel
theorem dX3_perform_205 : decode cX3_perform 205 = .ok (.invokevirtual 122, 3) := by decide +kernel
theorem dX3_perform_208 : decode cX3_perform 208 = .ok (.ireturn, 1) := by decide +kernel
set_option maxHeartbeats 4000000 in
set_option maxRecDepth 10000 in
theorem vX3_perform_0 {l : Launch} {M : sl_M} {Q : sl_R} {o1 : Nat} {x2 : Int} (ho1 : sl_cls o1 = 7) (H : sl_RM M → sl_rg x2 → (0 ≤ x2 ∧ x2 < 40) ∧ sl_RI l mX7_hasRoutine [vR o1 0, vI (M (o1 + 10) 6 x2)] M (fun y3 M2 => ((y3 ≠ 0) → (0 ≤ M2 (o1 + 10) 6 x2 ∧ M2 (o1 + 10) 6 x2 < 3) ∧ (∀ M6, M6 = sl_wr M2 5 0 1 0 → sl_At l mX3_perform 52 [(0, vR 3 0), (2, vI x2), (3, vR (o1 + 10) 0), (4, vR (3 * o1 + (M2 (o1 + 10) 6 x2).toNat) 0), (5, vI (M2 (o1 + 10) 7 x2)), (6, vI 0)] [] M6 Q)) ∧ ((¬ (y3 ≠ 0)) → Q (some (vI (-1))) M2))) : sl_At l mX3_perform 0 [(0, vR 3 0), (1, vR o1 0), (2, vI x2)] [] M Q := by
  refine sl_At.in (fun hM hls => ?_)
  have g2 : sl_rg x2 := hls _ (List.mem_of_getElem? (i := 2) rfl)
  have H := H hM g2
  refine r_aload_n (k := 1) rfl rfl dX3_perform_0 ?_
  refine r_getR (k := 0) (o' := o1 + 10) (i' := 0) ckX7 ho1 rfl (by decide) rfl rfl rfl fl_X3_55 dX3_perform_1 ?_
  refine r_astore_n (ls' := [(3, vR (o1 + 10) 0), (0, vR 3 0), (1, vR o1 0), (2, vI x2)]) rfl (by decide) rfl dX3_perform_4 ?_
  refine r_aload_n (k := 2) rfl rfl dX3_perform_5 ?_
  refine r_aload_n (k := 0) rfl rfl dX3_perform_6 ?_
  refine r_getR (k := 5) (o' := o1 + 10) (i' := 6) ckX0 (cl_prog ho1) rfl (by decide) rfl rfl rfl fl_X3_78 dX3_perform_7 ?_
  refine r_iload_n (k := 3) rfl rfl dX3_perform_10 ?_
  obtain ⟨c1, H⟩ := H
  refine r_iald (cl_prog ho1) rfl rfl c1 dX3_perform_11 ?_
  refine r_callV (g := mX7_hasRoutine) ckX7 ho1 rfl rfl rfl mkX7_hasRoutine mvX7_hasRoutine ml_X3_81 ⟨by decide, by decide⟩ rfl (Nat.le_of_ble_eq_true rfl) rfl (ok_i (hM _ _ _) ok_n) dX3_perform_12 (sl_afterI (sl_RI.mono (fun y3 M2 gy3 hM2 H => ?_) H))
  refine r_if_ne (tgt := 20) gy3 dX3_perform_15 (by decide) (fun h4 => ?_) (fun h4 => ?_)
  · have H := H.1 h4
    refine r_aload_n (k := 2) rfl rfl dX3_perform_20 ?_
    refine r_getR (k := 1) (o' := o1) (i' := 2) ckX7 ho1 rfl (by decide) rfl rfl rfl fl_X3_85 dX3_perform_21 ?_
    refine r_aload_n (k := 0) rfl rfl dX3_perform_24 ?_
    refine r_getR (k := 5) (o' := o1 + 10) (i' := 6) ckX0 (cl_prog ho1) rfl (by decide) rfl rfl rfl fl_X3_78 dX3_perform_25 ?_
    refine r_iload_n (k := 3) rfl rfl dX3_perform_28 ?_
    refine r_iald (cl_prog ho1) rfl rfl c1 dX3_perform_29 ?_
    obtain ⟨c5, H⟩ := H
    refine r_aaldR ho1 rfl c5 dX3_perform_30 ?_
    refine r_astore (ls' := [(4, vR (3 * o1 + (M2 (o1 + 10) 6 x2).toNat) 0), (3, vR (o1 + 10) 0), (0, vR 3 0), (1, vR o1 0), (2, vI x2)]) (by decide) rfl dX3_perform_31 ?_
    refine r_aload_n (k := 1) rfl rfl dX3_perform_33 ?_
    refine r_getR (k := 6) (o' := o1 + 10) (i' := 7) ckX0 (cl_prog ho1) rfl (by decide) rfl rfl rfl fl_X3_89 dX3_perform_34 ?_
    refine r_iload_n (k := 4) rfl rfl dX3_perform_37 ?_
    refine r_iald (cl_prog ho1) rfl rfl c1 dX3_perform_38 ?_
    refine r_istore (ls' := [(5, vI (M2 (o1 + 10) 7 x2)), (4, vR (3 * o1 + (M2 (o1 + 10) 6 x2).toNat) 0), (3, vR (o1 + 10) 0), (0, vR 3 0), (1, vR o1 0), (2, vI x2)]) (hM2 _ _ _) (by decide) rfl dX3_perform_39 ?_
    refine r_aload_n (k := 3) rfl rfl dX3_perform_41 ?_
    refine r_getR (k := 1) (o' := 5) (i' := 0) ckX3 rfl rfl (by decide) rfl rfl rfl fl_X3_18 dX3_perform_42 ?_
    refine r_iconst dX3_perform_45 ?_
    refine r_pI (k := 1) (kz := 1) rfl ckX2 rfl rfl (by decide) rfl rfl rfl rfl fl_X3_35 ⟨by decide, by decide⟩ dX3_perform_46 ?_
    refine r_mm (fun M6 e6 => ?_)
    have H := H M6 e6
    have hM6 : sl_RM M6 := by rw [e6]; exact sl_wr_RM hM2 ⟨by decide, by decide⟩
    refine r_iconst dX3_perform_49 ?_
    refine r_istore (ls' := [(6, vI 0), (5, vI (M2 (o1 + 10) 7 x2)), (4, vR (3 * o1 + (M2 (o1 + 10) 6 x2).toNat) 0), (3, vR (o1 + 10) 0), (0, vR 3 0), (1, vR o1 0), (2, vI x2)]) ⟨by decide, by decide⟩ (by decide) rfl dX3_perform_50 ?_
    exact sl_At.sub [4, 6, 3, 2, 1, 0] rfl H
  · have H := H.2 h4
    refine r_iconst dX3_perform_18 ?_
    refine r_iret rfl ⟨by decide, by decide⟩ dX3_perform_19 ?_
    exact H
set_option maxHeartbeats 4000000 in
set_option maxRecDepth 10000 in
theorem vX3_perform_52 {l : Launch} {M : sl_M} {Q : sl_R} {x2 x5 x6 : Int} {o3 o4 : Nat} (ho3 : sl_cls o3 = 0) (ho4 : sl_cls o4 = 5) (H : sl_RM M → sl_rg x2 → sl_rg x5 → sl_rg x6 → ((8 ≤ x6) → ((M 3 0 6 ≠ 0) → ((M 3 0 6 = 0) → sl_At l mX3_perform 136 [(0, vR 3 0), (2, vI x2), (3, vR o3 0), (4, vR o4 0), (5, vI x5), (6, vI 1), (7, vI 0)] [] M Q) ∧ ((¬ (M 3 0 6 = 0)) → Q (some (vI (-1))) M)) ∧ ((¬ (M 3 0 6 ≠ 0)) → sl_RI l mX3_walk [vR 3 0, vR (o4 + 30) 0] M (fun y5 M4 => ((M4 3 0 6 = 0) → sl_At l mX3_perform 136 [(0, vR 3 0), (2, vI x2), (3, vR o3 0), (4, vR o4 0), (5, vI x5), (6, vI y5), (7, vI 0)] [] M4 Q) ∧ ((¬ (M4 3 0 6 = 0)) → Q (some (vI (-1))) M4)))) ∧ ((¬ (8 ≤ x6)) → ((¬ (iand (ishr (M o4 0 2) x6) 1 ≠ 0)) → (sl_rg (x6 + 1)) ∧ sl_At l mX3_perform 52 [(0, vR 3 0), (2, vI x2), (3, vR o3 0), (4, vR o4 0), (5, vI x5), (6, vI (x6 + 1))] [] M Q) ∧ ((iand (ishr (M o4 0 2) x6) 1 ≠ 0) → sl_RI l mX3_valueOf [vR 3 0, vI (iand (ishr x5 (3 * x6)) 7), vR 4 0] M (fun y10 M9 => sl_RV l mX2_give [vR 5 0, vI x6, vI y10] M9 (fun M11 => (sl_rg (x6 + 1)) ∧ sl_At l mX3_perform 52 [(0, vR 3 0), (2, vI x2), (3, vR o3 0), (4, vR o4 0), (5, vI x5), (6, vI (x6 + 1))] [] M11 Q))))) : sl_At l mX3_perform 52 [(0, vR 3 0), (2, vI x2), (3, vR o3 0), (4, vR o4 0), (5, vI x5), (6, vI x6)] [] M Q := by
  refine sl_At.in (fun hM hls => ?_)
  have g2 : sl_rg x2 := hls _ (List.mem_of_getElem? (i := 1) rfl)
  have g5 : sl_rg x5 := hls _ (List.mem_of_getElem? (i := 4) rfl)
  have g6 : sl_rg x6 := hls _ (List.mem_of_getElem? (i := 5) rfl)
  have H := H hM g2 g5 g6
  refine r_iload (k := 5) rfl dX3_perform_52 ?_
  refine r_bipush dX3_perform_54 (by decide) ?_
  refine r_icmp_ge (tgt := 102) g6 ⟨by decide, by decide⟩ dX3_perform_56 (by decide) (fun h1 => ?_) (fun h1 => ?_)
  · have H := H.1 h1
    refine r_aload_n (k := 0) rfl rfl dX3_perform_102 ?_
    refine r_gI (k := 6) (kz := 6) rfl ckX3 rfl rfl (by decide) rfl rfl fl_X3_52 dX3_perform_103 ?_
    refine r_if_ne (tgt := 121) (hM _ _ _) dX3_perform_106 (by decide) (fun h2 => ?_) (fun h2 => ?_)
    · have H := H.1 h2
      refine r_iconst dX3_perform_121 ?_
      refine r_istore (ls' := [(6, vI 1), (0, vR 3 0), (2, vI x2), (3, vR o3 0), (4, vR o4 0), (5, vI x5)]) ⟨by decide, by decide⟩ (by decide) rfl dX3_perform_122 ?_
      refine r_aload_n (k := 1) rfl rfl dX3_perform_124 ?_
      refine r_gI (k := 6) (kz := 6) rfl ckX3 rfl rfl (by decide) rfl rfl fl_X3_52 dX3_perform_125 ?_
      refine r_if_eq (tgt := 133) (hM _ _ _) dX3_perform_128 (by decide) (fun h3 => ?_) (fun h3 => ?_)
      · have H := H.1 h3
        refine r_iconst dX3_perform_133 ?_
        refine r_istore (ls' := [(7, vI 0), (6, vI 1), (0, vR 3 0), (2, vI x2), (3, vR o3 0), (4, vR o4 0), (5, vI x5)]) ⟨by decide, by decide⟩ (by decide) rfl dX3_perform_134 ?_
        exact sl_At.sub [2, 3, 4, 5, 6, 1, 0] rfl H
      · have H := H.2 h3
        refine r_iconst dX3_perform_131 ?_
        refine r_iret rfl ⟨by decide, by decide⟩ dX3_perform_132 ?_
        exact H
    · have H := H.2 h2
      refine r_aload_n (k := 0) rfl rfl dX3_perform_109 ?_
      refine r_aload (k := 3) rfl dX3_perform_110 ?_
      refine r_getR (k := 0) (o' := o4 + 30) (i' := 0) ckX5 ho4 rfl (by decide) rfl rfl rfl fl_X3_109 dX3_perform_112 ?_
      refine r_callV (g := mX3_walk) ckX3 rfl rfl rfl rfl mkX3_walk mvX3_walk ml_X3_112 ⟨by decide, by decide⟩ rfl (Nat.le_of_ble_eq_true rfl) rfl (ok_r ok_n) dX3_perform_115 (sl_afterI (sl_RI.mono (fun y5 M4 gy5 hM4 H => ?_) H))
      refine r_goto (tgt := 122) dX3_perform_118 (by decide) ?_
      refine r_istore (ls' := [(6, vI y5), (0, vR 3 0), (2, vI x2), (3, vR o3 0), (4, vR o4 0), (5, vI x5)]) gy5 (by decide) rfl dX3_perform_122 ?_
      refine r_aload_n (k := 1) rfl rfl dX3_perform_124 ?_
      refine r_gI (k := 6) (kz := 6) rfl ckX3 rfl rfl (by decide) rfl rfl fl_X3_52 dX3_perform_125 ?_
      refine r_if_eq (tgt := 133) (hM4 _ _ _) dX3_perform_128 (by decide) (fun h6 => ?_) (fun h6 => ?_)
      · have H := H.1 h6
        refine r_iconst dX3_perform_133 ?_
        refine r_istore (ls' := [(7, vI 0), (6, vI y5), (0, vR 3 0), (2, vI x2), (3, vR o3 0), (4, vR o4 0), (5, vI x5)]) ⟨by decide, by decide⟩ (by decide) rfl dX3_perform_134 ?_
        exact sl_At.sub [2, 3, 4, 5, 6, 1, 0] rfl H
      · have H := H.2 h6
        refine r_iconst dX3_perform_131 ?_
        refine r_iret rfl ⟨by decide, by decide⟩ dX3_perform_132 ?_
        exact H
  · have H := H.2 h1
    refine r_aload (k := 3) rfl dX3_perform_59 ?_
    refine r_gI (k := 2) (kz := 2) rfl ckX5 ho4 rfl (by decide) rfl rfl fl_X3_92 dX3_perform_61 ?_
    refine r_iload (k := 5) rfl dX3_perform_64 ?_
    refine r_callSN (g := mX9_has) rfl mkX9_has msX9_has mn_X3_97 ⟨by decide, by decide⟩ rfl (Nat.le_of_ble_eq_true rfl) rfl (ok_i (hM _ _ _) (ok_i g6 ok_n)) dX3_perform_66 (sl_afterI (sl_RI.by kX9_has ?_))
    refine r_if_eq (tgt := 96) rg_b dX3_perform_69 (by decide) (fun h7 => ?_) (fun h7 => ?_)
    · have H := H.1 (b_eq0.mp h7)
      obtain ⟨c8, H⟩ := H
      refine r_iinc (k := 5) (ls' := [(6, vI (x6 + 1)), (0, vR 3 0), (2, vI x2), (3, vR o3 0), (4, vR o4 0), (5, vI x5)]) rfl c8 (by decide) rfl dX3_perform_96 ?_
      refine r_goto (tgt := 52) dX3_perform_99 (by decide) ?_
      exact sl_At.sub [1, 2, 3, 4, 5, 0] rfl H
    · have H := H.2 (b_ne0.mp h7)
      refine r_aload_n (k := 0) rfl rfl dX3_perform_72 ?_
      refine r_getR (k := 1) (o' := 5) (i' := 0) ckX3 rfl rfl (by decide) rfl rfl rfl fl_X3_18 dX3_perform_73 ?_
      refine r_iload (k := 5) rfl dX3_perform_76 ?_
      refine r_aload_n (k := 0) rfl rfl dX3_perform_78 ?_
      refine r_iload (k := 4) rfl dX3_perform_79 ?_
      refine r_iload (k := 5) rfl dX3_perform_81 ?_
      refine r_callSN (g := mX9_renamed) rfl mkX9_renamed msX9_renamed mn_X3_101 ⟨by decide, by decide⟩ rfl (Nat.le_of_ble_eq_true rfl) rfl (ok_i g5 (ok_i g6 ok_n)) dX3_perform_83 (sl_afterI (sl_RI.by kX9_renamed ?_))
      refine r_aload_n (k := 0) rfl rfl dX3_perform_86 ?_
      refine r_getR (k := 0) (o' := 4) (i' := 0) ckX3 rfl rfl (by decide) rfl rfl rfl fl_X3_12 dX3_perform_87 ?_
      refine r_callV (g := mX3_valueOf) ckX3 rfl rfl rfl rfl mkX3_valueOf mvX3_valueOf ml_X3_105 ⟨by decide, by decide⟩ rfl (Nat.le_of_ble_eq_true rfl) rfl (ok_i (rgkX9_renamed _ _) (ok_r ok_n)) dX3_perform_90 (sl_afterI (sl_RI.mono (fun y10 M9 gy10 hM9 H => ?_) H))
      refine r_callV (g := mX2_give) ckX2 rfl rfl rfl rfl mkX2_give mvX2_give ml_X3_39 ⟨by decide, by decide⟩ rfl (Nat.le_of_ble_eq_true rfl) rfl (ok_i g6 (ok_i gy10 ok_n)) dX3_perform_93 (sl_afterV (sl_RV.mono (fun M11 hM11 H => ?_) H))
      obtain ⟨c12, H⟩ := H
      refine r_iinc (k := 5) (ls' := [(6, vI (x6 + 1)), (0, vR 3 0), (2, vI x2), (3, vR o3 0), (4, vR o4 0), (5, vI x5)]) rfl c12 (by decide) rfl dX3_perform_96 ?_
      refine r_goto (tgt := 52) dX3_perform_99 (by decide) ?_
      exact sl_At.sub [1, 2, 3, 4, 5, 0] rfl H
set_option maxHeartbeats 4000000 in
set_option maxRecDepth 10000 in
theorem vX3_perform_136 {l : Launch} {M : sl_M} {Q : sl_R} {x2 x5 x6 x7 : Int} {o3 o4 : Nat} (ho3 : sl_cls o3 = 0) (ho4 : sl_cls o4 = 5) (H : sl_RM M → sl_rg x2 → sl_rg x5 → sl_rg x6 → sl_rg x7 → ((8 ≤ x7) → (sl_rg (M o3 0 11 - 1)) ∧ sl_RI l mX0_target [vR o3 0, vI x2, vI x6, vI 0, vI (M o3 0 11 - 1)] M (fun y4 M3 => Q (some (vI y4)) M3)) ∧ ((¬ (8 ≤ x7)) → ((¬ (iand (ishr (iand (M o4 0 3) (M 5 0 1)) x7) 1 ≠ 0)) → (sl_rg (x7 + 1)) ∧ sl_At l mX3_perform 136 [(0, vR 3 0), (2, vI x2), (3, vR o3 0), (4, vR o4 0), (5, vI x5), (6, vI x6), (7, vI (x7 + 1))] [] M Q) ∧ ((iand (ishr (iand (M o4 0 3) (M 5 0 1)) x7) 1 ≠ 0) → (0 ≤ x7 ∧ x7 < 8) ∧ sl_RV l mX2_give [vR 4 0, vI (iand (ishr x5 (3 * x7)) 7), vI (M 5 1 x7)] M (fun M8 => (sl_rg (x7 + 1)) ∧ sl_At l mX3_perform 136 [(0, vR 3 0), (2, vI x2), (3, vR o3 0), (4, vR o4 0), (5, vI x5), (6, vI x6), (7, vI (x7 + 1))] [] M8 Q)))) : sl_At l mX3_perform 136 [(0, vR 3 0), (2, vI x2), (3, vR o3 0), (4, vR o4 0), (5, vI x5), (6, vI x6), (7, vI x7)] [] M Q := by
  refine sl_At.in (fun hM hls => ?_)
  have g2 : sl_rg x2 := hls _ (List.mem_of_getElem? (i := 1) rfl)
  have g5 : sl_rg x5 := hls _ (List.mem_of_getElem? (i := 4) rfl)
  have g6 : sl_rg x6 := hls _ (List.mem_of_getElem? (i := 5) rfl)
  have g7 : sl_rg x7 := hls _ (List.mem_of_getElem? (i := 6) rfl)
  have H := H hM g2 g5 g6 g7
  refine r_iload (k := 6) rfl dX3_perform_136 ?_
  refine r_bipush dX3_perform_138 (by decide) ?_
  refine r_icmp_ge (tgt := 194) g7 ⟨by decide, by decide⟩ dX3_perform_140 (by decide) (fun h1 => ?_) (fun h1 => ?_)
  · have H := H.1 h1
    refine r_aload_n (k := 2) rfl rfl dX3_perform_194 ?_
    refine r_iload_n (k := 1) rfl rfl dX3_perform_195 ?_
    refine r_iload (k := 5) rfl dX3_perform_196 ?_
    refine r_iconst dX3_perform_198 ?_
    refine r_aload_n (k := 2) rfl rfl dX3_perform_199 ?_
    refine r_gI (k := 11) (kz := 11) rfl ckX0 ho3 rfl (by decide) rfl rfl fl_X3_61 dX3_perform_200 ?_
    refine r_iconst dX3_perform_203 ?_
    refine r_isub dX3_perform_204 ?_
    obtain ⟨c2, H⟩ := H
    refine r_callV (g := mX0_target) ckX0 ho3 rfl rfl rfl mkX0_target mvX0_target ml_X3_122 ⟨by decide, by decide⟩ rfl (Nat.le_of_ble_eq_true rfl) rfl (ok_i g2 (ok_i g6 (ok_i ⟨by decide, by decide⟩ (ok_i c2 ok_n)))) dX3_perform_205 (sl_afterI (sl_RI.mono (fun y4 M3 gy4 hM3 H => ?_) H))
    refine r_iret rfl gy4 dX3_perform_208 ?_
    exact H
  · have H := H.2 h1
    refine r_aload (k := 3) rfl dX3_perform_143 ?_
    refine r_gI (k := 3) (kz := 3) rfl ckX5 ho4 rfl (by decide) rfl rfl fl_X3_116 dX3_perform_145 ?_
    refine r_aload_n (k := 0) rfl rfl dX3_perform_148 ?_
    refine r_getR (k := 1) (o' := 5) (i' := 0) ckX3 rfl rfl (by decide) rfl rfl rfl fl_X3_18 dX3_perform_149 ?_
    refine r_gI (k := 1) (kz := 1) rfl ckX2 rfl rfl (by decide) rfl rfl fl_X3_35 dX3_perform_152 ?_
    refine r_iand dX3_perform_155 ?_
    refine r_iload (k := 6) rfl dX3_perform_156 ?_
    refine r_callSN (g := mX9_has) rfl mkX9_has msX9_has mn_X3_97 ⟨by decide, by decide⟩ rfl (Nat.le_of_ble_eq_true rfl) rfl (ok_i (rg_iand _ _) (ok_i g7 ok_n)) dX3_perform_158 (sl_afterI (sl_RI.by kX9_has ?_))
    refine r_if_eq (tgt := 188) rg_b dX3_perform_161 (by decide) (fun h5 => ?_) (fun h5 => ?_)
    · have H := H.1 (b_eq0.mp h5)
      obtain ⟨c6, H⟩ := H
      refine r_iinc (k := 6) (ls' := [(7, vI (x7 + 1)), (0, vR 3 0), (2, vI x2), (3, vR o3 0), (4, vR o4 0), (5, vI x5), (6, vI x6)]) rfl c6 (by decide) rfl dX3_perform_188 ?_
      refine r_goto (tgt := 136) dX3_perform_191 (by decide) ?_
      exact sl_At.sub [1, 2, 3, 4, 5, 6, 0] rfl H
    · have H := H.2 (b_ne0.mp h5)
      refine r_aload_n (k := 0) rfl rfl dX3_perform_164 ?_
      refine r_getR (k := 0) (o' := 4) (i' := 0) ckX3 rfl rfl (by decide) rfl rfl rfl fl_X3_12 dX3_perform_165 ?_
      refine r_iload (k := 4) rfl dX3_perform_168 ?_
      refine r_iload (k := 6) rfl dX3_perform_170 ?_
      refine r_callSN (g := mX9_renamed) rfl mkX9_renamed msX9_renamed mn_X3_101 ⟨by decide, by decide⟩ rfl (Nat.le_of_ble_eq_true rfl) rfl (ok_i g5 (ok_i g7 ok_n)) dX3_perform_172 (sl_afterI (sl_RI.by kX9_renamed ?_))
      refine r_aload_n (k := 0) rfl rfl dX3_perform_175 ?_
      refine r_getR (k := 1) (o' := 5) (i' := 0) ckX3 rfl rfl (by decide) rfl rfl rfl fl_X3_18 dX3_perform_176 ?_
      refine r_getR (k := 0) (o' := 5) (i' := 1) ckX2 rfl rfl (by decide) rfl rfl rfl fl_X3_119 dX3_perform_179 ?_
      refine r_iload (k := 6) rfl dX3_perform_182 ?_
      obtain ⟨c7, H⟩ := H
      refine r_iald rfl rfl rfl c7 dX3_perform_184 ?_
      refine r_callV (g := mX2_give) ckX2 rfl rfl rfl rfl mkX2_give mvX2_give ml_X3_39 ⟨by decide, by decide⟩ rfl (Nat.le_of_ble_eq_true rfl) rfl (ok_i (rgkX9_renamed _ _) (ok_i (hM _ _ _) ok_n)) dX3_perform_185 (sl_afterV (sl_RV.mono (fun M8 hM8 H => ?_) H))
      obtain ⟨c9, H⟩ := H
      refine r_iinc (k := 6) (ls' := [(7, vI (x7 + 1)), (0, vR 3 0), (2, vI x2), (3, vR o3 0), (4, vR o4 0), (5, vI x5), (6, vI x6)]) rfl c9 (by decide) rfl dX3_perform_188 ?_
      refine r_goto (tgt := 136) dX3_perform_191 (by decide) ?_
      exact sl_At.sub [1, 2, 3, 4, 5, 6, 0] rfl H
theorem eX3_perform {l : Launch} {M : sl_M} {Q : sl_R} {o1 : Nat} {x2 : Int} (k : sl_At l mX3_perform 0 [(0, vR 3 0), (1, vR o1 0), (2, vI x2)] [] M Q) : sl_Runs l mX3_perform [vR 3 0, vR o1 0, vI x2] M Q := sl_Runs.of (ls := [(0, vR 3 0), (1, vR o1 0), (2, vI x2)]) rfl rfl (fun _ => rfl) (fun _ => Nat.le_of_ble_eq_true rfl) rfl (k)
theorem dX3_walk_0 : decode cX3_walk 0 = .ok (.aload_n 1, 1) := by decide +kernel
theorem dX3_walk_1 : decode cX3_walk 1 = .ok (.getfield 61, 3) := by decide +kernel
theorem dX3_walk_4 : decode cX3_walk 4 = .ok (.ifCond .le 7, 3) := by decide +kernel
theorem dX3_walk_7 : decode cX3_walk 7 = .ok (.iconst 0, 1) := by decide +kernel
theorem dX3_walk_8 : decode cX3_walk 8 = .ok (.goto 4, 3) := by decide +kernel
theorem dX3_walk_11 : decode cX3_walk 11 = .ok (.iconst (-1), 1) := by decide +kernel
theorem dX3_walk_12 : decode cX3_walk 12 = .ok (.istore_n 2, 1) := by decide +kernel
theorem dX3_walk_13 : decode cX3_walk 13 = .ok (.iconst 0, 1) := by decide +kernel
theorem dX3_walk_14 : decode cX3_walk 14 = .ok (.istore_n 3, 1) := by decide +kernel
theorem dX3_walk_15 : decode cX3_walk 15 = .ok (.iload_n 3, 1) := by decide +kernel
theorem dX3_walk_16 : decode cX3_walk 16 = .ok (.ldc 66, 2) := by decide +kernel
theorem dX3_walk_18 : decode cX3_walk 18 = .ok (.if_icmp .ge 24, 3) := by decide +kernel
theorem dX3_walk_21 : decode cX3_walk 21 = .ok (.iload_n 2, 1) := by decide +kernel
theorem dX3_walk_22 : decode cX3_walk 22 = .ok (.ifCond .lt 20, 3) := by decide +kernel
theorem dX3_walk_25 : decode cX3_walk 25 = .ok (.aload_n 0, 1) := by decide +kernel
theorem dX3_walk_26 : decode cX3_walk 26 = .ok (.aload_n 1, 1) := by decide +kernel
theorem dX3_walk_27 : decode cX3_walk 27 = .ok (.iload_n 2, 1) := by decide +kernel
theorem dX3_walk_28 : decode cX3_walk 28 = .ok (.aload_n 0, 1) := by decide +kernel
theorem dX3_walk_29 : decode cX3_walk 29 = .ok (.getfield 18, 3) := by decide +kernel
theorem dX3_walk_32 : decode cX3_walk 32 = .ok (.invokevirtual 74, 3) := by decide +kernel
theorem dX3_walk_35 : decode cX3_walk 35 = .ok (.istore_n 2, 1) := by decide +kernel
theorem dX3_walk_36 : decode cX3_walk 36 = .ok (.iinc 3 1, 3) := by decide +kernel
theorem dX3_walk_39 : decode cX3_walk 39 = .ok (.goto (-24), 3) := by decide +kernel
theorem dX3_walk_42 : decode cX3_walk 42 = .ok (.iload_n 2, 1) := by decide +kernel
theorem dX3_walk_43 : decode cX3_walk 43 = .ok (.ifCond .ge 8, 3) := by decide +kernel
theorem dX3_walk_46 : decode cX3_walk 46 = .ok (.iload_n 2, 1) := by decide +kernel
theorem dX3_walk_47 : decode cX3_walk 47 = .ok (.ineg, 1) := by decide +kernel
theorem dX3_walk_48 : decode cX3_walk 48 = .ok (.goto 4, 3) := by decide +kernel
theorem dX3_walk_51 : decode cX3_walk 51 = .ok (.iconst 1, 1) := by decide +kernel
theorem dX3_walk_52 : decode cX3_walk 52 = .ok (.ireturn, 1) := by decide +kernel
set_option maxHeartbeats 4000000 in
set_option maxRecDepth 10000 in
theorem vX3_walk_0 {l : Launch} {M : sl_M} {Q : sl_R} {o1 : Nat} (ho1 : sl_cls o1 = 0) (H : sl_RM M → (∀ y2 : Int, y2 = (if M o1 0 11 ≤ 0 then (-1) else 0) → sl_At l mX3_walk 15 [(0, vR 3 0), (1, vR o1 0), (2, vI y2), (3, vI 0)] [] M Q)) : sl_At l mX3_walk 0 [(0, vR 3 0), (1, vR o1 0)] [] M Q := by
  refine sl_At.in (fun hM hls => ?_)
  have H := H hM
  refine r_aload_n (k := 1) rfl rfl dX3_walk_0 ?_
  refine r_gI (k := 11) (kz := 11) rfl ckX0 ho1 rfl (by decide) rfl rfl fl_X3_61 dX3_walk_1 ?_
  have J : sl_At l mX3_walk 12 [(0, vR 3 0), (1, vR o1 0)] [vI (if M o1 0 11 ≤ 0 then (-1) else 0)] M Q := by
    refine r_nm (fun y2 fy2 => ?_)
    have H := H y2 fy2
    have gy2 : sl_rg y2 := by rw [fy2]; exact (sl_rgite ⟨by decide, by decide⟩ ⟨by decide, by decide⟩)
    refine r_istore_n (ls' := [(2, vI y2), (0, vR 3 0), (1, vR o1 0)]) gy2 rfl (by decide) rfl dX3_walk_12 ?_
    refine r_iconst dX3_walk_13 ?_
    refine r_istore_n (ls' := [(3, vI 0), (2, vI y2), (0, vR 3 0), (1, vR o1 0)]) ⟨by decide, by decide⟩ rfl (by decide) rfl dX3_walk_14 ?_
    exact sl_At.sub [2, 3, 1, 0] rfl H
  refine r_if_le (tgt := 11) (hM _ _ _) dX3_walk_4 (by decide) (fun h1 => ?_) (fun h1 => ?_)
  · refine r_iconst dX3_walk_11 ?_
    rw [if_pos h1] at J
    exact J
  · refine r_iconst dX3_walk_7 ?_
    refine r_goto (tgt := 12) dX3_walk_8 (by decide) ?_
    rw [if_neg h1] at J
    exact J
set_option maxHeartbeats 4000000 in
set_option maxRecDepth 10000 in
theorem vX3_walk_15 {l : Launch} {M : sl_M} {Q : sl_R} {o1 : Nat} {x2 x3 : Int} (ho1 : sl_cls o1 = 0) (H : sl_RM M → sl_rg x2 → sl_rg x3 → ((1000000 ≤ x3) → (sl_rg (if 0 ≤ x2 then 1 else -x2)) ∧ Q (some (vI (if 0 ≤ x2 then 1 else -x2))) M) ∧ ((¬ (1000000 ≤ x3)) → ((x2 < 0) → (sl_rg (if 0 ≤ x2 then 1 else -x2)) ∧ Q (some (vI (if 0 ≤ x2 then 1 else -x2))) M) ∧ ((¬ (x2 < 0)) → sl_RI l mX3_step [vR 3 0, vR o1 0, vI x2, vR 5 0] M (fun y8 M7 => (sl_rg (x3 + 1)) ∧ sl_At l mX3_walk 15 [(0, vR 3 0), (1, vR o1 0), (2, vI y8), (3, vI (x3 + 1))] [] M7 Q)))) : sl_At l mX3_walk 15 [(0, vR 3 0), (1, vR o1 0), (2, vI x2), (3, vI x3)] [] M Q := by
  refine sl_At.in (fun hM hls => ?_)
  have g2 : sl_rg x2 := hls _ (List.mem_of_getElem? (i := 2) rfl)
  have g3 : sl_rg x3 := hls _ (List.mem_of_getElem? (i := 3) rfl)
  have H := H hM g2 g3
  refine r_iload_n (k := 3) rfl rfl dX3_walk_15 ?_
  refine r_ldc (n := 1000000) co_X3_66 dX3_walk_16 ?_
  refine r_icmp_ge (tgt := 42) g3 ⟨by decide, by decide⟩ dX3_walk_18 (by decide) (fun h1 => ?_) (fun h1 => ?_)
  · have H := H.1 h1
    refine r_iload_n (k := 2) rfl rfl dX3_walk_42 ?_
    have J : sl_At l mX3_walk 52 [(0, vR 3 0), (1, vR o1 0), (2, vI x2), (3, vI x3)] [vI (if 0 ≤ x2 then 1 else -x2)] M Q := by
      obtain ⟨c3, H⟩ := H
      refine r_iret rfl c3 dX3_walk_52 ?_
      exact H
    refine r_if_ge (tgt := 51) g2 dX3_walk_43 (by decide) (fun h2 => ?_) (fun h2 => ?_)
    · refine r_iconst dX3_walk_51 ?_
      rw [if_pos h2] at J
      exact J
    · refine r_iload_n (k := 2) rfl rfl dX3_walk_46 ?_
      refine r_ineg dX3_walk_47 ?_
      refine r_goto (tgt := 52) dX3_walk_48 (by decide) ?_
      rw [if_neg h2] at J
      exact J
  · have H := H.2 h1
    refine r_iload_n (k := 2) rfl rfl dX3_walk_21 ?_
    refine r_if_lt (tgt := 42) g2 dX3_walk_22 (by decide) (fun h4 => ?_) (fun h4 => ?_)
    · have H := H.1 h4
      refine r_iload_n (k := 2) rfl rfl dX3_walk_42 ?_
      have J : sl_At l mX3_walk 52 [(0, vR 3 0), (1, vR o1 0), (2, vI x2), (3, vI x3)] [vI (if 0 ≤ x2 then 1 else -x2)] M Q := by
        obtain ⟨c6, H⟩ := H
        refine r_iret rfl c6 dX3_walk_52 ?_
        exact H
      refine r_if_ge (tgt := 51) g2 dX3_walk_43 (by decide) (fun h5 => ?_) (fun h5 => ?_)
      · refine r_iconst dX3_walk_51 ?_
        rw [if_pos h5] at J
        exact J
      · refine r_iload_n (k := 2) rfl rfl dX3_walk_46 ?_
        refine r_ineg dX3_walk_47 ?_
        refine r_goto (tgt := 52) dX3_walk_48 (by decide) ?_
        rw [if_neg h5] at J
        exact J
    · have H := H.2 h4
      refine r_aload_n (k := 0) rfl rfl dX3_walk_25 ?_
      refine r_aload_n (k := 1) rfl rfl dX3_walk_26 ?_
      refine r_iload_n (k := 2) rfl rfl dX3_walk_27 ?_
      refine r_aload_n (k := 0) rfl rfl dX3_walk_28 ?_
      refine r_getR (k := 1) (o' := 5) (i' := 0) ckX3 rfl rfl (by decide) rfl rfl rfl fl_X3_18 dX3_walk_29 ?_
      refine r_callV (g := mX3_step) ckX3 rfl rfl rfl rfl mkX3_step mvX3_step ml_X3_74 ⟨by decide, by decide⟩ rfl (Nat.le_of_ble_eq_true rfl) rfl (ok_r (ok_i g2 (ok_r ok_n))) dX3_walk_32 (sl_afterI (sl_RI.mono (fun y8 M7 gy8 hM7 H => ?_) H))
      refine r_istore_n (ls' := [(2, vI y8), (0, vR 3 0), (1, vR o1 0), (3, vI x3)]) gy8 rfl (by decide) rfl dX3_walk_35 ?_
      obtain ⟨c9, H⟩ := H
      refine r_iinc (k := 3) (ls' := [(3, vI (x3 + 1)), (2, vI y8), (0, vR 3 0), (1, vR o1 0)]) rfl c9 (by decide) rfl dX3_walk_36 ?_
      refine r_goto (tgt := 15) dX3_walk_39 (by decide) ?_
      exact sl_At.sub [2, 3, 1, 0] rfl H
theorem eX3_walk {l : Launch} {M : sl_M} {Q : sl_R} {o1 : Nat} (k : sl_At l mX3_walk 0 [(0, vR 3 0), (1, vR o1 0)] [] M Q) : sl_Runs l mX3_walk [vR 3 0, vR o1 0] M Q := sl_Runs.of (ls := [(0, vR 3 0), (1, vR o1 0)]) rfl rfl (fun _ => rfl) (fun _ => Nat.le_of_ble_eq_true rfl) rfl (k)
theorem dX3_step_0 : decode cX3_step 0 = .ok (.aload_n 1, 1) := by decide +kernel
theorem dX3_step_1 : decode cX3_step 1 = .ok (.getfield 61, 3) := by decide +kernel
theorem dX3_step_4 : decode cX3_step 4 = .ok (.iconst 1, 1) := by decide +kernel
theorem dX3_step_5 : decode cX3_step 5 = .ok (.isub, 1) := by decide +kernel
theorem dX3_step_6 : decode cX3_step 6 = .ok (.istore 4, 2) := by decide +kernel
theorem dX3_step_8 : decode cX3_step 8 = .ok (.aload_n 0, 1) := by decide +kernel
theorem dX3_step_9 : decode cX3_step 9 = .ok (.getfield 46, 3) := by decide +kernel
theorem dX3_step_12 : decode cX3_step 12 = .ok (.sipush 400, 3) := by decide +kernel
theorem dX3_step_15 : decode cX3_step 15 = .ok (.if_icmp .lt 10, 3) := by decide +kernel
theorem dX3_step_18 : decode cX3_step 18 = .ok (.aload_n 0, 1) := by decide +kernel
theorem dX3_step_19 : decode cX3_step 19 = .ok (.iconst 3, 1) := by decide +kernel
theorem dX3_step_20 : decode cX3_step 20 = .ok (.putfield 52, 3) := by decide +kernel
theorem dX3_step_23 : decode cX3_step 23 = .ok (.iconst (-1), 1) := by decide +kernel
theorem dX3_step_24 : decode cX3_step 24 = .ok (.ireturn, 1) := by decide +kernel
theorem dX3_step_25 : decode cX3_step 25 = .ok (.aload_n 0, 1) := by decide +kernel
theorem dX3_step_26 : decode cX3_step 26 = .ok (.dup, 1) := by decide +kernel
theorem dX3_step_27 : decode cX3_step 27 = .ok (.getfield 46, 3) := by decide +kernel
theorem dX3_step_30 : decode cX3_step 30 = .ok (.iconst 1, 1) := by decide +kernel
theorem dX3_step_31 : decode cX3_step 31 = .ok (.iadd, 1) := by decide +kernel
theorem dX3_step_32 : decode cX3_step 32 = .ok (.putfield 46, 3) := by decide +kernel
theorem dX3_step_35 : decode cX3_step 35 = .ok (.aload_n 0, 1) := by decide +kernel
theorem dX3_step_36 : decode cX3_step 36 = .ok (.aload_n 1, 1) := by decide +kernel
theorem dX3_step_37 : decode cX3_step 37 = .ok (.iload_n 2, 1) := by decide +kernel
theorem dX3_step_38 : decode cX3_step 38 = .ok (.aload_n 3, 1) := by decide +kernel
theorem dX3_step_39 : decode cX3_step 39 = .ok (.invokevirtual 126, 3) := by decide +kernel
theorem dX3_step_42 : decode cX3_step 42 = .ok (.istore 5, 2) := by decide +kernel
theorem dX3_step_44 : decode cX3_step 44 = .ok (.aload_n 0, 1) := by decide +kernel
theorem dX3_step_45 : decode cX3_step 45 = .ok (.getfield 52, 3) := by decide +kernel
theorem dX3_step_48 : decode cX3_step 48 = .ok (.ifCond .eq 5, 3) := by decide +kernel
theorem dX3_step_51 : decode cX3_step 51 = .ok (.iconst (-1), 1) := by decide +kernel
theorem dX3_step_52 : decode cX3_step 52 = .ok (.ireturn, 1) := by decide +kernel
theorem dX3_step_53 : decode cX3_step 53 = .ok (.aload_n 1, 1) := by decide +kernel
theorem dX3_step_54 : decode cX3_step 54 = .ok (.getfield 67, 3) := by decide +kernel
theorem dX3_step_57 : decode cX3_step 57 = .ok (.iload_n 2, 1) := by decide +kernel
theorem dX3_step_58 : decode cX3_step 58 = .ok (.iaload, 1) := by decide +kernel
theorem dX3_step_59 : decode cX3_step 59 = .ok (.tableswitch 98 0 4 #[33, 54, 69, 78, 88], 33) := by decide +kernel
theorem dX3_step_92 : decode cX3_step 92 = .ok (.aload_n 3, 1) := by decide +kernel
theorem dX3_step_93 : decode cX3_step 93 = .ok (.aload_n 1, 1) := by decide +kernel
theorem dX3_step_94 : decode cX3_step 94 = .ok (.getfield 78, 3) := by decide +kernel
theorem dX3_step_97 : decode cX3_step 97 = .ok (.iload_n 2, 1) := by decide +kernel
theorem dX3_step_98 : decode cX3_step 98 = .ok (.iaload, 1) := by decide +kernel
theorem dX3_step_99 : decode cX3_step 99 = .ok (.iload 5, 2) := by decide +kernel
theorem dX3_step_101 : decode cX3_step 101 = .ok (.invokevirtual 39, 3) := by decide +kernel
theorem dX3_step_104 : decode cX3_step 104 = .ok (.aload_n 1, 1) := by decide +kernel
theorem dX3_step_105 : decode cX3_step 105 = .ok (.iload_n 2, 1) := by decide +kernel
theorem dX3_step_106 : decode cX3_step 106 = .ok (.iconst 0, 1) := by decide +kernel
theorem dX3_step_107 : decode cX3_step 107 = .ok (.iload 4, 2) := by decide +kernel
theorem dX3_step_109 : decode cX3_step 109 = .ok (.invokevirtual 129, 3) := by decide +kernel
theorem dX3_step_112 : decode cX3_step 112 = .ok (.ireturn, 1) := by decide +kernel
theorem dX3_step_113 : decode cX3_step 113 = .ok (.aload_n 0, 1) := by decide +kernel
theorem dX3_step_114 : decode cX3_step 114 = .ok (.iload 5, 2) := by decide +kernel
theorem dX3_step_116 : decode cX3_step 116 = .ok (.invokevirtual 133, 3) := by decide +kernel
theorem dX3_step_119 : decode cX3_step 119 = .ok (.aload_n 1, 1) := by decide +kernel
theorem dX3_step_120 : decode cX3_step 120 = .ok (.iload_n 2, 1) := by decide +kernel
theorem dX3_step_121 : decode cX3_step 121 = .ok (.iconst 0, 1) := by decide +kernel
theorem dX3_step_122 : decode cX3_step 122 = .ok (.iload 4, 2) := by decide +kernel
theorem dX3_step_124 : decode cX3_step 124 = .ok (.invokevirtual 129, 3) := by decide +kernel
theorem dX3_step_127 : decode cX3_step 127 = .ok (.ireturn, 1) := by decide +kernel
theorem dX3_step_128 : decode cX3_step 128 = .ok (.aload_n 0, 1) := by decide +kernel
theorem dX3_step_129 : decode cX3_step 129 = .ok (.iload 5, 2) := by decide +kernel
theorem dX3_step_131 : decode cX3_step 131 = .ok (.putfield 43, 3) := by decide +kernel
theorem dX3_step_134 : decode cX3_step 134 = .ok (.bipush (-8), 2) := by decide +kernel
theorem dX3_step_136 : decode cX3_step 136 = .ok (.ireturn, 1) := by decide +kernel
theorem dX3_step_137 : decode cX3_step 137 = .ok (.aload_n 1, 1) := by decide +kernel
theorem dX3_step_138 : decode cX3_step 138 = .ok (.iload_n 2, 1) := by decide +kernel
theorem dX3_step_139 : decode cX3_step 139 = .ok (.iconst 2, 1) := by decide +kernel
theorem dX3_step_140 : decode cX3_step 140 = .ok (.iconst 0, 1) := by decide +kernel
theorem dX3_step_141 : decode cX3_step 141 = .ok (.iload 4, 2) := by decide +kernel
theorem dX3_step_143 : decode cX3_step 143 = .ok (.invokevirtual 122, 3) := by decide +kernel
theorem dX3_step_146 : decode cX3_step 146 = .ok (.ireturn, 1) := by decide +kernel
theorem dX3_step_147 : decode cX3_step 147 = .ok (.aload_n 1, 1) := by decide +kernel
theorem dX3_step_148 : decode cX3_step 148 = .ok (.iload_n 2, 1) := by decide +kernel
theorem dX3_step_149 : decode cX3_step 149 = .ok (.iconst 4, 1) := by decide +kernel
theorem dX3_step_150 : decode cX3_step 150 = .ok (.iconst 0, 1) := by decide +kernel
theorem dX3_step_151 : decode cX3_step 151 = .ok (.iload 4, 2) := by decide +kernel
theorem dX3_step_153 : decode cX3_step 153 = .ok (.invokevirtual 122, 3) := by decide +kernel
theorem dX3_step_156 : decode cX3_step 156 = .ok (.ireturn, 1) := by decide +kernel
theorem dX3_step_157 : decode cX3_step 157 = .ok (.aload_n 1, 1) := by decide +kernel
theorem dX3_step_158 : decode cX3_step 158 = .ok (.iload_n 2, 1) := by decide +kernel
theorem dX3_step_159 : decode cX3_step 159 = .ok (.iload 5, 2) := by decide +kernel
theorem dX3_step_161 : decode cX3_step 161 = .ok (.ifCond .eq 7, 3) := by decide +kernel
theorem dX3_step_164 : decode cX3_step 164 = .ok (.iconst 0, 1) := by decide +kernel
theorem dX3_step_165 : decode cX3_step 165 = .ok (.goto 4, 3) := by decide +kernel
theorem dX3_step_168 : decode cX3_step 168 = .ok (.iconst 1, 1) := by decide +kernel
theorem dX3_step_169 : decode cX3_step 169 = .ok (.iconst 0, 1) := by decide +kernel
theorem dX3_step_170 : decode cX3_step 170 = .ok (.iload 4, 2) := by decide +kernel
theorem dX3_step_172 : decode cX3_step 172 = .ok (.invokevirtual 137, 3) := by decide +kernel
theorem dX3_step_175 : decode cX3_step 175 = .ok (.ireturn, 1) := by decide +kernel
set_option maxHeartbeats 4000000 in
set_option maxRecDepth 10000 in
theorem vX3_step_0 {l : Launch} {M : sl_M} {Q : sl_R} {o1 o3 : Nat} {x2 : Int} (ho1 : sl_cls o1 = 0) (ho3 : sl_cls o3 = 2) (H : sl_RM M → sl_rg x2 → (sl_rg (M o1 0 11 - 1)) ∧ (∀ y2 : Int, y2 = M o1 0 11 - 1 → ((M 3 0 3 < 400) → (sl_rg (M 3 0 3 + 1)) ∧ (∀ M5, M5 = sl_wr M 3 0 3 (M 3 0 3 + 1) → sl_RI l mX3_evaluate [vR 3 0, vR o1 0, vI x2, vR o3 0] M5 (fun y7 M6 => ((M6 3 0 6 = 0) → (0 ≤ x2 ∧ x2 < 40) ∧ ((M6 o1 1 x2 = 0) → sl_RV l mX2_give [vR o3 0, vI (M6 o1 6 x2), vI y7] M6 (fun M10 => sl_RI l mX0_behind [vR o1 0, vI x2, vI 0, vI y2] M10 (fun y12 M11 => Q (some (vI y12)) M11))) ∧ ((M6 o1 1 x2 = 1) → sl_RV l mX3_print [vR 3 0, vI y7] M6 (fun M13 => sl_RI l mX0_behind [vR o1 0, vI x2, vI 0, vI y2] M13 (fun y15 M14 => Q (some (vI y15)) M14))) ∧ ((M6 o1 1 x2 = 2) → (∀ M16, M16 = sl_wr M6 3 0 2 y7 → Q (some (vI (-8))) M16)) ∧ ((M6 o1 1 x2 = 3) → sl_RI l mX0_target [vR o1 0, vI x2, vI 2, vI 0, vI y2] M6 (fun y18 M17 => Q (some (vI y18)) M17)) ∧ ((M6 o1 1 x2 = 4) → sl_RI l mX0_target [vR o1 0, vI x2, vI 4, vI 0, vI y2] M6 (fun y20 M19 => Q (some (vI y20)) M19)) ∧ ((¬ (M6 o1 1 x2 = 0) ∧ ¬ (M6 o1 1 x2 = 1) ∧ ¬ (M6 o1 1 x2 = 2) ∧ ¬ (M6 o1 1 x2 = 3) ∧ ¬ (M6 o1 1 x2 = 4)) → sl_RI l mX0_enter [vR o1 0, vI x2, vI (if y7 = 0 then 1 else 0), vI 0, vI y2] M6 (fun y23 M22 => Q (some (vI y23)) M22))) ∧ ((¬ (M6 3 0 6 = 0)) → Q (some (vI (-1))) M6)))) ∧ ((¬ (M 3 0 3 < 400)) → (∀ M29, M29 = sl_wr M 3 0 6 3 → Q (some (vI (-1))) M29)))) : sl_At l mX3_step 0 [(0, vR 3 0), (1, vR o1 0), (2, vI x2), (3, vR o3 0)] [] M Q := by
  refine sl_At.in (fun hM hls => ?_)
  have g2 : sl_rg x2 := hls _ (List.mem_of_getElem? (i := 2) rfl)
  have H := H hM g2
  refine r_aload_n (k := 1) rfl rfl dX3_step_0 ?_
  refine r_gI (k := 11) (kz := 11) rfl ckX0 ho1 rfl (by decide) rfl rfl fl_X3_61 dX3_step_1 ?_
  refine r_iconst dX3_step_4 ?_
  refine r_isub dX3_step_5 ?_
  obtain ⟨c1, H⟩ := H
  refine r_nm (fun y2 fy2 => ?_)
  have H := H y2 fy2
  have gy2 : sl_rg y2 := by rw [fy2]; exact c1
  refine r_istore (ls' := [(4, vI y2), (0, vR 3 0), (1, vR o1 0), (2, vI x2), (3, vR o3 0)]) gy2 (by decide) rfl dX3_step_6 ?_
  refine r_aload_n (k := 1) rfl rfl dX3_step_8 ?_
  refine r_gI (k := 3) (kz := 3) rfl ckX3 rfl rfl (by decide) rfl rfl fl_X3_46 dX3_step_9 ?_
  refine r_sipush dX3_step_12 (by decide) ?_
  refine r_icmp_lt (tgt := 25) (hM _ _ _) ⟨by decide, by decide⟩ dX3_step_15 (by decide) (fun h3 => ?_) (fun h3 => ?_)
  · have H := H.1 h3
    refine r_aload_n (k := 1) rfl rfl dX3_step_25 ?_
    refine r_dup rfl dX3_step_26 ?_
    refine r_gI (k := 3) (kz := 3) rfl ckX3 rfl rfl (by decide) rfl rfl fl_X3_46 dX3_step_27 ?_
    refine r_iconst dX3_step_30 ?_
    refine r_iadd dX3_step_31 ?_
    obtain ⟨c4, H⟩ := H
    refine r_pI (k := 3) (kz := 3) rfl ckX3 rfl rfl (by decide) rfl rfl rfl rfl fl_X3_46 c4 dX3_step_32 ?_
    refine r_mm (fun M5 e5 => ?_)
    have H := H M5 e5
    have hM5 : sl_RM M5 := by rw [e5]; exact sl_wr_RM hM c4
    refine r_aload_n (k := 1) rfl rfl dX3_step_35 ?_
    refine r_aload_n (k := 2) rfl rfl dX3_step_36 ?_
    refine r_iload_n (k := 3) rfl rfl dX3_step_37 ?_
    refine r_aload_n (k := 4) rfl rfl dX3_step_38 ?_
    refine r_callV (g := mX3_evaluate) ckX3 rfl rfl rfl rfl mkX3_evaluate mvX3_evaluate ml_X3_126 ⟨by decide, by decide⟩ rfl (Nat.le_of_ble_eq_true rfl) rfl (ok_r (ok_i g2 (ok_r ok_n))) dX3_step_39 (sl_afterI (sl_RI.mono (fun y7 M6 gy7 hM6 H => ?_) H))
    refine r_istore (ls' := [(5, vI y7), (4, vI y2), (0, vR 3 0), (1, vR o1 0), (2, vI x2), (3, vR o3 0)]) gy7 (by decide) rfl dX3_step_42 ?_
    refine r_aload_n (k := 2) rfl rfl dX3_step_44 ?_
    refine r_gI (k := 6) (kz := 6) rfl ckX3 rfl rfl (by decide) rfl rfl fl_X3_52 dX3_step_45 ?_
    refine r_if_eq (tgt := 53) (hM6 _ _ _) dX3_step_48 (by decide) (fun h8 => ?_) (fun h8 => ?_)
    · have H := H.1 h8
      refine r_aload_n (k := 3) rfl rfl dX3_step_53 ?_
      refine r_getR (k := 0) (o' := o1) (i' := 1) ckX0 ho1 rfl (by decide) rfl rfl rfl fl_X3_67 dX3_step_54 ?_
      refine r_iload_n (k := 4) rfl rfl dX3_step_57 ?_
      obtain ⟨c9, H⟩ := H
      refine r_iald ho1 rfl rfl c9 dX3_step_58 ?_
      by_cases h24 : M6 o1 1 x2 = 0
      · refine r_tsIn (tgt := 92) 0 (hM6 _ _ _) dX3_step_59 (by omega) (by decide) rfl (by decide) ?_
        have H := H.1 (by omega)
        refine r_aload_n (k := 5) rfl rfl dX3_step_92 ?_
        refine r_aload_n (k := 3) rfl rfl dX3_step_93 ?_
        refine r_getR (k := 5) (o' := o1) (i' := 6) ckX0 ho1 rfl (by decide) rfl rfl rfl fl_X3_78 dX3_step_94 ?_
        refine r_iload_n (k := 4) rfl rfl dX3_step_97 ?_
        refine r_iald ho1 rfl rfl c9 dX3_step_98 ?_
        refine r_iload (k := 0) rfl dX3_step_99 ?_
        refine r_callV (g := mX2_give) ckX2 ho3 rfl rfl rfl mkX2_give mvX2_give ml_X3_39 ⟨by decide, by decide⟩ rfl (Nat.le_of_ble_eq_true rfl) rfl (ok_i (hM6 _ _ _) (ok_i gy7 ok_n)) dX3_step_101 (sl_afterV (sl_RV.mono (fun M10 hM10 H => ?_) H))
        refine r_aload_n (k := 3) rfl rfl dX3_step_104 ?_
        refine r_iload_n (k := 4) rfl rfl dX3_step_105 ?_
        refine r_iconst dX3_step_106 ?_
        refine r_iload (k := 1) rfl dX3_step_107 ?_
        refine r_callV (g := mX0_behind) ckX0 ho1 rfl rfl rfl mkX0_behind mvX0_behind ml_X3_129 ⟨by decide, by decide⟩ rfl (Nat.le_of_ble_eq_true rfl) rfl (ok_i g2 (ok_i ⟨by decide, by decide⟩ (ok_i gy2 ok_n))) dX3_step_109 (sl_afterI (sl_RI.mono (fun y12 M11 gy12 hM11 H => ?_) H))
        refine r_iret rfl gy12 dX3_step_112 ?_
        exact H
      by_cases h25 : M6 o1 1 x2 = 1
      · refine r_tsIn (tgt := 113) 1 (hM6 _ _ _) dX3_step_59 (by omega) (by decide) rfl (by decide) ?_
        have H := H.2.1 (by omega)
        refine r_aload_n (k := 2) rfl rfl dX3_step_113 ?_
        refine r_iload (k := 0) rfl dX3_step_114 ?_
        refine r_callV (g := mX3_print) ckX3 rfl rfl rfl rfl mkX3_print mvX3_print ml_X3_133 ⟨by decide, by decide⟩ rfl (Nat.le_of_ble_eq_true rfl) rfl (ok_i gy7 ok_n) dX3_step_116 (sl_afterV (sl_RV.mono (fun M13 hM13 H => ?_) H))
        refine r_aload_n (k := 3) rfl rfl dX3_step_119 ?_
        refine r_iload_n (k := 4) rfl rfl dX3_step_120 ?_
        refine r_iconst dX3_step_121 ?_
        refine r_iload (k := 1) rfl dX3_step_122 ?_
        refine r_callV (g := mX0_behind) ckX0 ho1 rfl rfl rfl mkX0_behind mvX0_behind ml_X3_129 ⟨by decide, by decide⟩ rfl (Nat.le_of_ble_eq_true rfl) rfl (ok_i g2 (ok_i ⟨by decide, by decide⟩ (ok_i gy2 ok_n))) dX3_step_124 (sl_afterI (sl_RI.mono (fun y15 M14 gy15 hM14 H => ?_) H))
        refine r_iret rfl gy15 dX3_step_127 ?_
        exact H
      by_cases h26 : M6 o1 1 x2 = 2
      · refine r_tsIn (tgt := 128) 2 (hM6 _ _ _) dX3_step_59 (by omega) (by decide) rfl (by decide) ?_
        have H := H.2.2.1 (by omega)
        refine r_aload_n (k := 2) rfl rfl dX3_step_128 ?_
        refine r_iload (k := 0) rfl dX3_step_129 ?_
        refine r_pI (k := 2) (kz := 2) rfl ckX3 rfl rfl (by decide) rfl rfl rfl rfl fl_X3_43 gy7 dX3_step_131 ?_
        refine r_mm (fun M16 e16 => ?_)
        have H := H M16 e16
        have hM16 : sl_RM M16 := by rw [e16]; exact sl_wr_RM hM6 gy7
        refine r_bipush dX3_step_134 (by decide) ?_
        refine r_iret rfl ⟨by decide, by decide⟩ dX3_step_136 ?_
        exact H
      by_cases h27 : M6 o1 1 x2 = 3
      · refine r_tsIn (tgt := 137) 3 (hM6 _ _ _) dX3_step_59 (by omega) (by decide) rfl (by decide) ?_
        have H := H.2.2.2.1 (by omega)
        refine r_aload_n (k := 3) rfl rfl dX3_step_137 ?_
        refine r_iload_n (k := 4) rfl rfl dX3_step_138 ?_
        refine r_iconst dX3_step_139 ?_
        refine r_iconst dX3_step_140 ?_
        refine r_iload (k := 1) rfl dX3_step_141 ?_
        refine r_callV (g := mX0_target) ckX0 ho1 rfl rfl rfl mkX0_target mvX0_target ml_X3_122 ⟨by decide, by decide⟩ rfl (Nat.le_of_ble_eq_true rfl) rfl (ok_i g2 (ok_i ⟨by decide, by decide⟩ (ok_i ⟨by decide, by decide⟩ (ok_i gy2 ok_n)))) dX3_step_143 (sl_afterI (sl_RI.mono (fun y18 M17 gy18 hM17 H => ?_) H))
        refine r_iret rfl gy18 dX3_step_146 ?_
        exact H
      by_cases h28 : M6 o1 1 x2 = 4
      · refine r_tsIn (tgt := 147) 4 (hM6 _ _ _) dX3_step_59 (by omega) (by decide) rfl (by decide) ?_
        have H := H.2.2.2.2.1 (by omega)
        refine r_aload_n (k := 3) rfl rfl dX3_step_147 ?_
        refine r_iload_n (k := 4) rfl rfl dX3_step_148 ?_
        refine r_iconst dX3_step_149 ?_
        refine r_iconst dX3_step_150 ?_
        refine r_iload (k := 1) rfl dX3_step_151 ?_
        refine r_callV (g := mX0_target) ckX0 ho1 rfl rfl rfl mkX0_target mvX0_target ml_X3_122 ⟨by decide, by decide⟩ rfl (Nat.le_of_ble_eq_true rfl) rfl (ok_i g2 (ok_i ⟨by decide, by decide⟩ (ok_i ⟨by decide, by decide⟩ (ok_i gy2 ok_n)))) dX3_step_153 (sl_afterI (sl_RI.mono (fun y20 M19 gy20 hM19 H => ?_) H))
        refine r_iret rfl gy20 dX3_step_156 ?_
        exact H
      refine r_tsOut (tgt := 157) (hM6 _ _ _) dX3_step_59 (by omega) (by decide) ?_
      have H := H.2.2.2.2.2 (by omega)
      refine r_aload_n (k := 3) rfl rfl dX3_step_157 ?_
      refine r_iload_n (k := 4) rfl rfl dX3_step_158 ?_
      refine r_iload (k := 0) rfl dX3_step_159 ?_
      have J : sl_At l mX3_step 169 [(5, vI y7), (4, vI y2), (0, vR 3 0), (1, vR o1 0), (2, vI x2), (3, vR o3 0)] [vI (if y7 = 0 then 1 else 0), vI x2, vR o1 0] M6 Q := by
        refine r_iconst dX3_step_169 ?_
        refine r_iload (k := 1) rfl dX3_step_170 ?_
        refine r_callV (g := mX0_enter) ckX0 ho1 rfl rfl rfl mkX0_enter mvX0_enter ml_X3_137 ⟨by decide, by decide⟩ rfl (Nat.le_of_ble_eq_true rfl) rfl (ok_i g2 (ok_i rg_b (ok_i ⟨by decide, by decide⟩ (ok_i gy2 ok_n)))) dX3_step_172 (sl_afterI (sl_RI.mono (fun y23 M22 gy23 hM22 H => ?_) H))
        refine r_iret rfl gy23 dX3_step_175 ?_
        exact H
      refine r_if_eq (tgt := 168) gy7 dX3_step_161 (by decide) (fun h21 => ?_) (fun h21 => ?_)
      · refine r_iconst dX3_step_168 ?_
        rw [if_pos (show y7 = 0 by omega)] at J
        exact J
      · refine r_iconst dX3_step_164 ?_
        refine r_goto (tgt := 169) dX3_step_165 (by decide) ?_
        rw [if_neg (show ¬ (y7 = 0) by omega)] at J
        exact J
    · have H := H.2 h8
      refine r_iconst dX3_step_51 ?_
      refine r_iret rfl ⟨by decide, by decide⟩ dX3_step_52 ?_
      exact H
  · have H := H.2 h3
    refine r_aload_n (k := 1) rfl rfl dX3_step_18 ?_
    refine r_iconst dX3_step_19 ?_
    refine r_pI (k := 6) (kz := 6) rfl ckX3 rfl rfl (by decide) rfl rfl rfl rfl fl_X3_52 ⟨by decide, by decide⟩ dX3_step_20 ?_
    refine r_mm (fun M29 e29 => ?_)
    have H := H M29 e29
    have hM29 : sl_RM M29 := by rw [e29]; exact sl_wr_RM hM ⟨by decide, by decide⟩
    refine r_iconst dX3_step_23 ?_
    refine r_iret rfl ⟨by decide, by decide⟩ dX3_step_24 ?_
    exact H
theorem eX3_step {l : Launch} {M : sl_M} {Q : sl_R} {o1 o3 : Nat} {x2 : Int} (k : sl_At l mX3_step 0 [(0, vR 3 0), (1, vR o1 0), (2, vI x2), (3, vR o3 0)] [] M Q) : sl_Runs l mX3_step [vR 3 0, vR o1 0, vI x2, vR o3 0] M Q := sl_Runs.of (ls := [(0, vR 3 0), (1, vR o1 0), (2, vI x2), (3, vR o3 0)]) rfl rfl (fun _ => rfl) (fun _ => Nat.le_of_ble_eq_true rfl) rfl (k)
theorem dX3_print_0 : decode cX3_print 0 = .ok (.aload_n 0, 1) := by decide +kernel
theorem dX3_print_1 : decode cX3_print 1 = .ok (.getfield 49, 3) := by decide +kernel
theorem dX3_print_4 : decode cX3_print 4 = .ok (.sipush 400, 3) := by decide +kernel
theorem dX3_print_7 : decode cX3_print 7 = .ok (.if_icmp .ge 23, 3) := by decide +kernel
theorem dX3_print_10 : decode cX3_print 10 = .ok (.aload_n 0, 1) := by decide +kernel
theorem dX3_print_11 : decode cX3_print 11 = .ok (.getfield 21, 3) := by decide +kernel
theorem dX3_print_14 : decode cX3_print 14 = .ok (.aload_n 0, 1) := by decide +kernel
theorem dX3_print_15 : decode cX3_print 15 = .ok (.getfield 49, 3) := by decide +kernel
theorem dX3_print_18 : decode cX3_print 18 = .ok (.iload_n 1, 1) := by decide +kernel
theorem dX3_print_19 : decode cX3_print 19 = .ok (.iastore, 1) := by decide +kernel
theorem dX3_print_20 : decode cX3_print 20 = .ok (.aload_n 0, 1) := by decide +kernel
theorem dX3_print_21 : decode cX3_print 21 = .ok (.dup, 1) := by decide +kernel
theorem dX3_print_22 : decode cX3_print 22 = .ok (.getfield 49, 3) := by decide +kernel
theorem dX3_print_25 : decode cX3_print 25 = .ok (.iconst 1, 1) := by decide +kernel
theorem dX3_print_26 : decode cX3_print 26 = .ok (.iadd, 1) := by decide +kernel
theorem dX3_print_27 : decode cX3_print 27 = .ok (.putfield 49, 3) := by decide +kernel
theorem dX3_print_30 : decode cX3_print 30 = .ok (.return_, 1) := by decide +kernel
set_option maxHeartbeats 4000000 in
set_option maxRecDepth 10000 in
theorem vX3_print_0 {l : Launch} {M : sl_M} {Q : sl_R} {x1 : Int} (H : sl_RM M → sl_rg x1 → ((400 ≤ M 3 0 5) → Q none M) ∧ ((¬ (400 ≤ M 3 0 5)) → (0 ≤ M 3 0 5 ∧ M 3 0 5 < 400) ∧ (∀ M3, M3 = sl_wr M 3 5 (M 3 0 5) x1 → (sl_rg (M3 3 0 5 + 1)) ∧ (∀ M5, M5 = sl_wr M3 3 0 5 (M3 3 0 5 + 1) → Q none M5)))) : sl_At l mX3_print 0 [(0, vR 3 0), (1, vI x1)] [] M Q := by
  refine sl_At.in (fun hM hls => ?_)
  have g1 : sl_rg x1 := hls _ (List.mem_of_getElem? (i := 1) rfl)
  have H := H hM g1
  refine r_aload_n (k := 0) rfl rfl dX3_print_0 ?_
  refine r_gI (k := 5) (kz := 5) rfl ckX3 rfl rfl (by decide) rfl rfl fl_X3_49 dX3_print_1 ?_
  refine r_sipush dX3_print_4 (by decide) ?_
  refine r_icmp_ge (tgt := 30) (hM _ _ _) ⟨by decide, by decide⟩ dX3_print_7 (by decide) (fun h1 => ?_) (fun h1 => ?_)
  · have H := H.1 h1
    refine r_vret rfl dX3_print_30 ?_
    exact H
  · have H := H.2 h1
    refine r_aload_n (k := 0) rfl rfl dX3_print_10 ?_
    refine r_getR (k := 4) (o' := 3) (i' := 5) ckX3 rfl rfl (by decide) rfl rfl rfl fl_X3_21 dX3_print_11 ?_
    refine r_aload_n (k := 0) rfl rfl dX3_print_14 ?_
    refine r_gI (k := 5) (kz := 5) rfl ckX3 rfl rfl (by decide) rfl rfl fl_X3_49 dX3_print_15 ?_
    refine r_iload_n (k := 1) rfl rfl dX3_print_18 ?_
    obtain ⟨c2, H⟩ := H
    refine r_iast rfl rfl rfl c2 g1 dX3_print_19 ?_
    refine r_mm (fun M3 e3 => ?_)
    have H := H M3 e3
    have hM3 : sl_RM M3 := by rw [e3]; exact sl_wr_RM hM g1
    refine r_aload_n (k := 0) rfl rfl dX3_print_20 ?_
    refine r_dup rfl dX3_print_21 ?_
    refine r_gI (k := 5) (kz := 5) rfl ckX3 rfl rfl (by decide) rfl rfl fl_X3_49 dX3_print_22 ?_
    refine r_iconst dX3_print_25 ?_
    refine r_iadd dX3_print_26 ?_
    obtain ⟨c4, H⟩ := H
    refine r_pI (k := 5) (kz := 5) rfl ckX3 rfl rfl (by decide) rfl rfl rfl rfl fl_X3_49 c4 dX3_print_27 ?_
    refine r_mm (fun M5 e5 => ?_)
    have H := H M5 e5
    have hM5 : sl_RM M5 := by rw [e5]; exact sl_wr_RM hM3 c4
    refine r_vret rfl dX3_print_30 ?_
    exact H
theorem eX3_print {l : Launch} {M : sl_M} {Q : sl_R} {x1 : Int} (k : sl_At l mX3_print 0 [(0, vR 3 0), (1, vI x1)] [] M Q) : sl_Runs l mX3_print [vR 3 0, vI x1] M Q := sl_Runs.of (ls := [(0, vR 3 0), (1, vI x1)]) rfl rfl (fun _ => rfl) (fun _ => Nat.le_of_ble_eq_true rfl) rfl (k)
theorem dX3_evaluate_0 : decode cX3_evaluate 0 = .ok (.iconst 0, 1) := by decide +kernel
theorem dX3_evaluate_1 : decode cX3_evaluate 1 = .ok (.istore 4, 2) := by decide +kernel
theorem dX3_evaluate_3 : decode cX3_evaluate 3 = .ok (.iconst 0, 1) := by decide +kernel
theorem dX3_evaluate_4 : decode cX3_evaluate 4 = .ok (.istore 5, 2) := by decide +kernel
theorem dX3_evaluate_6 : decode cX3_evaluate 6 = .ok (.iconst 0, 1) := by decide +kernel
theorem dX3_evaluate_7 : decode cX3_evaluate 7 = .ok (.istore 6, 2) := by decide +kernel
theorem dX3_evaluate_9 : decode cX3_evaluate 9 = .ok (.iload 6, 2) := by decide +kernel
theorem dX3_evaluate_11 : decode cX3_evaluate 11 = .ok (.aload_n 1, 1) := by decide +kernel
theorem dX3_evaluate_12 : decode cX3_evaluate 12 = .ok (.getfield 140, 3) := by decide +kernel
theorem dX3_evaluate_15 : decode cX3_evaluate 15 = .ok (.iload_n 2, 1) := by decide +kernel
theorem dX3_evaluate_16 : decode cX3_evaluate 16 = .ok (.iaload, 1) := by decide +kernel
theorem dX3_evaluate_17 : decode cX3_evaluate 17 = .ok (.if_icmp .ge 173, 3) := by decide +kernel
theorem dX3_evaluate_20 : decode cX3_evaluate 20 = .ok (.aload_n 0, 1) := by decide +kernel
theorem dX3_evaluate_21 : decode cX3_evaluate 21 = .ok (.getfield 52, 3) := by decide +kernel
theorem dX3_evaluate_24 : decode cX3_evaluate 24 = .ok (.ifCond .ne 166, 3) := by decide +kernel
theorem dX3_evaluate_27 : decode cX3_evaluate 27 = .ok (.aload_n 1, 1) := by decide +kernel
theorem dX3_evaluate_28 : decode cX3_evaluate 28 = .ok (.iload_n 2, 1) := by decide +kernel
theorem dX3_evaluate_29 : decode cX3_evaluate 29 = .ok (.iload 6, 2) := by decide +kernel
theorem dX3_evaluate_31 : decode cX3_evaluate 31 = .ok (.invokevirtual 143, 3) := by decide +kernel
theorem dX3_evaluate_34 : decode cX3_evaluate 34 = .ok (.istore 7, 2) := by decide +kernel
theorem dX3_evaluate_36 : decode cX3_evaluate 36 = .ok (.iload 7, 2) := by decide +kernel
theorem dX3_evaluate_38 : decode cX3_evaluate 38 = .ok (.invokestatic 146, 3) := by decide +kernel
theorem dX3_evaluate_41 : decode cX3_evaluate 41 = .ok (.ifCond .eq 33, 3) := by decide +kernel
theorem dX3_evaluate_44 : decode cX3_evaluate 44 = .ok (.iload 4, 2) := by decide +kernel
theorem dX3_evaluate_46 : decode cX3_evaluate 46 = .ok (.bipush 12, 2) := by decide +kernel
theorem dX3_evaluate_48 : decode cX3_evaluate 48 = .ok (.if_icmp .ge 136, 3) := by decide +kernel
theorem dX3_evaluate_51 : decode cX3_evaluate 51 = .ok (.aload_n 0, 1) := by decide +kernel
theorem dX3_evaluate_52 : decode cX3_evaluate 52 = .ok (.getfield 25, 3) := by decide +kernel
theorem dX3_evaluate_55 : decode cX3_evaluate 55 = .ok (.iload 4, 2) := by decide +kernel
theorem dX3_evaluate_57 : decode cX3_evaluate 57 = .ok (.iload 7, 2) := by decide +kernel
theorem dX3_evaluate_59 : decode cX3_evaluate 59 = .ok (.iastore, 1) := by decide +kernel
theorem dX3_evaluate_60 : decode cX3_evaluate 60 = .ok (.aload_n 0, 1) := by decide +kernel
theorem dX3_evaluate_61 : decode cX3_evaluate 61 = .ok (.getfield 31, 3) := by decide +kernel
theorem dX3_evaluate_64 : decode cX3_evaluate 64 = .ok (.iload 4, 2) := by decide +kernel
theorem dX3_evaluate_66 : decode cX3_evaluate 66 = .ok (.iconst 0, 1) := by decide +kernel
theorem dX3_evaluate_67 : decode cX3_evaluate 67 = .ok (.bastore, 1) := by decide +kernel
theorem dX3_evaluate_68 : decode cX3_evaluate 68 = .ok (.iinc 4 1, 3) := by decide +kernel
theorem dX3_evaluate_71 : decode cX3_evaluate 71 = .ok (.goto 113, 3) := by decide +kernel
theorem dX3_evaluate_74 : decode cX3_evaluate 74 = .ok (.iload 7, 2) := by decide +kernel
theorem dX3_evaluate_76 : decode cX3_evaluate 76 = .ok (.invokestatic 149, 3) := by decide +kernel
theorem dX3_evaluate_79 : decode cX3_evaluate 79 = .ok (.ifCond .eq 11, 3) := by decide +kernel
theorem dX3_evaluate_82 : decode cX3_evaluate 82 = .ok (.iload 7, 2) := by decide +kernel
theorem dX3_evaluate_84 : decode cX3_evaluate 84 = .ok (.bipush 48, 2) := by decide +kernel
theorem dX3_evaluate_86 : decode cX3_evaluate 86 = .ok (.isub, 1) := by decide +kernel
theorem dX3_evaluate_87 : decode cX3_evaluate 87 = .ok (.goto 13, 3) := by decide +kernel
theorem dX3_evaluate_90 : decode cX3_evaluate 90 = .ok (.aload_n 0, 1) := by decide +kernel
theorem dX3_evaluate_91 : decode cX3_evaluate 91 = .ok (.iload 7, 2) := by decide +kernel
theorem dX3_evaluate_93 : decode cX3_evaluate 93 = .ok (.invokestatic 152, 3) := by decide +kernel
theorem dX3_evaluate_96 : decode cX3_evaluate 96 = .ok (.aload_n 3, 1) := by decide +kernel
theorem dX3_evaluate_97 : decode cX3_evaluate 97 = .ok (.invokevirtual 105, 3) := by decide +kernel
theorem dX3_evaluate_100 : decode cX3_evaluate 100 = .ok (.istore 5, 2) := by decide +kernel
theorem dX3_evaluate_102 : decode cX3_evaluate 102 = .ok (.iload 4, 2) := by decide +kernel
theorem dX3_evaluate_104 : decode cX3_evaluate 104 = .ok (.ifCond .le 54, 3) := by decide +kernel
theorem dX3_evaluate_107 : decode cX3_evaluate 107 = .ok (.aload_n 0, 1) := by decide +kernel
theorem dX3_evaluate_108 : decode cX3_evaluate 108 = .ok (.getfield 31, 3) := by decide +kernel
theorem dX3_evaluate_111 : decode cX3_evaluate 111 = .ok (.iload 4, 2) := by decide +kernel
theorem dX3_evaluate_113 : decode cX3_evaluate 113 = .ok (.iconst 1, 1) := by decide +kernel
theorem dX3_evaluate_114 : decode cX3_evaluate 114 = .ok (.isub, 1) := by decide +kernel
theorem dX3_evaluate_115 : decode cX3_evaluate 115 = .ok (.baload, 1) := by decide +kernel
theorem dX3_evaluate_116 : decode cX3_evaluate 116 = .ok (.ifCond .eq 42, 3) := by decide +kernel
theorem dX3_evaluate_119 : decode cX3_evaluate 119 = .ok (.iinc 4 (-1), 3) := by decide +kernel
theorem dX3_evaluate_122 : decode cX3_evaluate 122 = .ok (.aload_n 0, 1) := by decide +kernel
theorem dX3_evaluate_123 : decode cX3_evaluate 123 = .ok (.getfield 52, 3) := by decide +kernel
theorem dX3_evaluate_126 : decode cX3_evaluate 126 = .ok (.ifCond .ne 26, 3) := by decide +kernel
theorem dX3_evaluate_129 : decode cX3_evaluate 129 = .ok (.aload_n 0, 1) := by decide +kernel
theorem dX3_evaluate_130 : decode cX3_evaluate 130 = .ok (.aload_n 0, 1) := by decide +kernel
theorem dX3_evaluate_131 : decode cX3_evaluate 131 = .ok (.getfield 25, 3) := by decide +kernel
theorem dX3_evaluate_134 : decode cX3_evaluate 134 = .ok (.iload 4, 2) := by decide +kernel
theorem dX3_evaluate_136 : decode cX3_evaluate 136 = .ok (.iaload, 1) := by decide +kernel
theorem dX3_evaluate_137 : decode cX3_evaluate 137 = .ok (.aload_n 0, 1) := by decide +kernel
theorem dX3_evaluate_138 : decode cX3_evaluate 138 = .ok (.getfield 28, 3) := by decide +kernel
theorem dX3_evaluate_141 : decode cX3_evaluate 141 = .ok (.iload 4, 2) := by decide +kernel
theorem dX3_evaluate_143 : decode cX3_evaluate 143 = .ok (.iaload, 1) := by decide +kernel
theorem dX3_evaluate_144 : decode cX3_evaluate 144 = .ok (.iload 5, 2) := by decide +kernel
theorem dX3_evaluate_146 : decode cX3_evaluate 146 = .ok (.invokevirtual 156, 3) := by decide +kernel
theorem dX3_evaluate_149 : decode cX3_evaluate 149 = .ok (.goto 4, 3) := by decide +kernel
theorem dX3_evaluate_152 : decode cX3_evaluate 152 = .ok (.iconst 0, 1) := by decide +kernel
theorem dX3_evaluate_153 : decode cX3_evaluate 153 = .ok (.istore 5, 2) := by decide +kernel
theorem dX3_evaluate_155 : decode cX3_evaluate 155 = .ok (.goto (-53), 3) := by decide +kernel
theorem dX3_evaluate_158 : decode cX3_evaluate 158 = .ok (.iload 4, 2) := by decide +kernel
theorem dX3_evaluate_160 : decode cX3_evaluate 160 = .ok (.ifCond .le 24, 3) := by decide +kernel
theorem dX3_evaluate_163 : decode cX3_evaluate 163 = .ok (.aload_n 0, 1) := by decide +kernel
theorem dX3_evaluate_164 : decode cX3_evaluate 164 = .ok (.getfield 28, 3) := by decide +kernel
theorem dX3_evaluate_167 : decode cX3_evaluate 167 = .ok (.iload 4, 2) := by decide +kernel
theorem dX3_evaluate_169 : decode cX3_evaluate 169 = .ok (.iconst 1, 1) := by decide +kernel
theorem dX3_evaluate_170 : decode cX3_evaluate 170 = .ok (.isub, 1) := by decide +kernel
theorem dX3_evaluate_171 : decode cX3_evaluate 171 = .ok (.iload 5, 2) := by decide +kernel
theorem dX3_evaluate_173 : decode cX3_evaluate 173 = .ok (.iastore, 1) := by decide +kernel
theorem dX3_evaluate_174 : decode cX3_evaluate 174 = .ok (.aload_n 0, 1) := by decide +kernel
theorem dX3_evaluate_175 : decode cX3_evaluate 175 = .ok (.getfield 31, 3) := by decide +kernel
theorem dX3_evaluate_178 : decode cX3_evaluate 178 = .ok (.iload 4, 2) := by decide +kernel
theorem dX3_evaluate_180 : decode cX3_evaluate 180 = .ok (.iconst 1, 1) := by decide +kernel
theorem dX3_evaluate_181 : decode cX3_evaluate 181 = .ok (.isub, 1) := by decide +kernel
theorem dX3_evaluate_182 : decode cX3_evaluate 182 = .ok (.iconst 1, 1) := by decide +kernel
theorem dX3_evaluate_183 : decode cX3_evaluate 183 = .ok (.bastore, 1) := by decide +kernel
theorem dX3_evaluate_184 : decode cX3_evaluate 184 = .ok (.iinc 6 1, 3) := by decide +kernel
theorem dX3_evaluate_187 : decode cX3_evaluate 187 = .ok (.goto (-178), 3) := by decide +kernel
theorem dX3_evaluate_190 : decode cX3_evaluate 190 = .ok (.iload 5, 2) := by decide +kernel
theorem dX3_evaluate_192 : decode cX3_evaluate 192 = .ok (.ireturn, 1) := by decide +kernel
set_option maxHeartbeats 4000000 in
set_option maxRecDepth 10000 in
theorem vX3_evaluate_0 {l : Launch} {M : sl_M} {Q : sl_R} {o1 o3 : Nat} {x2 : Int} (ho1 : sl_cls o1 = 0) (ho3 : sl_cls o3 = 2) (H : sl_RM M → sl_rg x2 → sl_At l mX3_evaluate 9 [(0, vR 3 0), (1, vR o1 0), (2, vI x2), (3, vR o3 0), (4, vI 0), (5, vI 0), (6, vI 0)] [] M Q) : sl_At l mX3_evaluate 0 [(0, vR 3 0), (1, vR o1 0), (2, vI x2), (3, vR o3 0)] [] M Q := by
  refine sl_At.in (fun hM hls => ?_)
  have g2 : sl_rg x2 := hls _ (List.mem_of_getElem? (i := 2) rfl)
  have H := H hM g2
  refine r_iconst dX3_evaluate_0 ?_
  refine r_istore (ls' := [(4, vI 0), (0, vR 3 0), (1, vR o1 0), (2, vI x2), (3, vR o3 0)]) ⟨by decide, by decide⟩ (by decide) rfl dX3_evaluate_1 ?_
  refine r_iconst dX3_evaluate_3 ?_
  refine r_istore (ls' := [(5, vI 0), (4, vI 0), (0, vR 3 0), (1, vR o1 0), (2, vI x2), (3, vR o3 0)]) ⟨by decide, by decide⟩ (by decide) rfl dX3_evaluate_4 ?_
  refine r_iconst dX3_evaluate_6 ?_
  refine r_istore (ls' := [(6, vI 0), (5, vI 0), (4, vI 0), (0, vR 3 0), (1, vR o1 0), (2, vI x2), (3, vR o3 0)]) ⟨by decide, by decide⟩ (by decide) rfl dX3_evaluate_7 ?_
  exact sl_At.sub [3, 4, 5, 6, 2, 1, 0] rfl H
set_option maxHeartbeats 4000000 in
set_option maxRecDepth 10000 in
theorem vX3_evaluate_9 {l : Launch} {M : sl_M} {Q : sl_R} {o1 o3 : Nat} {x2 x4 x5 x6 : Int} (ho1 : sl_cls o1 = 0) (ho3 : sl_cls o3 = 2) (H : sl_RM M → sl_rg x2 → sl_rg x4 → sl_rg x5 → sl_rg x6 → (0 ≤ x2 ∧ x2 < 40) ∧ ((M o1 9 x2 ≤ x6) → Q (some (vI x5)) M) ∧ ((¬ (M o1 9 x2 ≤ x6)) → ((M 3 0 6 ≠ 0) → Q (some (vI x5)) M) ∧ ((¬ (M 3 0 6 ≠ 0)) → sl_RI l mX0_symbol [vR o1 0, vI x2, vI x6] M (fun y5 M4 => ((¬ (sp_op y5)) → ((¬ (48 ≤ y5 ∧ y5 ≤ 57)) → sl_RI l mX3_valueOf [vR 3 0, vI (sp_var y5), vR o3 0] M4 (fun y9 M8 => sl_At l mX3_evaluate 102 [(0, vR 3 0), (1, vR o1 0), (2, vI x2), (3, vR o3 0), (4, vI x4), (5, vI y9), (6, vI x6)] [] M8 Q)) ∧ ((48 ≤ y5 ∧ y5 ≤ 57) → (sl_rg (y5 - 48)) ∧ (∀ y11 : Int, y11 = y5 - 48 → sl_At l mX3_evaluate 102 [(0, vR 3 0), (1, vR o1 0), (2, vI x2), (3, vR o3 0), (4, vI x4), (5, vI y11), (6, vI x6)] [] M4 Q))) ∧ ((sp_op y5) → ((12 ≤ x4) → (sl_rg (x6 + 1)) ∧ sl_At l mX3_evaluate 9 [(0, vR 3 0), (1, vR o1 0), (2, vI x2), (3, vR o3 0), (4, vI x4), (5, vI x5), (6, vI (x6 + 1))] [] M4 Q) ∧ ((¬ (12 ≤ x4)) → (0 ≤ x4 ∧ x4 < 12) ∧ (∀ M15, M15 = sl_wr M4 3 8 x4 y5 → (∀ M16, M16 = sl_wr M15 3 10 x4 0 → (sl_rg (x4 + 1)) ∧ (sl_rg (x6 + 1)) ∧ sl_At l mX3_evaluate 9 [(0, vR 3 0), (1, vR o1 0), (2, vI x2), (3, vR o3 0), (4, vI (x4 + 1)), (5, vI x5), (6, vI (x6 + 1))] [] M16 Q)))))))) : sl_At l mX3_evaluate 9 [(0, vR 3 0), (1, vR o1 0), (2, vI x2), (3, vR o3 0), (4, vI x4), (5, vI x5), (6, vI x6)] [] M Q := by
  refine sl_At.in (fun hM hls => ?_)
  have g2 : sl_rg x2 := hls _ (List.mem_of_getElem? (i := 2) rfl)
  have g4 : sl_rg x4 := hls _ (List.mem_of_getElem? (i := 4) rfl)
  have g5 : sl_rg x5 := hls _ (List.mem_of_getElem? (i := 5) rfl)
  have g6 : sl_rg x6 := hls _ (List.mem_of_getElem? (i := 6) rfl)
  have H := H hM g2 g4 g5 g6
  refine r_iload (k := 6) rfl dX3_evaluate_9 ?_
  refine r_aload_n (k := 1) rfl rfl dX3_evaluate_11 ?_
  refine r_getR (k := 8) (o' := o1) (i' := 9) ckX0 ho1 rfl (by decide) rfl rfl rfl fl_X3_140 dX3_evaluate_12 ?_
  refine r_iload_n (k := 2) rfl rfl dX3_evaluate_15 ?_
  obtain ⟨c1, H⟩ := H
  refine r_iald ho1 rfl rfl c1 dX3_evaluate_16 ?_
  refine r_icmp_ge (tgt := 190) g6 (hM _ _ _) dX3_evaluate_17 (by decide) (fun h2 => ?_) (fun h2 => ?_)
  · have H := H.1 h2
    refine r_iload (k := 5) rfl dX3_evaluate_190 ?_
    refine r_iret rfl g5 dX3_evaluate_192 ?_
    exact H
  · have H := H.2 h2
    refine r_aload_n (k := 0) rfl rfl dX3_evaluate_20 ?_
    refine r_gI (k := 6) (kz := 6) rfl ckX3 rfl rfl (by decide) rfl rfl fl_X3_52 dX3_evaluate_21 ?_
    refine r_if_ne (tgt := 190) (hM _ _ _) dX3_evaluate_24 (by decide) (fun h3 => ?_) (fun h3 => ?_)
    · have H := H.1 h3
      refine r_iload (k := 5) rfl dX3_evaluate_190 ?_
      refine r_iret rfl g5 dX3_evaluate_192 ?_
      exact H
    · have H := H.2 h3
      refine r_aload_n (k := 1) rfl rfl dX3_evaluate_27 ?_
      refine r_iload_n (k := 2) rfl rfl dX3_evaluate_28 ?_
      refine r_iload (k := 6) rfl dX3_evaluate_29 ?_
      refine r_callV (g := mX0_symbol) ckX0 ho1 rfl rfl rfl mkX0_symbol mvX0_symbol ml_X3_143 ⟨by decide, by decide⟩ rfl (Nat.le_of_ble_eq_true rfl) rfl (ok_i g2 (ok_i g6 ok_n)) dX3_evaluate_31 (sl_afterI (sl_RI.mono (fun y5 M4 gy5 hM4 H => ?_) H))
      refine r_istore (ls' := [(7, vI y5), (0, vR 3 0), (1, vR o1 0), (2, vI x2), (3, vR o3 0), (4, vI x4), (5, vI x5), (6, vI x6)]) gy5 (by decide) rfl dX3_evaluate_34 ?_
      refine r_iload (k := 0) rfl dX3_evaluate_36 ?_
      refine r_callSN (g := mX9_isOperator) rfl mkX9_isOperator msX9_isOperator mn_X3_146 ⟨by decide, by decide⟩ rfl (Nat.le_of_ble_eq_true rfl) rfl (ok_i gy5 ok_n) dX3_evaluate_38 (sl_afterI (sl_RI.by kX9_isOperator ?_))
      refine r_if_eq (tgt := 74) rg_b dX3_evaluate_41 (by decide) (fun h6 => ?_) (fun h6 => ?_)
      · have H := H.1 (b_eq0.mp h6)
        refine r_iload (k := 0) rfl dX3_evaluate_74 ?_
        refine r_callSN (g := mX9_isDigit) rfl mkX9_isDigit msX9_isDigit mn_X3_149 ⟨by decide, by decide⟩ rfl (Nat.le_of_ble_eq_true rfl) rfl (ok_i gy5 ok_n) dX3_evaluate_76 (sl_afterI (sl_RI.by kX9_isDigit ?_))
        refine r_if_eq (tgt := 90) rg_b dX3_evaluate_79 (by decide) (fun h7 => ?_) (fun h7 => ?_)
        · have H := H.1 (b_eq0.mp h7)
          refine r_aload_n (k := 1) rfl rfl dX3_evaluate_90 ?_
          refine r_iload (k := 0) rfl dX3_evaluate_91 ?_
          refine r_callSN (g := mX9_variableOf) rfl mkX9_variableOf msX9_variableOf mn_X3_152 ⟨by decide, by decide⟩ rfl (Nat.le_of_ble_eq_true rfl) rfl (ok_i gy5 ok_n) dX3_evaluate_93 (sl_afterI (sl_RI.by kX9_variableOf ?_))
          refine r_aload_n (k := 4) rfl rfl dX3_evaluate_96 ?_
          refine r_callV (g := mX3_valueOf) ckX3 rfl rfl rfl rfl mkX3_valueOf mvX3_valueOf ml_X3_105 ⟨by decide, by decide⟩ rfl (Nat.le_of_ble_eq_true rfl) rfl (ok_i (rgkX9_variableOf _) (ok_r ok_n)) dX3_evaluate_97 (sl_afterI (sl_RI.mono (fun y9 M8 gy9 hM8 H => ?_) H))
          refine r_istore (ls' := [(5, vI y9), (7, vI y5), (0, vR 3 0), (1, vR o1 0), (2, vI x2), (3, vR o3 0), (4, vI x4), (6, vI x6)]) gy9 (by decide) rfl dX3_evaluate_100 ?_
          exact sl_At.sub [2, 3, 4, 5, 6, 0, 7] rfl H
        · have H := H.2 (b_ne0.mp h7)
          refine r_iload (k := 0) rfl dX3_evaluate_82 ?_
          refine r_bipush dX3_evaluate_84 (by decide) ?_
          refine r_isub dX3_evaluate_86 ?_
          refine r_goto (tgt := 100) dX3_evaluate_87 (by decide) ?_
          obtain ⟨c10, H⟩ := H
          refine r_nm (fun y11 fy11 => ?_)
          have H := H y11 fy11
          have gy11 : sl_rg y11 := by rw [fy11]; exact c10
          refine r_istore (ls' := [(5, vI y11), (7, vI y5), (0, vR 3 0), (1, vR o1 0), (2, vI x2), (3, vR o3 0), (4, vI x4), (6, vI x6)]) gy11 (by decide) rfl dX3_evaluate_100 ?_
          exact sl_At.sub [2, 3, 4, 5, 6, 0, 7] rfl H
      · have H := H.2 (b_ne0.mp h6)
        refine r_iload (k := 5) rfl dX3_evaluate_44 ?_
        refine r_bipush dX3_evaluate_46 (by decide) ?_
        refine r_icmp_ge (tgt := 184) g4 ⟨by decide, by decide⟩ dX3_evaluate_48 (by decide) (fun h12 => ?_) (fun h12 => ?_)
        · have H := H.1 h12
          obtain ⟨c13, H⟩ := H
          refine r_iinc (k := 7) (ls' := [(6, vI (x6 + 1)), (7, vI y5), (0, vR 3 0), (1, vR o1 0), (2, vI x2), (3, vR o3 0), (4, vI x4), (5, vI x5)]) rfl c13 (by decide) rfl dX3_evaluate_184 ?_
          refine r_goto (tgt := 9) dX3_evaluate_187 (by decide) ?_
          exact sl_At.sub [2, 3, 4, 5, 6, 7, 0] rfl H
        · have H := H.2 h12
          refine r_aload_n (k := 1) rfl rfl dX3_evaluate_51 ?_
          refine r_getR (k := 7) (o' := 3) (i' := 8) ckX3 rfl rfl (by decide) rfl rfl rfl fl_X3_25 dX3_evaluate_52 ?_
          refine r_iload (k := 5) rfl dX3_evaluate_55 ?_
          refine r_iload (k := 0) rfl dX3_evaluate_57 ?_
          obtain ⟨c14, H⟩ := H
          refine r_iast rfl rfl rfl c14 gy5 dX3_evaluate_59 ?_
          refine r_mm (fun M15 e15 => ?_)
          have H := H M15 e15
          have hM15 : sl_RM M15 := by rw [e15]; exact sl_wr_RM hM4 gy5
          refine r_aload_n (k := 1) rfl rfl dX3_evaluate_60 ?_
          refine r_getR (k := 9) (o' := 3) (i' := 10) ckX3 rfl rfl (by decide) rfl rfl rfl fl_X3_31 dX3_evaluate_61 ?_
          refine r_iload (k := 5) rfl dX3_evaluate_64 ?_
          refine r_iconst dX3_evaluate_66 ?_
          refine r_bast rfl rfl rfl c14 (Or.inl rfl) dX3_evaluate_67 ?_
          refine r_mm (fun M16 e16 => ?_)
          have H := H M16 e16
          have hM16 : sl_RM M16 := by rw [e16]; exact sl_wr_RM hM15 (sl_rg01 (Or.inl rfl))
          obtain ⟨c17, H⟩ := H
          refine r_iinc (k := 5) (ls' := [(4, vI (x4 + 1)), (7, vI y5), (0, vR 3 0), (1, vR o1 0), (2, vI x2), (3, vR o3 0), (5, vI x5), (6, vI x6)]) rfl c17 (by decide) rfl dX3_evaluate_68 ?_
          refine r_goto (tgt := 184) dX3_evaluate_71 (by decide) ?_
          obtain ⟨c18, H⟩ := H
          refine r_iinc (k := 7) (ls' := [(6, vI (x6 + 1)), (4, vI (x4 + 1)), (7, vI y5), (0, vR 3 0), (1, vR o1 0), (2, vI x2), (3, vR o3 0), (5, vI x5)]) rfl c18 (by decide) rfl dX3_evaluate_184 ?_
          refine r_goto (tgt := 9) dX3_evaluate_187 (by decide) ?_
          exact sl_At.sub [3, 4, 5, 6, 1, 7, 0] rfl H
set_option maxHeartbeats 4000000 in
set_option maxRecDepth 10000 in
theorem vX3_evaluate_102 {l : Launch} {M : sl_M} {Q : sl_R} {o1 o3 : Nat} {x2 x4 x5 x6 : Int} (ho1 : sl_cls o1 = 0) (ho3 : sl_cls o3 = 2) (H : sl_RM M → sl_rg x2 → sl_rg x4 → sl_rg x5 → sl_rg x6 → ((x4 ≤ 0) → sl_At l mX3_evaluate 158 [(0, vR 3 0), (1, vR o1 0), (2, vI x2), (3, vR o3 0), (4, vI x4), (5, vI x5), (6, vI x6)] [] M Q) ∧ ((¬ (x4 ≤ 0)) → (0 ≤ x4 - 1 ∧ x4 - 1 < 12) ∧ ((M 3 10 (x4 - 1) = 0) → sl_At l mX3_evaluate 158 [(0, vR 3 0), (1, vR o1 0), (2, vI x2), (3, vR o3 0), (4, vI x4), (5, vI x5), (6, vI x6)] [] M Q) ∧ ((¬ (M 3 10 (x4 - 1) = 0)) → (sl_rg (x4 + (-1))) ∧ ((M 3 0 6 ≠ 0) → sl_At l mX3_evaluate 102 [(0, vR 3 0), (1, vR o1 0), (2, vI x2), (3, vR o3 0), (4, vI (x4 + (-1))), (5, vI 0), (6, vI x6)] [] M Q) ∧ ((¬ (M 3 0 6 ≠ 0)) → (0 ≤ x4 + (-1) ∧ x4 + (-1) < 12) ∧ sl_RI l mX3_apply [vR 3 0, vI (M 3 8 (x4 + (-1))), vI (M 3 9 (x4 + (-1))), vI x5] M (fun y8 M7 => sl_At l mX3_evaluate 102 [(0, vR 3 0), (1, vR o1 0), (2, vI x2), (3, vR o3 0), (4, vI (x4 + (-1))), (5, vI y8), (6, vI x6)] [] M7 Q))))) : sl_At l mX3_evaluate 102 [(0, vR 3 0), (1, vR o1 0), (2, vI x2), (3, vR o3 0), (4, vI x4), (5, vI x5), (6, vI x6)] [] M Q := by
  refine sl_At.in (fun hM hls => ?_)
  have g2 : sl_rg x2 := hls _ (List.mem_of_getElem? (i := 2) rfl)
  have g4 : sl_rg x4 := hls _ (List.mem_of_getElem? (i := 4) rfl)
  have g5 : sl_rg x5 := hls _ (List.mem_of_getElem? (i := 5) rfl)
  have g6 : sl_rg x6 := hls _ (List.mem_of_getElem? (i := 6) rfl)
  have H := H hM g2 g4 g5 g6
  refine r_iload (k := 4) rfl dX3_evaluate_102 ?_
  refine r_if_le (tgt := 158) g4 dX3_evaluate_104 (by decide) (fun h1 => ?_) (fun h1 => ?_)
  · have H := H.1 h1
    exact H
  · have H := H.2 h1
    refine r_aload_n (k := 0) rfl rfl dX3_evaluate_107 ?_
    refine r_getR (k := 9) (o' := 3) (i' := 10) ckX3 rfl rfl (by decide) rfl rfl rfl fl_X3_31 dX3_evaluate_108 ?_
    refine r_iload (k := 4) rfl dX3_evaluate_111 ?_
    refine r_iconst dX3_evaluate_113 ?_
    refine r_isub dX3_evaluate_114 ?_
    obtain ⟨c2, H⟩ := H
    refine r_bald rfl rfl rfl c2 dX3_evaluate_115 ?_
    refine r_if_eq (tgt := 158) (hM _ _ _) dX3_evaluate_116 (by decide) (fun h3 => ?_) (fun h3 => ?_)
    · have H := H.1 h3
      exact H
    · have H := H.2 h3
      obtain ⟨c4, H⟩ := H
      refine r_iinc (k := 4) (ls' := [(4, vI (x4 + (-1))), (0, vR 3 0), (1, vR o1 0), (2, vI x2), (3, vR o3 0), (5, vI x5), (6, vI x6)]) rfl c4 (by decide) rfl dX3_evaluate_119 ?_
      refine r_aload_n (k := 1) rfl rfl dX3_evaluate_122 ?_
      refine r_gI (k := 6) (kz := 6) rfl ckX3 rfl rfl (by decide) rfl rfl fl_X3_52 dX3_evaluate_123 ?_
      refine r_if_ne (tgt := 152) (hM _ _ _) dX3_evaluate_126 (by decide) (fun h5 => ?_) (fun h5 => ?_)
      · have H := H.1 h5
        refine r_iconst dX3_evaluate_152 ?_
        refine r_istore (ls' := [(5, vI 0), (4, vI (x4 + (-1))), (0, vR 3 0), (1, vR o1 0), (2, vI x2), (3, vR o3 0), (6, vI x6)]) ⟨by decide, by decide⟩ (by decide) rfl dX3_evaluate_153 ?_
        refine r_goto (tgt := 102) dX3_evaluate_155 (by decide) ?_
        exact sl_At.sub [2, 3, 4, 5, 1, 0, 6] rfl H
      · have H := H.2 h5
        refine r_aload_n (k := 1) rfl rfl dX3_evaluate_129 ?_
        refine r_aload_n (k := 1) rfl rfl dX3_evaluate_130 ?_
        refine r_getR (k := 7) (o' := 3) (i' := 8) ckX3 rfl rfl (by decide) rfl rfl rfl fl_X3_25 dX3_evaluate_131 ?_
        refine r_iload (k := 0) rfl dX3_evaluate_134 ?_
        obtain ⟨c6, H⟩ := H
        refine r_iald rfl rfl rfl c6 dX3_evaluate_136 ?_
        refine r_aload_n (k := 1) rfl rfl dX3_evaluate_137 ?_
        refine r_getR (k := 8) (o' := 3) (i' := 9) ckX3 rfl rfl (by decide) rfl rfl rfl fl_X3_28 dX3_evaluate_138 ?_
        refine r_iload (k := 0) rfl dX3_evaluate_141 ?_
        refine r_iald rfl rfl rfl c6 dX3_evaluate_143 ?_
        refine r_iload (k := 5) rfl dX3_evaluate_144 ?_
        refine r_callV (g := mX3_apply) ckX3 rfl rfl rfl rfl mkX3_apply mvX3_apply ml_X3_156 ⟨by decide, by decide⟩ rfl (Nat.le_of_ble_eq_true rfl) rfl (ok_i (hM _ _ _) (ok_i (hM _ _ _) (ok_i g5 ok_n))) dX3_evaluate_146 (sl_afterI (sl_RI.mono (fun y8 M7 gy8 hM7 H => ?_) H))
        refine r_goto (tgt := 153) dX3_evaluate_149 (by decide) ?_
        refine r_istore (ls' := [(5, vI y8), (4, vI (x4 + (-1))), (0, vR 3 0), (1, vR o1 0), (2, vI x2), (3, vR o3 0), (6, vI x6)]) gy8 (by decide) rfl dX3_evaluate_153 ?_
        refine r_goto (tgt := 102) dX3_evaluate_155 (by decide) ?_
        exact sl_At.sub [2, 3, 4, 5, 1, 0, 6] rfl H
set_option maxHeartbeats 4000000 in
set_option maxRecDepth 10000 in
theorem vX3_evaluate_158 {l : Launch} {M : sl_M} {Q : sl_R} {o1 o3 : Nat} {x2 x4 x5 x6 : Int} (ho1 : sl_cls o1 = 0) (ho3 : sl_cls o3 = 2) (H : sl_RM M → sl_rg x2 → sl_rg x4 → sl_rg x5 → sl_rg x6 → ((x4 ≤ 0) → (sl_rg (x6 + 1)) ∧ sl_At l mX3_evaluate 9 [(0, vR 3 0), (1, vR o1 0), (2, vI x2), (3, vR o3 0), (4, vI x4), (5, vI x5), (6, vI (x6 + 1))] [] M Q) ∧ ((¬ (x4 ≤ 0)) → (0 ≤ x4 - 1 ∧ x4 - 1 < 12) ∧ (∀ M4, M4 = sl_wr M 3 9 (x4 - 1) x5 → (∀ M5, M5 = sl_wr M4 3 10 (x4 - 1) 1 → (sl_rg (x6 + 1)) ∧ sl_At l mX3_evaluate 9 [(0, vR 3 0), (1, vR o1 0), (2, vI x2), (3, vR o3 0), (4, vI x4), (5, vI x5), (6, vI (x6 + 1))] [] M5 Q)))) : sl_At l mX3_evaluate 158 [(0, vR 3 0), (1, vR o1 0), (2, vI x2), (3, vR o3 0), (4, vI x4), (5, vI x5), (6, vI x6)] [] M Q := by
  refine sl_At.in (fun hM hls => ?_)
  have g2 : sl_rg x2 := hls _ (List.mem_of_getElem? (i := 2) rfl)
  have g4 : sl_rg x4 := hls _ (List.mem_of_getElem? (i := 4) rfl)
  have g5 : sl_rg x5 := hls _ (List.mem_of_getElem? (i := 5) rfl)
  have g6 : sl_rg x6 := hls _ (List.mem_of_getElem? (i := 6) rfl)
  have H := H hM g2 g4 g5 g6
  refine r_iload (k := 4) rfl dX3_evaluate_158 ?_
  refine r_if_le (tgt := 184) g4 dX3_evaluate_160 (by decide) (fun h1 => ?_) (fun h1 => ?_)
  · have H := H.1 h1
    obtain ⟨c2, H⟩ := H
    refine r_iinc (k := 6) (ls' := [(6, vI (x6 + 1)), (0, vR 3 0), (1, vR o1 0), (2, vI x2), (3, vR o3 0), (4, vI x4), (5, vI x5)]) rfl c2 (by decide) rfl dX3_evaluate_184 ?_
    refine r_goto (tgt := 9) dX3_evaluate_187 (by decide) ?_
    exact sl_At.sub [1, 2, 3, 4, 5, 6, 0] rfl H
  · have H := H.2 h1
    refine r_aload_n (k := 0) rfl rfl dX3_evaluate_163 ?_
    refine r_getR (k := 8) (o' := 3) (i' := 9) ckX3 rfl rfl (by decide) rfl rfl rfl fl_X3_28 dX3_evaluate_164 ?_
    refine r_iload (k := 4) rfl dX3_evaluate_167 ?_
    refine r_iconst dX3_evaluate_169 ?_
    refine r_isub dX3_evaluate_170 ?_
    refine r_iload (k := 5) rfl dX3_evaluate_171 ?_
    obtain ⟨c3, H⟩ := H
    refine r_iast rfl rfl rfl c3 g5 dX3_evaluate_173 ?_
    refine r_mm (fun M4 e4 => ?_)
    have H := H M4 e4
    have hM4 : sl_RM M4 := by rw [e4]; exact sl_wr_RM hM g5
    refine r_aload_n (k := 0) rfl rfl dX3_evaluate_174 ?_
    refine r_getR (k := 9) (o' := 3) (i' := 10) ckX3 rfl rfl (by decide) rfl rfl rfl fl_X3_31 dX3_evaluate_175 ?_
    refine r_iload (k := 4) rfl dX3_evaluate_178 ?_
    refine r_iconst dX3_evaluate_180 ?_
    refine r_isub dX3_evaluate_181 ?_
    refine r_iconst dX3_evaluate_182 ?_
    refine r_bast rfl rfl rfl c3 (Or.inr rfl) dX3_evaluate_183 ?_
    refine r_mm (fun M5 e5 => ?_)
    have H := H M5 e5
    have hM5 : sl_RM M5 := by rw [e5]; exact sl_wr_RM hM4 (sl_rg01 (Or.inr rfl))
    obtain ⟨c6, H⟩ := H
    refine r_iinc (k := 6) (ls' := [(6, vI (x6 + 1)), (0, vR 3 0), (1, vR o1 0), (2, vI x2), (3, vR o3 0), (4, vI x4), (5, vI x5)]) rfl c6 (by decide) rfl dX3_evaluate_184 ?_
    refine r_goto (tgt := 9) dX3_evaluate_187 (by decide) ?_
    exact sl_At.sub [1, 2, 3, 4, 5, 6, 0] rfl H
theorem eX3_evaluate {l : Launch} {M : sl_M} {Q : sl_R} {o1 o3 : Nat} {x2 : Int} (k : sl_At l mX3_evaluate 0 [(0, vR 3 0), (1, vR o1 0), (2, vI x2), (3, vR o3 0)] [] M Q) : sl_Runs l mX3_evaluate [vR 3 0, vR o1 0, vI x2, vR o3 0] M Q := sl_Runs.of (ls := [(0, vR 3 0), (1, vR o1 0), (2, vI x2), (3, vR o3 0)]) rfl rfl (fun _ => rfl) (fun _ => Nat.le_of_ble_eq_true rfl) rfl (k)
theorem dX3_valueOf_0 : decode cX3_valueOf 0 = .ok (.iload_n 1, 1) := by decide +kernel
theorem dX3_valueOf_1 : decode cX3_valueOf 1 = .ok (.ifCond .lt 20, 3) := by decide +kernel
theorem dX3_valueOf_4 : decode cX3_valueOf 4 = .ok (.iload_n 1, 1) := by decide +kernel
theorem dX3_valueOf_5 : decode cX3_valueOf 5 = .ok (.bipush 8, 2) := by decide +kernel
theorem dX3_valueOf_7 : decode cX3_valueOf 7 = .ok (.if_icmp .ge 14, 3) := by decide +kernel
theorem dX3_valueOf_10 : decode cX3_valueOf 10 = .ok (.aload_n 2, 1) := by decide +kernel
theorem dX3_valueOf_11 : decode cX3_valueOf 11 = .ok (.getfield 35, 3) := by decide +kernel
theorem dX3_valueOf_14 : decode cX3_valueOf 14 = .ok (.iload_n 1, 1) := by decide +kernel
theorem dX3_valueOf_15 : decode cX3_valueOf 15 = .ok (.ishr, 1) := by decide +kernel
theorem dX3_valueOf_16 : decode cX3_valueOf 16 = .ok (.iconst 1, 1) := by decide +kernel
theorem dX3_valueOf_17 : decode cX3_valueOf 17 = .ok (.iand, 1) := by decide +kernel
theorem dX3_valueOf_18 : decode cX3_valueOf 18 = .ok (.ifCond .ne 10, 3) := by decide +kernel
theorem dX3_valueOf_21 : decode cX3_valueOf 21 = .ok (.aload_n 0, 1) := by decide +kernel
theorem dX3_valueOf_22 : decode cX3_valueOf 22 = .ok (.iconst 2, 1) := by decide +kernel
theorem dX3_valueOf_23 : decode cX3_valueOf 23 = .ok (.putfield 52, 3) := by decide +kernel
theorem dX3_valueOf_26 : decode cX3_valueOf 26 = .ok (.iconst 0, 1) := by decide +kernel
theorem dX3_valueOf_27 : decode cX3_valueOf 27 = .ok (.ireturn, 1) := by decide +kernel
theorem dX3_valueOf_28 : decode cX3_valueOf 28 = .ok (.aload_n 2, 1) := by decide +kernel
theorem dX3_valueOf_29 : decode cX3_valueOf 29 = .ok (.getfield 119, 3) := by decide +kernel
theorem dX3_valueOf_32 : decode cX3_valueOf 32 = .ok (.iload_n 1, 1) := by decide +kernel
theorem dX3_valueOf_33 : decode cX3_valueOf 33 = .ok (.iaload, 1) := by decide +kernel
theorem dX3_valueOf_34 : decode cX3_valueOf 34 = .ok (.ireturn, 1) := by decide +kernel
set_option maxHeartbeats 4000000 in
set_option maxRecDepth 10000 in
theorem vX3_valueOf_0 {l : Launch} {M : sl_M} {Q : sl_R} {x1 : Int} {o2 : Nat} (ho2 : sl_cls o2 = 2) (H : sl_RM M → sl_rg x1 → ((x1 < 0) → (∀ M2, M2 = sl_wr M 3 0 6 2 → Q (some (vI 0)) M2)) ∧ ((¬ (x1 < 0)) → ((8 ≤ x1) → (∀ M4, M4 = sl_wr M 3 0 6 2 → Q (some (vI 0)) M4)) ∧ ((¬ (8 ≤ x1)) → ((iand (ishr (M o2 0 1) x1) 1 ≠ 0) → (0 ≤ x1 ∧ x1 < 8) ∧ Q (some (vI (M o2 1 x1))) M) ∧ ((¬ (iand (ishr (M o2 0 1) x1) 1 ≠ 0)) → (∀ M7, M7 = sl_wr M 3 0 6 2 → Q (some (vI 0)) M7))))) : sl_At l mX3_valueOf 0 [(0, vR 3 0), (1, vI x1), (2, vR o2 0)] [] M Q := by
  refine sl_At.in (fun hM hls => ?_)
  have g1 : sl_rg x1 := hls _ (List.mem_of_getElem? (i := 1) rfl)
  have H := H hM g1
  refine r_iload_n (k := 1) rfl rfl dX3_valueOf_0 ?_
  refine r_if_lt (tgt := 21) g1 dX3_valueOf_1 (by decide) (fun h1 => ?_) (fun h1 => ?_)
  · have H := H.1 h1
    refine r_aload_n (k := 0) rfl rfl dX3_valueOf_21 ?_
    refine r_iconst dX3_valueOf_22 ?_
    refine r_pI (k := 6) (kz := 6) rfl ckX3 rfl rfl (by decide) rfl rfl rfl rfl fl_X3_52 ⟨by decide, by decide⟩ dX3_valueOf_23 ?_
    refine r_mm (fun M2 e2 => ?_)
    have H := H M2 e2
    have hM2 : sl_RM M2 := by rw [e2]; exact sl_wr_RM hM ⟨by decide, by decide⟩
    refine r_iconst dX3_valueOf_26 ?_
    refine r_iret rfl ⟨by decide, by decide⟩ dX3_valueOf_27 ?_
    exact H
  · have H := H.2 h1
    refine r_iload_n (k := 1) rfl rfl dX3_valueOf_4 ?_
    refine r_bipush dX3_valueOf_5 (by decide) ?_
    refine r_icmp_ge (tgt := 21) g1 ⟨by decide, by decide⟩ dX3_valueOf_7 (by decide) (fun h3 => ?_) (fun h3 => ?_)
    · have H := H.1 h3
      refine r_aload_n (k := 0) rfl rfl dX3_valueOf_21 ?_
      refine r_iconst dX3_valueOf_22 ?_
      refine r_pI (k := 6) (kz := 6) rfl ckX3 rfl rfl (by decide) rfl rfl rfl rfl fl_X3_52 ⟨by decide, by decide⟩ dX3_valueOf_23 ?_
      refine r_mm (fun M4 e4 => ?_)
      have H := H M4 e4
      have hM4 : sl_RM M4 := by rw [e4]; exact sl_wr_RM hM ⟨by decide, by decide⟩
      refine r_iconst dX3_valueOf_26 ?_
      refine r_iret rfl ⟨by decide, by decide⟩ dX3_valueOf_27 ?_
      exact H
    · have H := H.2 h3
      refine r_aload_n (k := 2) rfl rfl dX3_valueOf_10 ?_
      refine r_gI (k := 1) (kz := 1) rfl ckX2 ho2 rfl (by decide) rfl rfl fl_X3_35 dX3_valueOf_11 ?_
      refine r_iload_n (k := 1) rfl rfl dX3_valueOf_14 ?_
      refine r_ishr dX3_valueOf_15 ?_
      refine r_iconst dX3_valueOf_16 ?_
      refine r_iand dX3_valueOf_17 ?_
      refine r_if_ne (tgt := 28) (rg_iand _ _) dX3_valueOf_18 (by decide) (fun h5 => ?_) (fun h5 => ?_)
      · have H := H.1 h5
        refine r_aload_n (k := 2) rfl rfl dX3_valueOf_28 ?_
        refine r_getR (k := 0) (o' := o2) (i' := 1) ckX2 ho2 rfl (by decide) rfl rfl rfl fl_X3_119 dX3_valueOf_29 ?_
        refine r_iload_n (k := 1) rfl rfl dX3_valueOf_32 ?_
        obtain ⟨c6, H⟩ := H
        refine r_iald ho2 rfl rfl c6 dX3_valueOf_33 ?_
        refine r_iret rfl (hM _ _ _) dX3_valueOf_34 ?_
        exact H
      · have H := H.2 h5
        refine r_aload_n (k := 0) rfl rfl dX3_valueOf_21 ?_
        refine r_iconst dX3_valueOf_22 ?_
        refine r_pI (k := 6) (kz := 6) rfl ckX3 rfl rfl (by decide) rfl rfl rfl rfl fl_X3_52 ⟨by decide, by decide⟩ dX3_valueOf_23 ?_
        refine r_mm (fun M7 e7 => ?_)
        have H := H M7 e7
        have hM7 : sl_RM M7 := by rw [e7]; exact sl_wr_RM hM ⟨by decide, by decide⟩
        refine r_iconst dX3_valueOf_26 ?_
        refine r_iret rfl ⟨by decide, by decide⟩ dX3_valueOf_27 ?_
        exact H
theorem eX3_valueOf {l : Launch} {M : sl_M} {Q : sl_R} {x1 : Int} {o2 : Nat} (k : sl_At l mX3_valueOf 0 [(0, vR 3 0), (1, vI x1), (2, vR o2 0)] [] M Q) : sl_Runs l mX3_valueOf [vR 3 0, vI x1, vR o2 0] M Q := sl_Runs.of (ls := [(0, vR 3 0), (1, vI x1), (2, vR o2 0)]) rfl rfl (fun _ => rfl) (fun _ => Nat.le_of_ble_eq_true rfl) rfl (k)
theorem dX3_apply_0 : decode cX3_apply 0 = .ok (.iload_n 1, 1) := by decide +kernel
theorem dX3_apply_1 : decode cX3_apply 1 = .ok (.bipush 47, 2) := by decide +kernel
theorem dX3_apply_3 : decode cX3_apply 3 = .ok (.if_icmp .eq 9, 3) := by decide +kernel
theorem dX3_apply_6 : decode cX3_apply 6 = .ok (.iload_n 1, 1) := by decide +kernel
theorem dX3_apply_7 : decode cX3_apply 7 = .ok (.bipush 37, 2) := by decide +kernel
theorem dX3_apply_9 : decode cX3_apply 9 = .ok (.if_icmp .ne 14, 3) := by decide +kernel
theorem dX3_apply_12 : decode cX3_apply 12 = .ok (.iload_n 3, 1) := by decide +kernel
theorem dX3_apply_13 : decode cX3_apply 13 = .ok (.ifCond .ne 10, 3) := by decide +kernel
theorem dX3_apply_16 : decode cX3_apply 16 = .ok (.aload_n 0, 1) := by decide +kernel
theorem dX3_apply_17 : decode cX3_apply 17 = .ok (.iconst 1, 1) := by decide +kernel
theorem dX3_apply_18 : decode cX3_apply 18 = .ok (.putfield 52, 3) := by decide +kernel
theorem dX3_apply_21 : decode cX3_apply 21 = .ok (.iconst 0, 1) := by decide +kernel
theorem dX3_apply_22 : decode cX3_apply 22 = .ok (.ireturn, 1) := by decide +kernel
theorem dX3_apply_23 : decode cX3_apply 23 = .ok (.iload_n 1, 1) := by decide +kernel
theorem dX3_apply_24 : decode cX3_apply 24 = .ok (.lookupswitch 107 #[(37, 84), (42, 68), (43, 60), (45, 64), (47, 72), (60, 96)], 60) := by decide +kernel
theorem dX3_apply_84 : decode cX3_apply 84 = .ok (.iload_n 2, 1) := by decide +kernel
theorem dX3_apply_85 : decode cX3_apply 85 = .ok (.iload_n 3, 1) := by decide +kernel
theorem dX3_apply_86 : decode cX3_apply 86 = .ok (.iadd, 1) := by decide +kernel
theorem dX3_apply_87 : decode cX3_apply 87 = .ok (.ireturn, 1) := by decide +kernel
theorem dX3_apply_88 : decode cX3_apply 88 = .ok (.iload_n 2, 1) := by decide +kernel
theorem dX3_apply_89 : decode cX3_apply 89 = .ok (.iload_n 3, 1) := by decide +kernel
theorem dX3_apply_90 : decode cX3_apply 90 = .ok (.isub, 1) := by decide +kernel
theorem dX3_apply_91 : decode cX3_apply 91 = .ok (.ireturn, 1) := by decide +kernel
theorem dX3_apply_92 : decode cX3_apply 92 = .ok (.iload_n 2, 1) := by decide +kernel
theorem dX3_apply_93 : decode cX3_apply 93 = .ok (.iload_n 3, 1) := by decide +kernel
theorem dX3_apply_94 : decode cX3_apply 94 = .ok (.imul, 1) := by decide +kernel
theorem dX3_apply_95 : decode cX3_apply 95 = .ok (.ireturn, 1) := by decide +kernel
theorem dX3_apply_96 : decode cX3_apply 96 = .ok (.iload_n 3, 1) := by decide +kernel
theorem dX3_apply_97 : decode cX3_apply 97 = .ok (.ifCond .ne 7, 3) := by decide +kernel
theorem dX3_apply_100 : decode cX3_apply 100 = .ok (.iconst 0, 1) := by decide +kernel
theorem dX3_apply_101 : decode cX3_apply 101 = .ok (.goto 6, 3) := by decide +kernel
theorem dX3_apply_104 : decode cX3_apply 104 = .ok (.iload_n 2, 1) := by decide +kernel
theorem dX3_apply_105 : decode cX3_apply 105 = .ok (.iload_n 3, 1) := by decide +kernel
theorem dX3_apply_106 : decode cX3_apply 106 = .ok (.idiv, 1) := by decide +kernel
theorem dX3_apply_107 : decode cX3_apply 107 = .ok (.ireturn, 1) := by decide +kernel
theorem dX3_apply_108 : decode cX3_apply 108 = .ok (.iload_n 3, 1) := by decide +kernel
theorem dX3_apply_109 : decode cX3_apply 109 = .ok (.ifCond .ne 7, 3) := by decide +kernel
theorem dX3_apply_112 : decode cX3_apply 112 = .ok (.iconst 0, 1) := by decide +kernel
theorem dX3_apply_113 : decode cX3_apply 113 = .ok (.goto 6, 3) := by decide +kernel
theorem dX3_apply_116 : decode cX3_apply 116 = .ok (.iload_n 2, 1) := by decide +kernel
theorem dX3_apply_117 : decode cX3_apply 117 = .ok (.iload_n 3, 1) := by decide +kernel
theorem dX3_apply_118 : decode cX3_apply 118 = .ok (.irem, 1) := by decide +kernel
theorem dX3_apply_119 : decode cX3_apply 119 = .ok (.ireturn, 1) := by decide +kernel
theorem dX3_apply_120 : decode cX3_apply 120 = .ok (.iload_n 2, 1) := by decide +kernel
theorem dX3_apply_121 : decode cX3_apply 121 = .ok (.iload_n 3, 1) := by decide +kernel
theorem dX3_apply_122 : decode cX3_apply 122 = .ok (.if_icmp .ge 7, 3) := by decide +kernel
theorem dX3_apply_125 : decode cX3_apply 125 = .ok (.iconst 1, 1) := by decide +kernel
theorem dX3_apply_126 : decode cX3_apply 126 = .ok (.goto 4, 3) := by decide +kernel
theorem dX3_apply_129 : decode cX3_apply 129 = .ok (.iconst 0, 1) := by decide +kernel
theorem dX3_apply_130 : decode cX3_apply 130 = .ok (.ireturn, 1) := by decide +kernel
theorem dX3_apply_131 : decode cX3_apply 131 = .ok (.iload_n 2, 1) := by decide +kernel
theorem dX3_apply_132 : decode cX3_apply 132 = .ok (.iload_n 3, 1) := by decide +kernel
theorem dX3_apply_133 : decode cX3_apply 133 = .ok (.if_icmp .ne 7, 3) := by decide +kernel
theorem dX3_apply_136 : decode cX3_apply 136 = .ok (.iconst 1, 1) := by decide +kernel
theorem dX3_apply_137 : decode cX3_apply 137 = .ok (.goto 4, 3) := by decide +kernel
theorem dX3_apply_140 : decode cX3_apply 140 = .ok (.iconst 0, 1) := by decide +kernel
theorem dX3_apply_141 : decode cX3_apply 141 = .ok (.ireturn, 1) := by decide +kernel
set_option maxHeartbeats 4000000 in
set_option maxRecDepth 10000 in
theorem vX3_apply_0 {l : Launch} {M : sl_M} {Q : sl_R} {x1 x2 x3 : Int} (H : sl_RM M → sl_rg x1 → sl_rg x2 → sl_rg x3 → ((x1 = 47) → ((x3 ≠ 0) → sl_At l mX3_apply 23 [(1, vI x1), (2, vI x2), (3, vI x3)] [] M Q) ∧ ((¬ (x3 ≠ 0)) → (∀ M3, M3 = sl_wr M 3 0 6 1 → Q (some (vI 0)) M3))) ∧ ((¬ (x1 = 47)) → ((x1 ≠ 37) → sl_At l mX3_apply 23 [(1, vI x1), (2, vI x2), (3, vI x3)] [] M Q) ∧ ((¬ (x1 ≠ 37)) → ((x3 ≠ 0) → sl_At l mX3_apply 23 [(1, vI x1), (2, vI x2), (3, vI x3)] [] M Q) ∧ ((¬ (x3 ≠ 0)) → (∀ M6, M6 = sl_wr M 3 0 6 1 → Q (some (vI 0)) M6))))) : sl_At l mX3_apply 0 [(0, vR 3 0), (1, vI x1), (2, vI x2), (3, vI x3)] [] M Q := by
  refine sl_At.in (fun hM hls => ?_)
  have g1 : sl_rg x1 := hls _ (List.mem_of_getElem? (i := 1) rfl)
  have g2 : sl_rg x2 := hls _ (List.mem_of_getElem? (i := 2) rfl)
  have g3 : sl_rg x3 := hls _ (List.mem_of_getElem? (i := 3) rfl)
  have H := H hM g1 g2 g3
  refine r_iload_n (k := 1) rfl rfl dX3_apply_0 ?_
  refine r_bipush dX3_apply_1 (by decide) ?_
  refine r_icmp_eq (tgt := 12) g1 ⟨by decide, by decide⟩ dX3_apply_3 (by decide) (fun h1 => ?_) (fun h1 => ?_)
  · have H := H.1 h1
    refine r_iload_n (k := 3) rfl rfl dX3_apply_12 ?_
    refine r_if_ne (tgt := 23) g3 dX3_apply_13 (by decide) (fun h2 => ?_) (fun h2 => ?_)
    · have H := H.1 h2
      exact sl_At.sub [1, 2, 3] rfl H
    · have H := H.2 h2
      refine r_aload_n (k := 0) rfl rfl dX3_apply_16 ?_
      refine r_iconst dX3_apply_17 ?_
      refine r_pI (k := 6) (kz := 6) rfl ckX3 rfl rfl (by decide) rfl rfl rfl rfl fl_X3_52 ⟨by decide, by decide⟩ dX3_apply_18 ?_
      refine r_mm (fun M3 e3 => ?_)
      have H := H M3 e3
      have hM3 : sl_RM M3 := by rw [e3]; exact sl_wr_RM hM ⟨by decide, by decide⟩
      refine r_iconst dX3_apply_21 ?_
      refine r_iret rfl ⟨by decide, by decide⟩ dX3_apply_22 ?_
      exact H
  · have H := H.2 h1
    refine r_iload_n (k := 1) rfl rfl dX3_apply_6 ?_
    refine r_bipush dX3_apply_7 (by decide) ?_
    refine r_icmp_ne (tgt := 23) g1 ⟨by decide, by decide⟩ dX3_apply_9 (by decide) (fun h4 => ?_) (fun h4 => ?_)
    · have H := H.1 h4
      exact sl_At.sub [1, 2, 3] rfl H
    · have H := H.2 h4
      refine r_iload_n (k := 3) rfl rfl dX3_apply_12 ?_
      refine r_if_ne (tgt := 23) g3 dX3_apply_13 (by decide) (fun h5 => ?_) (fun h5 => ?_)
      · have H := H.1 h5
        exact sl_At.sub [1, 2, 3] rfl H
      · have H := H.2 h5
        refine r_aload_n (k := 0) rfl rfl dX3_apply_16 ?_
        refine r_iconst dX3_apply_17 ?_
        refine r_pI (k := 6) (kz := 6) rfl ckX3 rfl rfl (by decide) rfl rfl rfl rfl fl_X3_52 ⟨by decide, by decide⟩ dX3_apply_18 ?_
        refine r_mm (fun M6 e6 => ?_)
        have H := H M6 e6
        have hM6 : sl_RM M6 := by rw [e6]; exact sl_wr_RM hM ⟨by decide, by decide⟩
        refine r_iconst dX3_apply_21 ?_
        refine r_iret rfl ⟨by decide, by decide⟩ dX3_apply_22 ?_
        exact H
set_option maxHeartbeats 4000000 in
set_option maxRecDepth 10000 in
theorem vX3_apply_23 {l : Launch} {M : sl_M} {Q : sl_R} {x1 x2 x3 : Int} (H : sl_RM M → sl_rg x1 → sl_rg x2 → sl_rg x3 → ((x1 = 37) → ((x3 ≠ 0) → (x3 ≠ 0) ∧ Q (some (vI (irem x2 x3))) M) ∧ ((¬ (x3 ≠ 0)) → Q (some (vI 0)) M)) ∧ ((x1 = 42) → (sl_rg (x2 * x3)) ∧ Q (some (vI (x2 * x3))) M) ∧ ((x1 = 43) → (sl_rg (x2 + x3)) ∧ Q (some (vI (x2 + x3))) M) ∧ ((x1 = 45) → (sl_rg (x2 - x3)) ∧ Q (some (vI (x2 - x3))) M) ∧ ((x1 = 47) → ((x3 ≠ 0) → (x3 ≠ 0) ∧ Q (some (vI (idiv x2 x3))) M) ∧ ((¬ (x3 ≠ 0)) → Q (some (vI 0)) M)) ∧ ((x1 = 60) → Q (some (vI (if ¬ (x3 ≤ x2) then 1 else 0))) M) ∧ ((¬ (x1 = 37) ∧ ¬ (x1 = 42) ∧ ¬ (x1 = 43) ∧ ¬ (x1 = 45) ∧ ¬ (x1 = 47) ∧ ¬ (x1 = 60)) → Q (some (vI (if ¬ (x2 ≠ x3) then 1 else 0))) M)) : sl_At l mX3_apply 23 [(1, vI x1), (2, vI x2), (3, vI x3)] [] M Q := by
  refine sl_At.in (fun hM hls => ?_)
  have g1 : sl_rg x1 := hls _ (List.mem_of_getElem? (i := 0) rfl)
  have g2 : sl_rg x2 := hls _ (List.mem_of_getElem? (i := 1) rfl)
  have g3 : sl_rg x3 := hls _ (List.mem_of_getElem? (i := 2) rfl)
  have H := H hM g1 g2 g3
  refine r_iload_n (k := 0) rfl rfl dX3_apply_23 ?_
  by_cases h1 : x1 = 37
  · refine r_ls (tgt := 108) (off := 84) g1 dX3_apply_24 (by decide) (by rw [h1]; decide +kernel) (by decide) ?_
    have H := H.1 h1
    refine r_iload_n (k := 2) rfl rfl dX3_apply_108 ?_
    refine r_if_ne (tgt := 116) g3 dX3_apply_109 (by decide) (fun h2 => ?_) (fun h2 => ?_)
    · have H := H.1 h2
      refine r_iload_n (k := 1) rfl rfl dX3_apply_116 ?_
      refine r_iload_n (k := 2) rfl rfl dX3_apply_117 ?_
      obtain ⟨c3, H⟩ := H
      refine r_irem g3 c3 dX3_apply_118 ?_
      refine r_iret rfl (rg_irem _ _) dX3_apply_119 ?_
      exact H
    · have H := H.2 h2
      refine r_iconst dX3_apply_112 ?_
      refine r_goto (tgt := 119) dX3_apply_113 (by decide) ?_
      refine r_iret rfl ⟨by decide, by decide⟩ dX3_apply_119 ?_
      exact H
  replace H := H.2
  by_cases h4 : x1 = 42
  · refine r_ls (tgt := 92) (off := 68) g1 dX3_apply_24 (by decide) (by rw [h4]; decide +kernel) (by decide) ?_
    have H := H.1 h4
    refine r_iload_n (k := 1) rfl rfl dX3_apply_92 ?_
    refine r_iload_n (k := 2) rfl rfl dX3_apply_93 ?_
    refine r_imul dX3_apply_94 ?_
    obtain ⟨c5, H⟩ := H
    refine r_iret rfl c5 dX3_apply_95 ?_
    exact H
  replace H := H.2
  by_cases h6 : x1 = 43
  · refine r_ls (tgt := 84) (off := 60) g1 dX3_apply_24 (by decide) (by rw [h6]; decide +kernel) (by decide) ?_
    have H := H.1 h6
    refine r_iload_n (k := 1) rfl rfl dX3_apply_84 ?_
    refine r_iload_n (k := 2) rfl rfl dX3_apply_85 ?_
    refine r_iadd dX3_apply_86 ?_
    obtain ⟨c7, H⟩ := H
    refine r_iret rfl c7 dX3_apply_87 ?_
    exact H
  replace H := H.2
  by_cases h8 : x1 = 45
  · refine r_ls (tgt := 88) (off := 64) g1 dX3_apply_24 (by decide) (by rw [h8]; decide +kernel) (by decide) ?_
    have H := H.1 h8
    refine r_iload_n (k := 1) rfl rfl dX3_apply_88 ?_
    refine r_iload_n (k := 2) rfl rfl dX3_apply_89 ?_
    refine r_isub dX3_apply_90 ?_
    obtain ⟨c9, H⟩ := H
    refine r_iret rfl c9 dX3_apply_91 ?_
    exact H
  replace H := H.2
  by_cases h10 : x1 = 47
  · refine r_ls (tgt := 96) (off := 72) g1 dX3_apply_24 (by decide) (by rw [h10]; decide +kernel) (by decide) ?_
    have H := H.1 h10
    refine r_iload_n (k := 2) rfl rfl dX3_apply_96 ?_
    refine r_if_ne (tgt := 104) g3 dX3_apply_97 (by decide) (fun h11 => ?_) (fun h11 => ?_)
    · have H := H.1 h11
      refine r_iload_n (k := 1) rfl rfl dX3_apply_104 ?_
      refine r_iload_n (k := 2) rfl rfl dX3_apply_105 ?_
      obtain ⟨c12, H⟩ := H
      refine r_idiv g3 c12 dX3_apply_106 ?_
      refine r_iret rfl (rg_idiv _ _) dX3_apply_107 ?_
      exact H
    · have H := H.2 h11
      refine r_iconst dX3_apply_100 ?_
      refine r_goto (tgt := 107) dX3_apply_101 (by decide) ?_
      refine r_iret rfl ⟨by decide, by decide⟩ dX3_apply_107 ?_
      exact H
  replace H := H.2
  by_cases h13 : x1 = 60
  · refine r_ls (tgt := 120) (off := 96) g1 dX3_apply_24 (by decide) (by rw [h13]; decide +kernel) (by decide) ?_
    have H := H.1 h13
    refine r_iload_n (k := 1) rfl rfl dX3_apply_120 ?_
    refine r_iload_n (k := 2) rfl rfl dX3_apply_121 ?_
    have J : sl_At l mX3_apply 130 [(1, vI x1), (2, vI x2), (3, vI x3)] [vI (if ¬ (x3 ≤ x2) then 1 else 0)] M Q := by
      refine r_iret rfl rg_b dX3_apply_130 ?_
      exact H
    refine r_icmp_ge (tgt := 129) g2 g3 dX3_apply_122 (by decide) (fun h14 => ?_) (fun h14 => ?_)
    · refine r_iconst dX3_apply_129 ?_
      rw [if_neg (show ¬ (¬ (x3 ≤ x2)) by omega)] at J
      exact J
    · refine r_iconst dX3_apply_125 ?_
      refine r_goto (tgt := 130) dX3_apply_126 (by decide) ?_
      rw [if_pos (show ¬ (x3 ≤ x2) by omega)] at J
      exact J
  replace H := H.2
  refine r_ls (tgt := 131) (off := 107) g1 dX3_apply_24 (by decide) ?_ (by decide) ?_
  · show Op.lookupswitch.offset [(37, 84), (42, 68), (43, 60), (45, 64), (47, 72), (60, 96)] _ _ = _
    rw [sl_osw h1, sl_osw h4, sl_osw h6, sl_osw h8, sl_osw h10, sl_osw h13]; rfl
  · have H := H ⟨h1, h4, h6, h8, h10, h13⟩
    refine r_iload_n (k := 1) rfl rfl dX3_apply_131 ?_
    refine r_iload_n (k := 2) rfl rfl dX3_apply_132 ?_
    have J : sl_At l mX3_apply 141 [(1, vI x1), (2, vI x2), (3, vI x3)] [vI (if ¬ (x2 ≠ x3) then 1 else 0)] M Q := by
      refine r_iret rfl rg_b dX3_apply_141 ?_
      exact H
    refine r_icmp_ne (tgt := 140) g2 g3 dX3_apply_133 (by decide) (fun h15 => ?_) (fun h15 => ?_)
    · refine r_iconst dX3_apply_140 ?_
      rw [if_neg (show ¬ (¬ (x2 ≠ x3)) by omega)] at J
      exact J
    · refine r_iconst dX3_apply_136 ?_
      refine r_goto (tgt := 141) dX3_apply_137 (by decide) ?_
      rw [if_pos (show ¬ (x2 ≠ x3) by omega)] at J
      exact J
theorem eX3_apply {l : Launch} {M : sl_M} {Q : sl_R} {x1 x2 x3 : Int} (k : sl_At l mX3_apply 0 [(0, vR 3 0), (1, vI x1), (2, vI x2), (3, vI x3)] [] M Q) : sl_Runs l mX3_apply [vR 3 0, vI x1, vI x2, vI x3] M Q := sl_Runs.of (ls := [(0, vR 3 0), (1, vI x1), (2, vI x2), (3, vI x3)]) rfl rfl (fun _ => rfl) (fun _ => Nat.le_of_ble_eq_true rfl) rfl (k)
theorem dX8_forget_0 : decode cX8_forget 0 = .ok (.aload_n 0, 1) := by decide +kernel
theorem dX8_forget_1 : decode cX8_forget 1 = .ok (.iconst 0, 1) := by decide +kernel
theorem dX8_forget_2 : decode cX8_forget 2 = .ok (.putfield 28, 3) := by decide +kernel
theorem dX8_forget_5 : decode cX8_forget 5 = .ok (.return_, 1) := by decide +kernel
set_option maxHeartbeats 4000000 in
set_option maxRecDepth 10000 in
theorem vX8_forget_0 {l : Launch} {M : sl_M} {Q : sl_R} (H : sl_RM M → (∀ M1, M1 = sl_wr M 8 0 5 0 → Q none M1)) : sl_At l mX8_forget 0 [(0, vR 8 0)] [] M Q := by
  refine sl_At.in (fun hM hls => ?_)
  have H := H hM
  refine r_aload_n (k := 0) rfl rfl dX8_forget_0 ?_
  refine r_iconst dX8_forget_1 ?_
  refine r_pI (k := 5) (kz := 5) rfl ckX8 rfl rfl (by decide) rfl rfl rfl rfl fl_X8_28 ⟨by decide, by decide⟩ dX8_forget_2 ?_
  refine r_mm (fun M1 e1 => ?_)
  have H := H M1 e1
  have hM1 : sl_RM M1 := by rw [e1]; exact sl_wr_RM hM ⟨by decide, by decide⟩
  refine r_vret rfl dX8_forget_5 ?_
  exact H
theorem eX8_forget {l : Launch} {M : sl_M} {Q : sl_R}  (k : sl_At l mX8_forget 0 [(0, vR 8 0)] [] M Q) : sl_Runs l mX8_forget [vR 8 0] M Q := sl_Runs.of (ls := [(0, vR 8 0)]) rfl rfl (fun _ => rfl) (fun _ => Nat.le_of_ble_eq_true rfl) rfl (k)
theorem dX8_find_0 : decode cX8_find 0 = .ok (.aload_n 0, 1) := by decide +kernel
theorem dX8_find_1 : decode cX8_find 1 = .ok (.iconst 0, 1) := by decide +kernel
theorem dX8_find_2 : decode cX8_find 2 = .ok (.putfield 28, 3) := by decide +kernel
theorem dX8_find_5 : decode cX8_find 5 = .ok (.aload_n 2, 1) := by decide +kernel
theorem dX8_find_6 : decode cX8_find 6 = .ok (.invokevirtual 32, 3) := by decide +kernel
theorem dX8_find_9 : decode cX8_find 9 = .ok (.astore_n 3, 1) := by decide +kernel
theorem dX8_find_10 : decode cX8_find 10 = .ok (.aload_n 3, 1) := by decide +kernel
theorem dX8_find_11 : decode cX8_find 11 = .ok (.aload_n 1, 1) := by decide +kernel
theorem dX8_find_12 : decode cX8_find 12 = .ok (.invokestatic 38, 3) := by decide +kernel
theorem dX8_find_15 : decode cX8_find 15 = .ok (.istore 4, 2) := by decide +kernel
theorem dX8_find_17 : decode cX8_find 17 = .ok (.aload_n 1, 1) := by decide +kernel
theorem dX8_find_18 : decode cX8_find 18 = .ok (.getfield 42, 3) := by decide +kernel
theorem dX8_find_21 : decode cX8_find 21 = .ok (.aload_n 1, 1) := by decide +kernel
theorem dX8_find_22 : decode cX8_find 22 = .ok (.getfield 45, 3) := by decide +kernel
theorem dX8_find_25 : decode cX8_find 25 = .ok (.isub, 1) := by decide +kernel
theorem dX8_find_26 : decode cX8_find 26 = .ok (.iconst 1, 1) := by decide +kernel
theorem dX8_find_27 : decode cX8_find 27 = .ok (.iadd, 1) := by decide +kernel
theorem dX8_find_28 : decode cX8_find 28 = .ok (.istore 5, 2) := by decide +kernel
theorem dX8_find_30 : decode cX8_find 30 = .ok (.iconst 0, 1) := by decide +kernel
theorem dX8_find_31 : decode cX8_find 31 = .ok (.istore 6, 2) := by decide +kernel
theorem dX8_find_33 : decode cX8_find 33 = .ok (.iconst 0, 1) := by decide +kernel
theorem dX8_find_34 : decode cX8_find 34 = .ok (.istore 7, 2) := by decide +kernel
theorem dX8_find_36 : decode cX8_find 36 = .ok (.iload 7, 2) := by decide +kernel
theorem dX8_find_38 : decode cX8_find 38 = .ok (.iload 5, 2) := by decide +kernel
theorem dX8_find_40 : decode cX8_find 40 = .ok (.iadd, 1) := by decide +kernel
theorem dX8_find_41 : decode cX8_find 41 = .ok (.aload_n 3, 1) := by decide +kernel
theorem dX8_find_42 : decode cX8_find 42 = .ok (.getfield 48, 3) := by decide +kernel
theorem dX8_find_45 : decode cX8_find 45 = .ok (.if_icmp .gt 146, 3) := by decide +kernel
theorem dX8_find_48 : decode cX8_find 48 = .ok (.iload 7, 2) := by decide +kernel
theorem dX8_find_50 : decode cX8_find 50 = .ok (.aload_n 1, 1) := by decide +kernel
theorem dX8_find_51 : decode cX8_find 51 = .ok (.getfield 42, 3) := by decide +kernel
theorem dX8_find_54 : decode cX8_find 54 = .ok (.if_icmp .gt 15, 3) := by decide +kernel
theorem dX8_find_57 : decode cX8_find 57 = .ok (.iload 7, 2) := by decide +kernel
theorem dX8_find_59 : decode cX8_find 59 = .ok (.iload 5, 2) := by decide +kernel
theorem dX8_find_61 : decode cX8_find 61 = .ok (.iadd, 1) := by decide +kernel
theorem dX8_find_62 : decode cX8_find 62 = .ok (.aload_n 1, 1) := by decide +kernel
theorem dX8_find_63 : decode cX8_find 63 = .ok (.getfield 45, 3) := by decide +kernel
theorem dX8_find_66 : decode cX8_find 66 = .ok (.if_icmp .gt 7, 3) := by decide +kernel
theorem dX8_find_69 : decode cX8_find 69 = .ok (.iconst 1, 1) := by decide +kernel
theorem dX8_find_70 : decode cX8_find 70 = .ok (.goto 4, 3) := by decide +kernel
theorem dX8_find_73 : decode cX8_find 73 = .ok (.iconst 0, 1) := by decide +kernel
theorem dX8_find_74 : decode cX8_find 74 = .ok (.istore 8, 2) := by decide +kernel
theorem dX8_find_76 : decode cX8_find 76 = .ok (.iload 8, 2) := by decide +kernel
theorem dX8_find_78 : decode cX8_find 78 = .ok (.ifCond .eq 21, 3) := by decide +kernel
theorem dX8_find_81 : decode cX8_find 81 = .ok (.iload 7, 2) := by decide +kernel
theorem dX8_find_83 : decode cX8_find 83 = .ok (.iload 6, 2) := by decide +kernel
theorem dX8_find_85 : decode cX8_find 85 = .ok (.if_icmp .lt 14, 3) := by decide +kernel
theorem dX8_find_88 : decode cX8_find 88 = .ok (.aload_n 3, 1) := by decide +kernel
theorem dX8_find_89 : decode cX8_find 89 = .ok (.iload 7, 2) := by decide +kernel
theorem dX8_find_91 : decode cX8_find 91 = .ok (.iload 4, 2) := by decide +kernel
theorem dX8_find_93 : decode cX8_find 93 = .ok (.invokestatic 53, 3) := by decide +kernel
theorem dX8_find_96 : decode cX8_find 96 = .ok (.goto 4, 3) := by decide +kernel
theorem dX8_find_99 : decode cX8_find 99 = .ok (.iconst (-1), 1) := by decide +kernel
theorem dX8_find_100 : decode cX8_find 100 = .ok (.istore 9, 2) := by decide +kernel
theorem dX8_find_102 : decode cX8_find 102 = .ok (.iload 9, 2) := by decide +kernel
theorem dX8_find_104 : decode cX8_find 104 = .ok (.iconst (-1), 1) := by decide +kernel
theorem dX8_find_105 : decode cX8_find 105 = .ok (.if_icmp .eq 80, 3) := by decide +kernel
theorem dX8_find_108 : decode cX8_find 108 = .ok (.iload 9, 2) := by decide +kernel
theorem dX8_find_110 : decode cX8_find 110 = .ok (.aload_n 3, 1) := by decide +kernel
theorem dX8_find_111 : decode cX8_find 111 = .ok (.getfield 57, 3) := by decide +kernel
theorem dX8_find_114 : decode cX8_find 114 = .ok (.iload 9, 2) := by decide +kernel
theorem dX8_find_116 : decode cX8_find 116 = .ok (.iaload, 1) := by decide +kernel
theorem dX8_find_117 : decode cX8_find 117 = .ok (.iadd, 1) := by decide +kernel
theorem dX8_find_118 : decode cX8_find 118 = .ok (.iload 7, 2) := by decide +kernel
theorem dX8_find_120 : decode cX8_find 120 = .ok (.iload 5, 2) := by decide +kernel
theorem dX8_find_122 : decode cX8_find 122 = .ok (.iadd, 1) := by decide +kernel
theorem dX8_find_123 : decode cX8_find 123 = .ok (.iconst 1, 1) := by decide +kernel
theorem dX8_find_124 : decode cX8_find 124 = .ok (.isub, 1) := by decide +kernel
theorem dX8_find_125 : decode cX8_find 125 = .ok (.if_icmp .ne 60, 3) := by decide +kernel
theorem dX8_find_128 : decode cX8_find 128 = .ok (.aload_n 0, 1) := by decide +kernel
theorem dX8_find_129 : decode cX8_find 129 = .ok (.aload_n 3, 1) := by decide +kernel
theorem dX8_find_130 : decode cX8_find 130 = .ok (.aload_n 1, 1) := by decide +kernel
theorem dX8_find_131 : decode cX8_find 131 = .ok (.iload 7, 2) := by decide +kernel
theorem dX8_find_133 : decode cX8_find 133 = .ok (.invokevirtual 60, 3) := by decide +kernel
theorem dX8_find_136 : decode cX8_find 136 = .ok (.ifCond .ne 6, 3) := by decide +kernel
theorem dX8_find_139 : decode cX8_find 139 = .ok (.goto 46, 3) := by decide +kernel
theorem dX8_find_142 : decode cX8_find 142 = .ok (.aload_n 2, 1) := by decide +kernel
theorem dX8_find_143 : decode cX8_find 143 = .ok (.aload_n 0, 1) := by decide +kernel
theorem dX8_find_144 : decode cX8_find 144 = .ok (.getfield 12, 3) := by decide +kernel
theorem dX8_find_147 : decode cX8_find 147 = .ok (.iload 7, 2) := by decide +kernel
theorem dX8_find_149 : decode cX8_find 149 = .ok (.iload 9, 2) := by decide +kernel
theorem dX8_find_151 : decode cX8_find 151 = .ok (.invokevirtual 64, 3) := by decide +kernel
theorem dX8_find_154 : decode cX8_find 154 = .ok (.aload_n 0, 1) := by decide +kernel
theorem dX8_find_155 : decode cX8_find 155 = .ok (.invokevirtual 68, 3) := by decide +kernel
theorem dX8_find_158 : decode cX8_find 158 = .ok (.istore 10, 2) := by decide +kernel
theorem dX8_find_160 : decode cX8_find 160 = .ok (.aload_n 0, 1) := by decide +kernel
theorem dX8_find_161 : decode cX8_find 161 = .ok (.aload_n 1, 1) := by decide +kernel
theorem dX8_find_162 : decode cX8_find 162 = .ok (.iload 10, 2) := by decide +kernel
theorem dX8_find_164 : decode cX8_find 164 = .ok (.invokevirtual 72, 3) := by decide +kernel
theorem dX8_find_167 : decode cX8_find 167 = .ok (.ifCond .eq 18, 3) := by decide +kernel
theorem dX8_find_170 : decode cX8_find 170 = .ok (.aload_n 0, 1) := by decide +kernel
theorem dX8_find_171 : decode cX8_find 171 = .ok (.iload 7, 2) := by decide +kernel
theorem dX8_find_173 : decode cX8_find 173 = .ok (.iload 10, 2) := by decide +kernel
theorem dX8_find_175 : decode cX8_find 175 = .ok (.invokevirtual 76, 3) := by decide +kernel
theorem dX8_find_178 : decode cX8_find 178 = .ok (.iload 7, 2) := by decide +kernel
theorem dX8_find_180 : decode cX8_find 180 = .ok (.iload 5, 2) := by decide +kernel
theorem dX8_find_182 : decode cX8_find 182 = .ok (.iadd, 1) := by decide +kernel
theorem dX8_find_183 : decode cX8_find 183 = .ok (.istore 6, 2) := by decide +kernel
theorem dX8_find_185 : decode cX8_find 185 = .ok (.iinc 7 1, 3) := by decide +kernel
theorem dX8_find_188 : decode cX8_find 188 = .ok (.goto (-152), 3) := by decide +kernel
theorem dX8_find_191 : decode cX8_find 191 = .ok (.return_, 1) := by decide +kernel
set_option maxHeartbeats 4000000 in
set_option maxRecDepth 10000 in
theorem vX8_find_0 {l : Launch} {M : sl_M} {Q : sl_R} {o1 : Nat} (ho1 : sl_cls o1 = 6) (H : sl_RM M → (∀ M1, M1 = sl_wr M 8 0 5 0 → sl_RR l mX1_program [vR 6 0] M1 (fun p3 M2 => (sl_cls p3 = 0) ∧ sl_RI l mX8_inBlock [vR p3 0, vR o1 0] M2 (fun y5 M4 => (sl_rg (M4 o1 0 2 - (M4 o1 0 0) + 1)) ∧ (∀ y7 : Int, y7 = M4 o1 0 2 - (M4 o1 0 0) + 1 → sl_At l mX8_find 36 [(0, vR 8 0), (1, vR o1 0), (2, vR 6 0), (3, vR p3 0), (4, vI y5), (5, vI y7), (6, vI 0), (7, vI 0)] [] M4 Q))))) : sl_At l mX8_find 0 [(0, vR 8 0), (1, vR o1 0), (2, vR 6 0)] [] M Q := by
  refine sl_At.in (fun hM hls => ?_)
  have H := H hM
  refine r_aload_n (k := 0) rfl rfl dX8_find_0 ?_
  refine r_iconst dX8_find_1 ?_
  refine r_pI (k := 5) (kz := 5) rfl ckX8 rfl rfl (by decide) rfl rfl rfl rfl fl_X8_28 ⟨by decide, by decide⟩ dX8_find_2 ?_
  refine r_mm (fun M1 e1 => ?_)
  have H := H M1 e1
  have hM1 : sl_RM M1 := by rw [e1]; exact sl_wr_RM hM ⟨by decide, by decide⟩
  refine r_aload_n (k := 2) rfl rfl dX8_find_5 ?_
  refine r_callV (g := mX1_program) ckX1 rfl rfl rfl rfl mkX1_program mvX1_program ml_X8_32 ⟨by decide, by decide⟩ rfl (Nat.le_of_ble_eq_true rfl) rfl ok_n dX8_find_6 (sl_afterR (sl_RR.mono (fun p3 M2 hM2 H => ?_) H))
  obtain ⟨zp3, H⟩ := H
  refine r_astore_n (ls' := [(3, vR p3 0), (0, vR 8 0), (1, vR o1 0), (2, vR 6 0)]) rfl (by decide) rfl dX8_find_9 ?_
  refine r_aload_n (k := 0) rfl rfl dX8_find_10 ?_
  refine r_aload_n (k := 2) rfl rfl dX8_find_11 ?_
  refine r_callS (g := mX8_inBlock) rfl mkX8_inBlock msX8_inBlock ml_X8_38 ⟨by decide, by decide⟩ rfl (Nat.le_of_ble_eq_true rfl) rfl (ok_r (ok_r ok_n)) dX8_find_12 (sl_afterI (sl_RI.mono (fun y5 M4 gy5 hM4 H => ?_) H))
  refine r_istore (ls' := [(4, vI y5), (3, vR p3 0), (0, vR 8 0), (1, vR o1 0), (2, vR 6 0)]) gy5 (by decide) rfl dX8_find_15 ?_
  refine r_aload_n (k := 3) rfl rfl dX8_find_17 ?_
  refine r_gI (k := 2) (kz := 2) rfl ckX6 ho1 rfl (by decide) rfl rfl fl_X8_42 dX8_find_18 ?_
  refine r_aload_n (k := 3) rfl rfl dX8_find_21 ?_
  refine r_gI (k := 0) (kz := 0) rfl ckX6 ho1 rfl (by decide) rfl rfl fl_X8_45 dX8_find_22 ?_
  refine r_isub dX8_find_25 ?_
  refine r_iconst dX8_find_26 ?_
  refine r_iadd dX8_find_27 ?_
  obtain ⟨c6, H⟩ := H
  refine r_nm (fun y7 fy7 => ?_)
  have H := H y7 fy7
  have gy7 : sl_rg y7 := by rw [fy7]; exact c6
  refine r_istore (ls' := [(5, vI y7), (4, vI y5), (3, vR p3 0), (0, vR 8 0), (1, vR o1 0), (2, vR 6 0)]) gy7 (by decide) rfl dX8_find_28 ?_
  refine r_iconst dX8_find_30 ?_
  refine r_istore (ls' := [(6, vI 0), (5, vI y7), (4, vI y5), (3, vR p3 0), (0, vR 8 0), (1, vR o1 0), (2, vR 6 0)]) ⟨by decide, by decide⟩ (by decide) rfl dX8_find_31 ?_
  refine r_iconst dX8_find_33 ?_
  refine r_istore (ls' := [(7, vI 0), (6, vI 0), (5, vI y7), (4, vI y5), (3, vR p3 0), (0, vR 8 0), (1, vR o1 0), (2, vR 6 0)]) ⟨by decide, by decide⟩ (by decide) rfl dX8_find_34 ?_
  exact sl_At.sub [5, 6, 7, 4, 3, 2, 1, 0] rfl H
set_option maxHeartbeats 4000000 in
set_option maxRecDepth 10000 in
theorem vX8_find_36 {l : Launch} {M : sl_M} {Q : sl_R} {o1 o3 : Nat} {x4 x5 x6 x7 : Int} (ho1 : sl_cls o1 = 6) (ho3 : sl_cls o3 = 0) (H : sl_RM M → sl_rg x4 → sl_rg x5 → sl_rg x6 → sl_rg x7 → (sl_rg (x7 + x5)) ∧ ((M o3 0 11 < x7 + x5) → Q none M) ∧ ((¬ (M o3 0 11 < x7 + x5)) → (∀ y5 : Int, y5 = (if (M o1 0 2 < x7) ∨ (¬ (M o1 0 0 < x7 + x5)) then 1 else 0) → ((¬ ((M o1 0 2 < x7) ∨ (¬ (M o1 0 0 < x7 + x5)))) → sl_At l mX8_find 100 [(0, vR 8 0), (1, vR o1 0), (2, vR 6 0), (3, vR o3 0), (4, vI x4), (5, vI x5), (6, vI x6), (7, vI x7)] [vI (-1)] M Q) ∧ (((M o1 0 2 < x7) ∨ (¬ (M o1 0 0 < x7 + x5))) → ((x7 < x6) → sl_At l mX8_find 100 [(0, vR 8 0), (1, vR o1 0), (2, vR 6 0), (3, vR o3 0), (4, vI x4), (5, vI x5), (6, vI x6), (7, vI x7)] [vI (-1)] M Q) ∧ ((¬ (x7 < x6)) → sl_RI l mX8_lastOf [vR o3 0, vI x7, vI x4] M (fun y9 M8 => sl_At l mX8_find 100 [(0, vR 8 0), (1, vR o1 0), (2, vR 6 0), (3, vR o3 0), (4, vI x4), (5, vI x5), (6, vI x6), (7, vI x7)] [vI y9] M8 Q)))))) : sl_At l mX8_find 36 [(0, vR 8 0), (1, vR o1 0), (2, vR 6 0), (3, vR o3 0), (4, vI x4), (5, vI x5), (6, vI x6), (7, vI x7)] [] M Q := by
  refine sl_At.in (fun hM hls => ?_)
  have g4 : sl_rg x4 := hls _ (List.mem_of_getElem? (i := 4) rfl)
  have g5 : sl_rg x5 := hls _ (List.mem_of_getElem? (i := 5) rfl)
  have g6 : sl_rg x6 := hls _ (List.mem_of_getElem? (i := 6) rfl)
  have g7 : sl_rg x7 := hls _ (List.mem_of_getElem? (i := 7) rfl)
  have H := H hM g4 g5 g6 g7
  refine r_iload (k := 7) rfl dX8_find_36 ?_
  refine r_iload (k := 5) rfl dX8_find_38 ?_
  refine r_iadd dX8_find_40 ?_
  refine r_aload_n (k := 3) rfl rfl dX8_find_41 ?_
  refine r_gI (k := 11) (kz := 11) rfl ckX0 ho3 rfl (by decide) rfl rfl fl_X8_48 dX8_find_42 ?_
  obtain ⟨c1, H⟩ := H
  refine r_icmp_gt (tgt := 191) c1 (hM _ _ _) dX8_find_45 (by decide) (fun h2 => ?_) (fun h2 => ?_)
  · have H := H.1 h2
    refine r_vret rfl dX8_find_191 ?_
    exact H
  · have H := H.2 h2
    refine r_iload (k := 7) rfl dX8_find_48 ?_
    refine r_aload_n (k := 1) rfl rfl dX8_find_50 ?_
    refine r_gI (k := 2) (kz := 2) rfl ckX6 ho1 rfl (by decide) rfl rfl fl_X8_42 dX8_find_51 ?_
    have J : sl_At l mX8_find 74 [(0, vR 8 0), (1, vR o1 0), (2, vR 6 0), (3, vR o3 0), (4, vI x4), (5, vI x5), (6, vI x6), (7, vI x7)] [vI (if (M o1 0 2 < x7) ∨ (¬ (M o1 0 0 < x7 + x5)) then 1 else 0)] M Q := by
      refine r_nm (fun y5 fy5 => ?_)
      have H := H y5 fy5
      have gy5 : sl_rg y5 := by rw [fy5]; exact rg_b
      refine r_istore (ls' := [(8, vI y5), (0, vR 8 0), (1, vR o1 0), (2, vR 6 0), (3, vR o3 0), (4, vI x4), (5, vI x5), (6, vI x6), (7, vI x7)]) gy5 (by decide) rfl dX8_find_74 ?_
      refine r_iload (k := 0) rfl dX8_find_76 ?_
      refine r_if_eq (tgt := 99) gy5 dX8_find_78 (by decide) (fun h6 => ?_) (fun h6 => ?_)
      · have H := H.1 (b_eq0.mp (fy5.symm.trans h6))
        refine r_iconst dX8_find_99 ?_
        exact sl_At.sub [1, 2, 3, 4, 5, 6, 7, 8] rfl H
      · have H := H.2 (b_ne0.mp (fun q => h6 (fy5.trans q)))
        refine r_iload (k := 8) rfl dX8_find_81 ?_
        refine r_iload (k := 7) rfl dX8_find_83 ?_
        refine r_icmp_lt (tgt := 99) g7 g6 dX8_find_85 (by decide) (fun h7 => ?_) (fun h7 => ?_)
        · have H := H.1 h7
          refine r_iconst dX8_find_99 ?_
          exact sl_At.sub [1, 2, 3, 4, 5, 6, 7, 8] rfl H
        · have H := H.2 h7
          refine r_aload_n (k := 4) rfl rfl dX8_find_88 ?_
          refine r_iload (k := 8) rfl dX8_find_89 ?_
          refine r_iload (k := 5) rfl dX8_find_91 ?_
          refine r_callS (g := mX8_lastOf) rfl mkX8_lastOf msX8_lastOf ml_X8_53 ⟨by decide, by decide⟩ rfl (Nat.le_of_ble_eq_true rfl) rfl (ok_r (ok_i g7 (ok_i g4 ok_n))) dX8_find_93 (sl_afterI (sl_RI.mono (fun y9 M8 gy9 hM8 H => ?_) H))
          refine r_goto (tgt := 100) dX8_find_96 (by decide) ?_
          exact sl_At.sub [1, 2, 3, 4, 5, 6, 7, 8] rfl H
    refine r_icmp_gt (tgt := 69) g7 (hM _ _ _) dX8_find_54 (by decide) (fun h3 => ?_) (fun h3 => ?_)
    · refine r_iconst dX8_find_69 ?_
      refine r_goto (tgt := 74) dX8_find_70 (by decide) ?_
      rw [if_pos (show (M o1 0 2 < x7) ∨ (¬ (M o1 0 0 < x7 + x5)) by omega)] at J
      exact J
    · refine r_iload (k := 7) rfl dX8_find_57 ?_
      refine r_iload (k := 5) rfl dX8_find_59 ?_
      refine r_iadd dX8_find_61 ?_
      refine r_aload_n (k := 1) rfl rfl dX8_find_62 ?_
      refine r_gI (k := 0) (kz := 0) rfl ckX6 ho1 rfl (by decide) rfl rfl fl_X8_45 dX8_find_63 ?_
      refine r_icmp_gt (tgt := 73) c1 (hM _ _ _) dX8_find_66 (by decide) (fun h4 => ?_) (fun h4 => ?_)
      · refine r_iconst dX8_find_73 ?_
        rw [if_neg (show ¬ ((M o1 0 2 < x7) ∨ (¬ (M o1 0 0 < x7 + x5))) by omega)] at J
        exact J
      · refine r_iconst dX8_find_69 ?_
        refine r_goto (tgt := 74) dX8_find_70 (by decide) ?_
        rw [if_pos (show (M o1 0 2 < x7) ∨ (¬ (M o1 0 0 < x7 + x5)) by omega)] at J
        exact J
set_option maxHeartbeats 4000000 in
set_option maxRecDepth 10000 in
theorem vX8_find_69 {l : Launch} {M : sl_M} {Q : sl_R} {o1 o3 : Nat} {x4 x5 x6 x7 : Int} (ho1 : sl_cls o1 = 6) (ho3 : sl_cls o3 = 0) (H : sl_RM M → sl_rg x4 → sl_rg x5 → sl_rg x6 → sl_rg x7 → (((1 : Int) = 0) → sl_At l mX8_find 100 [(0, vR 8 0), (1, vR o1 0), (2, vR 6 0), (3, vR o3 0), (4, vI x4), (5, vI x5), (6, vI x6), (7, vI x7)] [vI (-1)] M Q) ∧ ((¬ ((1 : Int) = 0)) → ((x7 < x6) → sl_At l mX8_find 100 [(0, vR 8 0), (1, vR o1 0), (2, vR 6 0), (3, vR o3 0), (4, vI x4), (5, vI x5), (6, vI x6), (7, vI x7)] [vI (-1)] M Q) ∧ ((¬ (x7 < x6)) → sl_RI l mX8_lastOf [vR o3 0, vI x7, vI x4] M (fun y4 M3 => sl_At l mX8_find 100 [(0, vR 8 0), (1, vR o1 0), (2, vR 6 0), (3, vR o3 0), (4, vI x4), (5, vI x5), (6, vI x6), (7, vI x7)] [vI y4] M3 Q)))) : sl_At l mX8_find 69 [(0, vR 8 0), (1, vR o1 0), (2, vR 6 0), (3, vR o3 0), (4, vI x4), (5, vI x5), (6, vI x6), (7, vI x7)] [] M Q := by
  refine sl_At.in (fun hM hls => ?_)
  have g4 : sl_rg x4 := hls _ (List.mem_of_getElem? (i := 4) rfl)
  have g5 : sl_rg x5 := hls _ (List.mem_of_getElem? (i := 5) rfl)
  have g6 : sl_rg x6 := hls _ (List.mem_of_getElem? (i := 6) rfl)
  have g7 : sl_rg x7 := hls _ (List.mem_of_getElem? (i := 7) rfl)
  have H := H hM g4 g5 g6 g7
  refine r_iconst dX8_find_69 ?_
  refine r_goto (tgt := 74) dX8_find_70 (by decide) ?_
  refine r_istore (ls' := [(8, vI 1), (0, vR 8 0), (1, vR o1 0), (2, vR 6 0), (3, vR o3 0), (4, vI x4), (5, vI x5), (6, vI x6), (7, vI x7)]) ⟨by decide, by decide⟩ (by decide) rfl dX8_find_74 ?_
  refine r_iload (k := 0) rfl dX8_find_76 ?_
  refine r_if_eq (tgt := 99) ⟨by decide, by decide⟩ dX8_find_78 (by decide) (fun h1 => ?_) (fun h1 => ?_)
  · have H := H.1 h1
    refine r_iconst dX8_find_99 ?_
    exact sl_At.sub [1, 2, 3, 4, 5, 6, 7, 8] rfl H
  · have H := H.2 h1
    refine r_iload (k := 8) rfl dX8_find_81 ?_
    refine r_iload (k := 7) rfl dX8_find_83 ?_
    refine r_icmp_lt (tgt := 99) g7 g6 dX8_find_85 (by decide) (fun h2 => ?_) (fun h2 => ?_)
    · have H := H.1 h2
      refine r_iconst dX8_find_99 ?_
      exact sl_At.sub [1, 2, 3, 4, 5, 6, 7, 8] rfl H
    · have H := H.2 h2
      refine r_aload_n (k := 4) rfl rfl dX8_find_88 ?_
      refine r_iload (k := 8) rfl dX8_find_89 ?_
      refine r_iload (k := 5) rfl dX8_find_91 ?_
      refine r_callS (g := mX8_lastOf) rfl mkX8_lastOf msX8_lastOf ml_X8_53 ⟨by decide, by decide⟩ rfl (Nat.le_of_ble_eq_true rfl) rfl (ok_r (ok_i g7 (ok_i g4 ok_n))) dX8_find_93 (sl_afterI (sl_RI.mono (fun y4 M3 gy4 hM3 H => ?_) H))
      refine r_goto (tgt := 100) dX8_find_96 (by decide) ?_
      exact sl_At.sub [1, 2, 3, 4, 5, 6, 7, 8] rfl H
set_option maxHeartbeats 4000000 in
set_option maxRecDepth 10000 in
theorem vX8_find_100 {l : Launch} {M : sl_M} {Q : sl_R} {o1 o3 : Nat} {x4 x5 x6 x7 s0 : Int} (ho1 : sl_cls o1 = 6) (ho3 : sl_cls o3 = 0) (gs0 : sl_rg s0) (H : sl_RM M → sl_rg x4 → sl_rg x5 → sl_rg x6 → sl_rg x7 → ((s0 = (-1)) → (sl_rg (x7 + 1)) ∧ sl_At l mX8_find 36 [(0, vR 8 0), (1, vR o1 0), (2, vR 6 0), (3, vR o3 0), (4, vI x4), (5, vI x5), (6, vI x6), (7, vI (x7 + 1))] [] M Q) ∧ ((¬ (s0 = (-1))) → (0 ≤ s0 ∧ s0 < 40) ∧ (sl_rg (s0 + (M o3 3 s0))) ∧ (sl_rg (x7 + x5 - 1)) ∧ ((s0 + (M o3 3 s0) ≠ x7 + x5 - 1) → (sl_rg (x7 + 1)) ∧ sl_At l mX8_find 36 [(0, vR 8 0), (1, vR o1 0), (2, vR 6 0), (3, vR o3 0), (4, vI x4), (5, vI x5), (6, vI x6), (7, vI (x7 + 1))] [] M Q) ∧ ((¬ (s0 + (M o3 3 s0) ≠ x7 + x5 - 1)) → sl_RI l mX8_matches [vR 8 0, vR o3 0, vR o1 0, vI x7] M (fun y9 M8 => ((y9 ≠ 0) → sl_RV l mX1_examine [vR 6 0, vR 9 0, vI x7, vI s0] M8 (fun M11 => sl_RI l mX8_packed [vR 8 0] M11 (fun y13 M12 => sl_RI l mX8_agrees [vR 8 0, vR o1 0, vI y13] M12 (fun y15 M14 => ((y15 = 0) → (sl_rg (x7 + 1)) ∧ sl_At l mX8_find 36 [(0, vR 8 0), (1, vR o1 0), (2, vR 6 0), (3, vR o3 0), (4, vI x4), (5, vI x5), (6, vI x6), (7, vI (x7 + 1))] [] M14 Q) ∧ ((¬ (y15 = 0)) → sl_RV l mX8_take [vR 8 0, vI x7, vI y13] M14 (fun M18 => (sl_rg (x7 + x5)) ∧ (∀ y20 : Int, y20 = x7 + x5 → (sl_rg (x7 + 1)) ∧ sl_At l mX8_find 36 [(0, vR 8 0), (1, vR o1 0), (2, vR 6 0), (3, vR o3 0), (4, vI x4), (5, vI x5), (6, vI y20), (7, vI (x7 + 1))] [] M18 Q))))))) ∧ ((¬ (y9 ≠ 0)) → (sl_rg (x7 + 1)) ∧ sl_At l mX8_find 36 [(0, vR 8 0), (1, vR o1 0), (2, vR 6 0), (3, vR o3 0), (4, vI x4), (5, vI x5), (6, vI x6), (7, vI (x7 + 1))] [] M8 Q))))) : sl_At l mX8_find 100 [(0, vR 8 0), (1, vR o1 0), (2, vR 6 0), (3, vR o3 0), (4, vI x4), (5, vI x5), (6, vI x6), (7, vI x7)] [vI s0] M Q := by
  refine sl_At.in (fun hM hls => ?_)
  have g4 : sl_rg x4 := hls _ (List.mem_of_getElem? (i := 4) rfl)
  have g5 : sl_rg x5 := hls _ (List.mem_of_getElem? (i := 5) rfl)
  have g6 : sl_rg x6 := hls _ (List.mem_of_getElem? (i := 6) rfl)
  have g7 : sl_rg x7 := hls _ (List.mem_of_getElem? (i := 7) rfl)
  have H := H hM g4 g5 g6 g7
  refine r_istore (ls' := [(9, vI s0), (0, vR 8 0), (1, vR o1 0), (2, vR 6 0), (3, vR o3 0), (4, vI x4), (5, vI x5), (6, vI x6), (7, vI x7)]) gs0 (by decide) rfl dX8_find_100 ?_
  refine r_iload (k := 0) rfl dX8_find_102 ?_
  refine r_iconst dX8_find_104 ?_
  refine r_icmp_eq (tgt := 185) gs0 ⟨by decide, by decide⟩ dX8_find_105 (by decide) (fun h1 => ?_) (fun h1 => ?_)
  · have H := H.1 h1
    obtain ⟨c2, H⟩ := H
    refine r_iinc (k := 8) (ls' := [(7, vI (x7 + 1)), (9, vI s0), (0, vR 8 0), (1, vR o1 0), (2, vR 6 0), (3, vR o3 0), (4, vI x4), (5, vI x5), (6, vI x6)]) rfl c2 (by decide) rfl dX8_find_185 ?_
    refine r_goto (tgt := 36) dX8_find_188 (by decide) ?_
    exact sl_At.sub [2, 3, 4, 5, 6, 7, 8, 0] rfl H
  · have H := H.2 h1
    refine r_iload (k := 0) rfl dX8_find_108 ?_
    refine r_aload_n (k := 4) rfl rfl dX8_find_110 ?_
    refine r_getR (k := 2) (o' := o3) (i' := 3) ckX0 ho3 rfl (by decide) rfl rfl rfl fl_X8_57 dX8_find_111 ?_
    refine r_iload (k := 0) rfl dX8_find_114 ?_
    obtain ⟨c3, H⟩ := H
    refine r_iald ho3 rfl rfl c3 dX8_find_116 ?_
    refine r_iadd dX8_find_117 ?_
    refine r_iload (k := 8) rfl dX8_find_118 ?_
    refine r_iload (k := 6) rfl dX8_find_120 ?_
    refine r_iadd dX8_find_122 ?_
    refine r_iconst dX8_find_123 ?_
    refine r_isub dX8_find_124 ?_
    obtain ⟨c4, H⟩ := H
    obtain ⟨c5, H⟩ := H
    refine r_icmp_ne (tgt := 185) c4 c5 dX8_find_125 (by decide) (fun h6 => ?_) (fun h6 => ?_)
    · have H := H.1 h6
      obtain ⟨c7, H⟩ := H
      refine r_iinc (k := 8) (ls' := [(7, vI (x7 + 1)), (9, vI s0), (0, vR 8 0), (1, vR o1 0), (2, vR 6 0), (3, vR o3 0), (4, vI x4), (5, vI x5), (6, vI x6)]) rfl c7 (by decide) rfl dX8_find_185 ?_
      refine r_goto (tgt := 36) dX8_find_188 (by decide) ?_
      exact sl_At.sub [2, 3, 4, 5, 6, 7, 8, 0] rfl H
    · have H := H.2 h6
      refine r_aload_n (k := 1) rfl rfl dX8_find_128 ?_
      refine r_aload_n (k := 4) rfl rfl dX8_find_129 ?_
      refine r_aload_n (k := 2) rfl rfl dX8_find_130 ?_
      refine r_iload (k := 8) rfl dX8_find_131 ?_
      refine r_callV (g := mX8_matches) ckX8 rfl rfl rfl rfl mkX8_matches mvX8_matches ml_X8_60 ⟨by decide, by decide⟩ rfl (Nat.le_of_ble_eq_true rfl) rfl (ok_r (ok_r (ok_i g7 ok_n))) dX8_find_133 (sl_afterI (sl_RI.mono (fun y9 M8 gy9 hM8 H => ?_) H))
      refine r_if_ne (tgt := 142) gy9 dX8_find_136 (by decide) (fun h10 => ?_) (fun h10 => ?_)
      · have H := H.1 h10
        refine r_aload_n (k := 3) rfl rfl dX8_find_142 ?_
        refine r_aload_n (k := 1) rfl rfl dX8_find_143 ?_
        refine r_getR (k := 0) (o' := 9) (i' := 0) ckX8 rfl rfl (by decide) rfl rfl rfl fl_X8_12 dX8_find_144 ?_
        refine r_iload (k := 8) rfl dX8_find_147 ?_
        refine r_iload (k := 0) rfl dX8_find_149 ?_
        refine r_callV (g := mX1_examine) ckX1 rfl rfl rfl rfl mkX1_examine mvX1_examine ml_X8_64 ⟨by decide, by decide⟩ rfl (Nat.le_of_ble_eq_true rfl) rfl (ok_r (ok_i g7 (ok_i gs0 ok_n))) dX8_find_151 (sl_afterV (sl_RV.mono (fun M11 hM11 H => ?_) H))
        refine r_aload_n (k := 1) rfl rfl dX8_find_154 ?_
        refine r_callV (g := mX8_packed) ckX8 rfl rfl rfl rfl mkX8_packed mvX8_packed ml_X8_68 ⟨by decide, by decide⟩ rfl (Nat.le_of_ble_eq_true rfl) rfl ok_n dX8_find_155 (sl_afterI (sl_RI.mono (fun y13 M12 gy13 hM12 H => ?_) H))
        refine r_istore (ls' := [(10, vI y13), (9, vI s0), (0, vR 8 0), (1, vR o1 0), (2, vR 6 0), (3, vR o3 0), (4, vI x4), (5, vI x5), (6, vI x6), (7, vI x7)]) gy13 (by decide) rfl dX8_find_158 ?_
        refine r_aload_n (k := 2) rfl rfl dX8_find_160 ?_
        refine r_aload_n (k := 3) rfl rfl dX8_find_161 ?_
        refine r_iload (k := 0) rfl dX8_find_162 ?_
        refine r_callV (g := mX8_agrees) ckX8 rfl rfl rfl rfl mkX8_agrees mvX8_agrees ml_X8_72 ⟨by decide, by decide⟩ rfl (Nat.le_of_ble_eq_true rfl) rfl (ok_r (ok_i gy13 ok_n)) dX8_find_164 (sl_afterI (sl_RI.mono (fun y15 M14 gy15 hM14 H => ?_) H))
        refine r_if_eq (tgt := 185) gy15 dX8_find_167 (by decide) (fun h16 => ?_) (fun h16 => ?_)
        · have H := H.1 h16
          obtain ⟨c17, H⟩ := H
          refine r_iinc (k := 9) (ls' := [(7, vI (x7 + 1)), (10, vI y13), (9, vI s0), (0, vR 8 0), (1, vR o1 0), (2, vR 6 0), (3, vR o3 0), (4, vI x4), (5, vI x5), (6, vI x6)]) rfl c17 (by decide) rfl dX8_find_185 ?_
          refine r_goto (tgt := 36) dX8_find_188 (by decide) ?_
          exact sl_At.sub [3, 4, 5, 6, 7, 8, 9, 0] rfl H
        · have H := H.2 h16
          refine r_aload_n (k := 2) rfl rfl dX8_find_170 ?_
          refine r_iload (k := 9) rfl dX8_find_171 ?_
          refine r_iload (k := 0) rfl dX8_find_173 ?_
          refine r_callV (g := mX8_take) ckX8 rfl rfl rfl rfl mkX8_take mvX8_take ml_X8_76 ⟨by decide, by decide⟩ rfl (Nat.le_of_ble_eq_true rfl) rfl (ok_i g7 (ok_i gy13 ok_n)) dX8_find_175 (sl_afterV (sl_RV.mono (fun M18 hM18 H => ?_) H))
          refine r_iload (k := 9) rfl dX8_find_178 ?_
          refine r_iload (k := 7) rfl dX8_find_180 ?_
          refine r_iadd dX8_find_182 ?_
          obtain ⟨c19, H⟩ := H
          refine r_nm (fun y20 fy20 => ?_)
          have H := H y20 fy20
          have gy20 : sl_rg y20 := by rw [fy20]; exact c19
          refine r_istore (ls' := [(6, vI y20), (10, vI y13), (9, vI s0), (0, vR 8 0), (1, vR o1 0), (2, vR 6 0), (3, vR o3 0), (4, vI x4), (5, vI x5), (7, vI x7)]) gy20 (by decide) rfl dX8_find_183 ?_
          obtain ⟨c21, H⟩ := H
          refine r_iinc (k := 9) (ls' := [(7, vI (x7 + 1)), (6, vI y20), (10, vI y13), (9, vI s0), (0, vR 8 0), (1, vR o1 0), (2, vR 6 0), (3, vR o3 0), (4, vI x4), (5, vI x5)]) rfl c21 (by decide) rfl dX8_find_185 ?_
          refine r_goto (tgt := 36) dX8_find_188 (by decide) ?_
          exact sl_At.sub [4, 5, 6, 7, 8, 9, 1, 0] rfl H
      · have H := H.2 h10
        refine r_goto (tgt := 185) dX8_find_139 (by decide) ?_
        obtain ⟨c22, H⟩ := H
        refine r_iinc (k := 8) (ls' := [(7, vI (x7 + 1)), (9, vI s0), (0, vR 8 0), (1, vR o1 0), (2, vR 6 0), (3, vR o3 0), (4, vI x4), (5, vI x5), (6, vI x6)]) rfl c22 (by decide) rfl dX8_find_185 ?_
        refine r_goto (tgt := 36) dX8_find_188 (by decide) ?_
        exact sl_At.sub [2, 3, 4, 5, 6, 7, 8, 0] rfl H
theorem eX8_find {l : Launch} {M : sl_M} {Q : sl_R} {o1 : Nat} (k : sl_At l mX8_find 0 [(0, vR 8 0), (1, vR o1 0), (2, vR 6 0)] [] M Q) : sl_Runs l mX8_find [vR 8 0, vR o1 0, vR 6 0] M Q := sl_Runs.of (ls := [(0, vR 8 0), (1, vR o1 0), (2, vR 6 0)]) rfl rfl (fun _ => rfl) (fun _ => Nat.le_of_ble_eq_true rfl) rfl (k)
theorem dX8_replacement_0 : decode cX8_replacement 0 = .ok (.aload_n 0, 1) := by decide +kernel
theorem dX8_replacement_1 : decode cX8_replacement 1 = .ok (.getfield 28, 3) := by decide +kernel
theorem dX8_replacement_4 : decode cX8_replacement 4 = .ok (.ifCond .le 27, 3) := by decide +kernel
theorem dX8_replacement_7 : decode cX8_replacement 7 = .ok (.aload_n 0, 1) := by decide +kernel
theorem dX8_replacement_8 : decode cX8_replacement 8 = .ok (.getfield 80, 3) := by decide +kernel
theorem dX8_replacement_11 : decode cX8_replacement 11 = .ok (.iload_n 1, 1) := by decide +kernel
theorem dX8_replacement_12 : decode cX8_replacement 12 = .ok (.invokestatic 83, 3) := by decide +kernel
theorem dX8_replacement_15 : decode cX8_replacement 15 = .ok (.ifCond .eq 16, 3) := by decide +kernel
theorem dX8_replacement_18 : decode cX8_replacement 18 = .ok (.aload_n 0, 1) := by decide +kernel
theorem dX8_replacement_19 : decode cX8_replacement 19 = .ok (.getfield 25, 3) := by decide +kernel
theorem dX8_replacement_22 : decode cX8_replacement 22 = .ok (.iconst 0, 1) := by decide +kernel
theorem dX8_replacement_23 : decode cX8_replacement 23 = .ok (.iaload, 1) := by decide +kernel
theorem dX8_replacement_24 : decode cX8_replacement 24 = .ok (.iload_n 1, 1) := by decide +kernel
theorem dX8_replacement_25 : decode cX8_replacement 25 = .ok (.invokestatic 87, 3) := by decide +kernel
theorem dX8_replacement_28 : decode cX8_replacement 28 = .ok (.goto 4, 3) := by decide +kernel
theorem dX8_replacement_31 : decode cX8_replacement 31 = .ok (.iconst (-1), 1) := by decide +kernel
theorem dX8_replacement_32 : decode cX8_replacement 32 = .ok (.ireturn, 1) := by decide +kernel
set_option maxHeartbeats 4000000 in
set_option maxRecDepth 10000 in
theorem vX8_replacement_0 {l : Launch} {M : sl_M} {Q : sl_R} {x1 : Int} (H : sl_RM M → sl_rg x1 → ((M 8 0 5 ≤ 0) → Q (some (vI (-1))) M) ∧ ((¬ (M 8 0 5 ≤ 0)) → ((¬ (iand (ishr (M 8 0 6) x1) 1 ≠ 0)) → Q (some (vI (-1))) M) ∧ ((iand (ishr (M 8 0 6) x1) 1 ≠ 0) → Q (some (vI (iand (ishr (M 8 5 0) (3 * x1)) 7))) M))) : sl_At l mX8_replacement 0 [(0, vR 8 0), (1, vI x1)] [] M Q := by
  refine sl_At.in (fun hM hls => ?_)
  have g1 : sl_rg x1 := hls _ (List.mem_of_getElem? (i := 1) rfl)
  have H := H hM g1
  refine r_aload_n (k := 0) rfl rfl dX8_replacement_0 ?_
  refine r_gI (k := 5) (kz := 5) rfl ckX8 rfl rfl (by decide) rfl rfl fl_X8_28 dX8_replacement_1 ?_
  refine r_if_le (tgt := 31) (hM _ _ _) dX8_replacement_4 (by decide) (fun h1 => ?_) (fun h1 => ?_)
  · have H := H.1 h1
    refine r_iconst dX8_replacement_31 ?_
    refine r_iret rfl ⟨by decide, by decide⟩ dX8_replacement_32 ?_
    exact H
  · have H := H.2 h1
    refine r_aload_n (k := 0) rfl rfl dX8_replacement_7 ?_
    refine r_gI (k := 6) (kz := 6) rfl ckX8 rfl rfl (by decide) rfl rfl fl_X8_80 dX8_replacement_8 ?_
    refine r_iload_n (k := 1) rfl rfl dX8_replacement_11 ?_
    refine r_callSN (g := mX9_has) rfl mkX9_has msX9_has mn_X8_83 ⟨by decide, by decide⟩ rfl (Nat.le_of_ble_eq_true rfl) rfl (ok_i (hM _ _ _) (ok_i g1 ok_n)) dX8_replacement_12 (sl_afterI (sl_RI.by kX9_has ?_))
    refine r_if_eq (tgt := 31) rg_b dX8_replacement_15 (by decide) (fun h2 => ?_) (fun h2 => ?_)
    · have H := H.1 (b_eq0.mp h2)
      refine r_iconst dX8_replacement_31 ?_
      refine r_iret rfl ⟨by decide, by decide⟩ dX8_replacement_32 ?_
      exact H
    · have H := H.2 (b_ne0.mp h2)
      refine r_aload_n (k := 0) rfl rfl dX8_replacement_18 ?_
      refine r_getR (k := 4) (o' := 8) (i' := 5) ckX8 rfl rfl (by decide) rfl rfl rfl fl_X8_25 dX8_replacement_19 ?_
      refine r_iconst dX8_replacement_22 ?_
      refine r_iald rfl rfl rfl ⟨by decide, by decide⟩ dX8_replacement_23 ?_
      refine r_iload_n (k := 1) rfl rfl dX8_replacement_24 ?_
      refine r_callSN (g := mX9_renamed) rfl mkX9_renamed msX9_renamed mn_X8_87 ⟨by decide, by decide⟩ rfl (Nat.le_of_ble_eq_true rfl) rfl (ok_i (hM _ _ _) (ok_i g1 ok_n)) dX8_replacement_25 (sl_afterI (sl_RI.by kX9_renamed ?_))
      refine r_goto (tgt := 32) dX8_replacement_28 (by decide) ?_
      refine r_iret rfl (rgkX9_renamed _ _) dX8_replacement_32 ?_
      exact H
theorem eX8_replacement {l : Launch} {M : sl_M} {Q : sl_R} {x1 : Int} (k : sl_At l mX8_replacement 0 [(0, vR 8 0), (1, vI x1)] [] M Q) : sl_Runs l mX8_replacement [vR 8 0, vI x1] M Q := sl_Runs.of (ls := [(0, vR 8 0), (1, vI x1)]) rfl rfl (fun _ => rfl) (fun _ => Nat.le_of_ble_eq_true rfl) rfl (k)
theorem dX8_renamingAt_0 : decode cX8_renamingAt 0 = .ok (.iconst 0, 1) := by decide +kernel
theorem dX8_renamingAt_1 : decode cX8_renamingAt 1 = .ok (.istore_n 2, 1) := by decide +kernel
theorem dX8_renamingAt_2 : decode cX8_renamingAt 2 = .ok (.iload_n 2, 1) := by decide +kernel
theorem dX8_renamingAt_3 : decode cX8_renamingAt 3 = .ok (.aload_n 0, 1) := by decide +kernel
theorem dX8_renamingAt_4 : decode cX8_renamingAt 4 = .ok (.getfield 28, 3) := by decide +kernel
theorem dX8_renamingAt_7 : decode cX8_renamingAt 7 = .ok (.if_icmp .ge 26, 3) := by decide +kernel
theorem dX8_renamingAt_10 : decode cX8_renamingAt 10 = .ok (.aload_n 0, 1) := by decide +kernel
theorem dX8_renamingAt_11 : decode cX8_renamingAt 11 = .ok (.getfield 22, 3) := by decide +kernel
theorem dX8_renamingAt_14 : decode cX8_renamingAt 14 = .ok (.iload_n 2, 1) := by decide +kernel
theorem dX8_renamingAt_15 : decode cX8_renamingAt 15 = .ok (.iaload, 1) := by decide +kernel
theorem dX8_renamingAt_16 : decode cX8_renamingAt 16 = .ok (.iload_n 1, 1) := by decide +kernel
theorem dX8_renamingAt_17 : decode cX8_renamingAt 17 = .ok (.if_icmp .ne 10, 3) := by decide +kernel
theorem dX8_renamingAt_20 : decode cX8_renamingAt 20 = .ok (.aload_n 0, 1) := by decide +kernel
theorem dX8_renamingAt_21 : decode cX8_renamingAt 21 = .ok (.getfield 25, 3) := by decide +kernel
theorem dX8_renamingAt_24 : decode cX8_renamingAt 24 = .ok (.iload_n 2, 1) := by decide +kernel
theorem dX8_renamingAt_25 : decode cX8_renamingAt 25 = .ok (.iaload, 1) := by decide +kernel
theorem dX8_renamingAt_26 : decode cX8_renamingAt 26 = .ok (.ireturn, 1) := by decide +kernel
theorem dX8_renamingAt_27 : decode cX8_renamingAt 27 = .ok (.iinc 2 1, 3) := by decide +kernel
theorem dX8_renamingAt_30 : decode cX8_renamingAt 30 = .ok (.goto (-28), 3) := by decide +kernel
theorem dX8_renamingAt_33 : decode cX8_renamingAt 33 = .ok (.iconst (-1), 1) := by decide +kernel
theorem dX8_renamingAt_34 : decode cX8_renamingAt 34 = .ok (.ireturn, 1) := by decide +kernel
set_option maxHeartbeats 4000000 in
set_option maxRecDepth 10000 in
theorem vX8_renamingAt_0 {l : Launch} {M : sl_M} {Q : sl_R} {x1 : Int} (H : sl_RM M → sl_rg x1 → sl_At l mX8_renamingAt 2 [(0, vR 8 0), (1, vI x1), (2, vI 0)] [] M Q) : sl_At l mX8_renamingAt 0 [(0, vR 8 0), (1, vI x1)] [] M Q := by
  refine sl_At.in (fun hM hls => ?_)
  have g1 : sl_rg x1 := hls _ (List.mem_of_getElem? (i := 1) rfl)
  have H := H hM g1
  refine r_iconst dX8_renamingAt_0 ?_
  refine r_istore_n (ls' := [(2, vI 0), (0, vR 8 0), (1, vI x1)]) ⟨by decide, by decide⟩ rfl (by decide) rfl dX8_renamingAt_1 ?_
  exact sl_At.sub [1, 2, 0] rfl H
set_option maxHeartbeats 4000000 in
set_option maxRecDepth 10000 in
theorem vX8_renamingAt_2 {l : Launch} {M : sl_M} {Q : sl_R} {x1 x2 : Int} (H : sl_RM M → sl_rg x1 → sl_rg x2 → ((M 8 0 5 ≤ x2) → Q (some (vI (-1))) M) ∧ ((¬ (M 8 0 5 ≤ x2)) → (0 ≤ x2 ∧ x2 < 40) ∧ ((M 8 4 x2 ≠ x1) → (sl_rg (x2 + 1)) ∧ sl_At l mX8_renamingAt 2 [(0, vR 8 0), (1, vI x1), (2, vI (x2 + 1))] [] M Q) ∧ ((¬ (M 8 4 x2 ≠ x1)) → Q (some (vI (M 8 5 x2))) M))) : sl_At l mX8_renamingAt 2 [(0, vR 8 0), (1, vI x1), (2, vI x2)] [] M Q := by
  refine sl_At.in (fun hM hls => ?_)
  have g1 : sl_rg x1 := hls _ (List.mem_of_getElem? (i := 1) rfl)
  have g2 : sl_rg x2 := hls _ (List.mem_of_getElem? (i := 2) rfl)
  have H := H hM g1 g2
  refine r_iload_n (k := 2) rfl rfl dX8_renamingAt_2 ?_
  refine r_aload_n (k := 0) rfl rfl dX8_renamingAt_3 ?_
  refine r_gI (k := 5) (kz := 5) rfl ckX8 rfl rfl (by decide) rfl rfl fl_X8_28 dX8_renamingAt_4 ?_
  refine r_icmp_ge (tgt := 33) g2 (hM _ _ _) dX8_renamingAt_7 (by decide) (fun h1 => ?_) (fun h1 => ?_)
  · have H := H.1 h1
    refine r_iconst dX8_renamingAt_33 ?_
    refine r_iret rfl ⟨by decide, by decide⟩ dX8_renamingAt_34 ?_
    exact H
  · have H := H.2 h1
    refine r_aload_n (k := 0) rfl rfl dX8_renamingAt_10 ?_
    refine r_getR (k := 3) (o' := 8) (i' := 4) ckX8 rfl rfl (by decide) rfl rfl rfl fl_X8_22 dX8_renamingAt_11 ?_
    refine r_iload_n (k := 2) rfl rfl dX8_renamingAt_14 ?_
    obtain ⟨c2, H⟩ := H
    refine r_iald rfl rfl rfl c2 dX8_renamingAt_15 ?_
    refine r_iload_n (k := 1) rfl rfl dX8_renamingAt_16 ?_
    refine r_icmp_ne (tgt := 27) (hM _ _ _) g1 dX8_renamingAt_17 (by decide) (fun h3 => ?_) (fun h3 => ?_)
    · have H := H.1 h3
      obtain ⟨c4, H⟩ := H
      refine r_iinc (k := 2) (ls' := [(2, vI (x2 + 1)), (0, vR 8 0), (1, vI x1)]) rfl c4 (by decide) rfl dX8_renamingAt_27 ?_
      refine r_goto (tgt := 2) dX8_renamingAt_30 (by decide) ?_
      exact sl_At.sub [1, 2, 0] rfl H
    · have H := H.2 h3
      refine r_aload_n (k := 0) rfl rfl dX8_renamingAt_20 ?_
      refine r_getR (k := 4) (o' := 8) (i' := 5) ckX8 rfl rfl (by decide) rfl rfl rfl fl_X8_25 dX8_renamingAt_21 ?_
      refine r_iload_n (k := 2) rfl rfl dX8_renamingAt_24 ?_
      refine r_iald rfl rfl rfl c2 dX8_renamingAt_25 ?_
      refine r_iret rfl (hM _ _ _) dX8_renamingAt_26 ?_
      exact H
theorem eX8_renamingAt {l : Launch} {M : sl_M} {Q : sl_R} {x1 : Int} (k : sl_At l mX8_renamingAt 0 [(0, vR 8 0), (1, vI x1)] [] M Q) : sl_Runs l mX8_renamingAt [vR 8 0, vI x1] M Q := sl_Runs.of (ls := [(0, vR 8 0), (1, vI x1)]) rfl rfl (fun _ => rfl) (fun _ => Nat.le_of_ble_eq_true rfl) rfl (k)
theorem dX8_take_0 : decode cX8_take 0 = .ok (.aload_n 0, 1) := by decide +kernel
theorem dX8_take_1 : decode cX8_take 1 = .ok (.getfield 28, 3) := by decide +kernel
theorem dX8_take_4 : decode cX8_take 4 = .ok (.bipush 40, 2) := by decide +kernel
theorem dX8_take_6 : decode cX8_take 6 = .ok (.if_icmp .lt 4, 3) := by decide +kernel
theorem dX8_take_9 : decode cX8_take 9 = .ok (.return_, 1) := by decide +kernel
theorem dX8_take_10 : decode cX8_take 10 = .ok (.aload_n 0, 1) := by decide +kernel
theorem dX8_take_11 : decode cX8_take 11 = .ok (.getfield 22, 3) := by decide +kernel
theorem dX8_take_14 : decode cX8_take 14 = .ok (.aload_n 0, 1) := by decide +kernel
theorem dX8_take_15 : decode cX8_take 15 = .ok (.getfield 28, 3) := by decide +kernel
theorem dX8_take_18 : decode cX8_take 18 = .ok (.iload_n 1, 1) := by decide +kernel
theorem dX8_take_19 : decode cX8_take 19 = .ok (.iastore, 1) := by decide +kernel
theorem dX8_take_20 : decode cX8_take 20 = .ok (.aload_n 0, 1) := by decide +kernel
theorem dX8_take_21 : decode cX8_take 21 = .ok (.getfield 25, 3) := by decide +kernel
theorem dX8_take_24 : decode cX8_take 24 = .ok (.aload_n 0, 1) := by decide +kernel
theorem dX8_take_25 : decode cX8_take 25 = .ok (.getfield 28, 3) := by decide +kernel
theorem dX8_take_28 : decode cX8_take 28 = .ok (.iload_n 2, 1) := by decide +kernel
theorem dX8_take_29 : decode cX8_take 29 = .ok (.iastore, 1) := by decide +kernel
theorem dX8_take_30 : decode cX8_take 30 = .ok (.aload_n 0, 1) := by decide +kernel
theorem dX8_take_31 : decode cX8_take 31 = .ok (.dup, 1) := by decide +kernel
theorem dX8_take_32 : decode cX8_take 32 = .ok (.getfield 28, 3) := by decide +kernel
theorem dX8_take_35 : decode cX8_take 35 = .ok (.iconst 1, 1) := by decide +kernel
theorem dX8_take_36 : decode cX8_take 36 = .ok (.iadd, 1) := by decide +kernel
theorem dX8_take_37 : decode cX8_take 37 = .ok (.putfield 28, 3) := by decide +kernel
theorem dX8_take_40 : decode cX8_take 40 = .ok (.return_, 1) := by decide +kernel
set_option maxHeartbeats 4000000 in
set_option maxRecDepth 10000 in
theorem vX8_take_0 {l : Launch} {M : sl_M} {Q : sl_R} {x1 x2 : Int} (H : sl_RM M → sl_rg x1 → sl_rg x2 → ((M 8 0 5 < 40) → (0 ≤ M 8 0 5 ∧ M 8 0 5 < 40) ∧ (∀ M3, M3 = sl_wr M 8 4 (M 8 0 5) x1 → (0 ≤ M3 8 0 5 ∧ M3 8 0 5 < 40) ∧ (∀ M5, M5 = sl_wr M3 8 5 (M3 8 0 5) x2 → (sl_rg (M5 8 0 5 + 1)) ∧ (∀ M7, M7 = sl_wr M5 8 0 5 (M5 8 0 5 + 1) → Q none M7)))) ∧ ((¬ (M 8 0 5 < 40)) → Q none M)) : sl_At l mX8_take 0 [(0, vR 8 0), (1, vI x1), (2, vI x2)] [] M Q := by
  refine sl_At.in (fun hM hls => ?_)
  have g1 : sl_rg x1 := hls _ (List.mem_of_getElem? (i := 1) rfl)
  have g2 : sl_rg x2 := hls _ (List.mem_of_getElem? (i := 2) rfl)
  have H := H hM g1 g2
  refine r_aload_n (k := 0) rfl rfl dX8_take_0 ?_
  refine r_gI (k := 5) (kz := 5) rfl ckX8 rfl rfl (by decide) rfl rfl fl_X8_28 dX8_take_1 ?_
  refine r_bipush dX8_take_4 (by decide) ?_
  refine r_icmp_lt (tgt := 10) (hM _ _ _) ⟨by decide, by decide⟩ dX8_take_6 (by decide) (fun h1 => ?_) (fun h1 => ?_)
  · have H := H.1 h1
    refine r_aload_n (k := 0) rfl rfl dX8_take_10 ?_
    refine r_getR (k := 3) (o' := 8) (i' := 4) ckX8 rfl rfl (by decide) rfl rfl rfl fl_X8_22 dX8_take_11 ?_
    refine r_aload_n (k := 0) rfl rfl dX8_take_14 ?_
    refine r_gI (k := 5) (kz := 5) rfl ckX8 rfl rfl (by decide) rfl rfl fl_X8_28 dX8_take_15 ?_
    refine r_iload_n (k := 1) rfl rfl dX8_take_18 ?_
    obtain ⟨c2, H⟩ := H
    refine r_iast rfl rfl rfl c2 g1 dX8_take_19 ?_
    refine r_mm (fun M3 e3 => ?_)
    have H := H M3 e3
    have hM3 : sl_RM M3 := by rw [e3]; exact sl_wr_RM hM g1
    refine r_aload_n (k := 0) rfl rfl dX8_take_20 ?_
    refine r_getR (k := 4) (o' := 8) (i' := 5) ckX8 rfl rfl (by decide) rfl rfl rfl fl_X8_25 dX8_take_21 ?_
    refine r_aload_n (k := 0) rfl rfl dX8_take_24 ?_
    refine r_gI (k := 5) (kz := 5) rfl ckX8 rfl rfl (by decide) rfl rfl fl_X8_28 dX8_take_25 ?_
    refine r_iload_n (k := 2) rfl rfl dX8_take_28 ?_
    obtain ⟨c4, H⟩ := H
    refine r_iast rfl rfl rfl c4 g2 dX8_take_29 ?_
    refine r_mm (fun M5 e5 => ?_)
    have H := H M5 e5
    have hM5 : sl_RM M5 := by rw [e5]; exact sl_wr_RM hM3 g2
    refine r_aload_n (k := 0) rfl rfl dX8_take_30 ?_
    refine r_dup rfl dX8_take_31 ?_
    refine r_gI (k := 5) (kz := 5) rfl ckX8 rfl rfl (by decide) rfl rfl fl_X8_28 dX8_take_32 ?_
    refine r_iconst dX8_take_35 ?_
    refine r_iadd dX8_take_36 ?_
    obtain ⟨c6, H⟩ := H
    refine r_pI (k := 5) (kz := 5) rfl ckX8 rfl rfl (by decide) rfl rfl rfl rfl fl_X8_28 c6 dX8_take_37 ?_
    refine r_mm (fun M7 e7 => ?_)
    have H := H M7 e7
    have hM7 : sl_RM M7 := by rw [e7]; exact sl_wr_RM hM5 c6
    refine r_vret rfl dX8_take_40 ?_
    exact H
  · have H := H.2 h1
    refine r_vret rfl dX8_take_9 ?_
    exact H
theorem eX8_take {l : Launch} {M : sl_M} {Q : sl_R} {x1 x2 : Int} (k : sl_At l mX8_take 0 [(0, vR 8 0), (1, vI x1), (2, vI x2)] [] M Q) : sl_Runs l mX8_take [vR 8 0, vI x1, vI x2] M Q := sl_Runs.of (ls := [(0, vR 8 0), (1, vI x1), (2, vI x2)]) rfl rfl (fun _ => rfl) (fun _ => Nat.le_of_ble_eq_true rfl) rfl (k)
theorem dX8_agrees_0 : decode cX8_agrees 0 = .ok (.aload_n 0, 1) := by decide +kernel
theorem dX8_agrees_1 : decode cX8_agrees 1 = .ok (.getfield 12, 3) := by decide +kernel
theorem dX8_agrees_4 : decode cX8_agrees 4 = .ok (.getfield 91, 3) := by decide +kernel
theorem dX8_agrees_7 : decode cX8_agrees 7 = .ok (.ifCond .ne 57, 3) := by decide +kernel
theorem dX8_agrees_10 : decode cX8_agrees 10 = .ok (.aload_n 0, 1) := by decide +kernel
theorem dX8_agrees_11 : decode cX8_agrees 11 = .ok (.getfield 12, 3) := by decide +kernel
theorem dX8_agrees_14 : decode cX8_agrees 14 = .ok (.getfield 94, 3) := by decide +kernel
theorem dX8_agrees_17 : decode cX8_agrees 17 = .ok (.aload_n 1, 1) := by decide +kernel
theorem dX8_agrees_18 : decode cX8_agrees 18 = .ok (.getfield 94, 3) := by decide +kernel
theorem dX8_agrees_21 : decode cX8_agrees 21 = .ok (.if_icmp .ne 43, 3) := by decide +kernel
theorem dX8_agrees_24 : decode cX8_agrees 24 = .ok (.aload_n 0, 1) := by decide +kernel
theorem dX8_agrees_25 : decode cX8_agrees 25 = .ok (.getfield 12, 3) := by decide +kernel
theorem dX8_agrees_28 : decode cX8_agrees 28 = .ok (.getfield 97, 3) := by decide +kernel
theorem dX8_agrees_31 : decode cX8_agrees 31 = .ok (.iload_n 2, 1) := by decide +kernel
theorem dX8_agrees_32 : decode cX8_agrees 32 = .ok (.aload_n 1, 1) := by decide +kernel
theorem dX8_agrees_33 : decode cX8_agrees 33 = .ok (.getfield 97, 3) := by decide +kernel
theorem dX8_agrees_36 : decode cX8_agrees 36 = .ok (.invokestatic 100, 3) := by decide +kernel
theorem dX8_agrees_39 : decode cX8_agrees 39 = .ok (.if_icmp .ne 25, 3) := by decide +kernel
theorem dX8_agrees_42 : decode cX8_agrees 42 = .ok (.aload_n 0, 1) := by decide +kernel
theorem dX8_agrees_43 : decode cX8_agrees 43 = .ok (.getfield 12, 3) := by decide +kernel
theorem dX8_agrees_46 : decode cX8_agrees 46 = .ok (.getfield 103, 3) := by decide +kernel
theorem dX8_agrees_49 : decode cX8_agrees 49 = .ok (.iload_n 2, 1) := by decide +kernel
theorem dX8_agrees_50 : decode cX8_agrees 50 = .ok (.aload_n 1, 1) := by decide +kernel
theorem dX8_agrees_51 : decode cX8_agrees 51 = .ok (.getfield 103, 3) := by decide +kernel
theorem dX8_agrees_54 : decode cX8_agrees 54 = .ok (.invokestatic 100, 3) := by decide +kernel
theorem dX8_agrees_57 : decode cX8_agrees 57 = .ok (.if_icmp .ne 7, 3) := by decide +kernel
theorem dX8_agrees_60 : decode cX8_agrees 60 = .ok (.iconst 1, 1) := by decide +kernel
theorem dX8_agrees_61 : decode cX8_agrees 61 = .ok (.goto 4, 3) := by decide +kernel
theorem dX8_agrees_64 : decode cX8_agrees 64 = .ok (.iconst 0, 1) := by decide +kernel
theorem dX8_agrees_65 : decode cX8_agrees 65 = .ok (.ireturn, 1) := by decide +kernel
set_option maxHeartbeats 4000000 in
set_option maxRecDepth 10000 in
theorem vX8_agrees_0 {l : Launch} {M : sl_M} {Q : sl_R} {o1 : Nat} {x2 : Int} (ho1 : sl_cls o1 = 6) (H : sl_RM M → sl_rg x2 → ((M 9 0 6 ≠ 0) → Q (some (vI 0)) M) ∧ ((¬ (M 9 0 6 ≠ 0)) → ((M 9 0 3 ≠ M o1 0 3) → Q (some (vI 0)) M) ∧ ((¬ (M 9 0 3 ≠ M o1 0 3)) → sl_RI l mX9_renamedSet [vI x2, vI (M o1 0 4)] M (fun y4 M3 => ((M 9 0 4 ≠ y4) → Q (some (vI 0)) M3) ∧ ((¬ (M 9 0 4 ≠ y4)) → sl_RI l mX9_renamedSet [vI x2, vI (M3 o1 0 5)] M3 (fun y7 M6 => Q (some (vI (if ¬ (M3 9 0 5 ≠ y7) then 1 else 0))) M6)))))) : sl_At l mX8_agrees 0 [(0, vR 8 0), (1, vR o1 0), (2, vI x2)] [] M Q := by
  refine sl_At.in (fun hM hls => ?_)
  have g2 : sl_rg x2 := hls _ (List.mem_of_getElem? (i := 2) rfl)
  have H := H hM g2
  refine r_aload_n (k := 0) rfl rfl dX8_agrees_0 ?_
  refine r_getR (k := 0) (o' := 9) (i' := 0) ckX8 rfl rfl (by decide) rfl rfl rfl fl_X8_12 dX8_agrees_1 ?_
  refine r_gI (k := 6) (kz := 6) rfl ckX6 rfl rfl (by decide) rfl rfl fl_X8_91 dX8_agrees_4 ?_
  refine r_if_ne (tgt := 64) (hM _ _ _) dX8_agrees_7 (by decide) (fun h1 => ?_) (fun h1 => ?_)
  · have H := H.1 h1
    refine r_iconst dX8_agrees_64 ?_
    refine r_zret rfl (Or.inl rfl) dX8_agrees_65 ?_
    exact H
  · have H := H.2 h1
    refine r_aload_n (k := 0) rfl rfl dX8_agrees_10 ?_
    refine r_getR (k := 0) (o' := 9) (i' := 0) ckX8 rfl rfl (by decide) rfl rfl rfl fl_X8_12 dX8_agrees_11 ?_
    refine r_gI (k := 3) (kz := 3) rfl ckX6 rfl rfl (by decide) rfl rfl fl_X8_94 dX8_agrees_14 ?_
    refine r_aload_n (k := 1) rfl rfl dX8_agrees_17 ?_
    refine r_gI (k := 3) (kz := 3) rfl ckX6 ho1 rfl (by decide) rfl rfl fl_X8_94 dX8_agrees_18 ?_
    refine r_icmp_ne (tgt := 64) (hM _ _ _) (hM _ _ _) dX8_agrees_21 (by decide) (fun h2 => ?_) (fun h2 => ?_)
    · have H := H.1 h2
      refine r_iconst dX8_agrees_64 ?_
      refine r_zret rfl (Or.inl rfl) dX8_agrees_65 ?_
      exact H
    · have H := H.2 h2
      refine r_aload_n (k := 0) rfl rfl dX8_agrees_24 ?_
      refine r_getR (k := 0) (o' := 9) (i' := 0) ckX8 rfl rfl (by decide) rfl rfl rfl fl_X8_12 dX8_agrees_25 ?_
      refine r_gI (k := 4) (kz := 4) rfl ckX6 rfl rfl (by decide) rfl rfl fl_X8_97 dX8_agrees_28 ?_
      refine r_iload_n (k := 2) rfl rfl dX8_agrees_31 ?_
      refine r_aload_n (k := 1) rfl rfl dX8_agrees_32 ?_
      refine r_gI (k := 4) (kz := 4) rfl ckX6 ho1 rfl (by decide) rfl rfl fl_X8_97 dX8_agrees_33 ?_
      refine r_callSN (g := mX9_renamedSet) rfl mkX9_renamedSet msX9_renamedSet mn_X8_100 ⟨by decide, by decide⟩ rfl (Nat.le_of_ble_eq_true rfl) rfl (ok_i g2 (ok_i (hM _ _ _) ok_n)) dX8_agrees_36 (sl_afterI (sl_RI.mono (fun y4 M3 gy4 hM3 H => ?_) H))
      refine r_icmp_ne (tgt := 64) (hM _ _ _) gy4 dX8_agrees_39 (by decide) (fun h5 => ?_) (fun h5 => ?_)
      · have H := H.1 h5
        refine r_iconst dX8_agrees_64 ?_
        refine r_zret rfl (Or.inl rfl) dX8_agrees_65 ?_
        exact H
      · have H := H.2 h5
        refine r_aload_n (k := 0) rfl rfl dX8_agrees_42 ?_
        refine r_getR (k := 0) (o' := 9) (i' := 0) ckX8 rfl rfl (by decide) rfl rfl rfl fl_X8_12 dX8_agrees_43 ?_
        refine r_gI (k := 5) (kz := 5) rfl ckX6 rfl rfl (by decide) rfl rfl fl_X8_103 dX8_agrees_46 ?_
        refine r_iload_n (k := 2) rfl rfl dX8_agrees_49 ?_
        refine r_aload_n (k := 1) rfl rfl dX8_agrees_50 ?_
        refine r_gI (k := 5) (kz := 5) rfl ckX6 ho1 rfl (by decide) rfl rfl fl_X8_103 dX8_agrees_51 ?_
        refine r_callSN (g := mX9_renamedSet) rfl mkX9_renamedSet msX9_renamedSet mn_X8_100 ⟨by decide, by decide⟩ rfl (Nat.le_of_ble_eq_true rfl) rfl (ok_i g2 (ok_i (hM3 _ _ _) ok_n)) dX8_agrees_54 (sl_afterI (sl_RI.mono (fun y7 M6 gy7 hM6 H => ?_) H))
        have J : sl_At l mX8_agrees 65 [(0, vR 8 0), (1, vR o1 0), (2, vI x2)] [vI (if ¬ (M3 9 0 5 ≠ y7) then 1 else 0)] M6 Q := by
          refine r_zret rfl b_01 dX8_agrees_65 ?_
          exact H
        refine r_icmp_ne (tgt := 64) (hM3 _ _ _) gy7 dX8_agrees_57 (by decide) (fun h8 => ?_) (fun h8 => ?_)
        · refine r_iconst dX8_agrees_64 ?_
          rw [if_neg (show ¬ (¬ (M3 9 0 5 ≠ y7)) by omega)] at J
          exact J
        · refine r_iconst dX8_agrees_60 ?_
          refine r_goto (tgt := 65) dX8_agrees_61 (by decide) ?_
          rw [if_pos (show ¬ (M3 9 0 5 ≠ y7) by omega)] at J
          exact J
theorem eX8_agrees {l : Launch} {M : sl_M} {Q : sl_R} {o1 : Nat} {x2 : Int} (k : sl_At l mX8_agrees 0 [(0, vR 8 0), (1, vR o1 0), (2, vI x2)] [] M Q) : sl_Runs l mX8_agrees [vR 8 0, vR o1 0, vI x2] M Q := sl_Runs.of (ls := [(0, vR 8 0), (1, vR o1 0), (2, vI x2)]) rfl rfl (fun _ => rfl) (fun _ => Nat.le_of_ble_eq_true rfl) rfl (k)
theorem dX8_inBlock_0 : decode cX8_inBlock 0 = .ok (.iconst 1, 1) := by decide +kernel
theorem dX8_inBlock_1 : decode cX8_inBlock 1 = .ok (.istore_n 2, 1) := by decide +kernel
theorem dX8_inBlock_2 : decode cX8_inBlock 2 = .ok (.aload_n 1, 1) := by decide +kernel
theorem dX8_inBlock_3 : decode cX8_inBlock 3 = .ok (.getfield 45, 3) := by decide +kernel
theorem dX8_inBlock_6 : decode cX8_inBlock 6 = .ok (.istore_n 3, 1) := by decide +kernel
theorem dX8_inBlock_7 : decode cX8_inBlock 7 = .ok (.iconst 0, 1) := by decide +kernel
theorem dX8_inBlock_8 : decode cX8_inBlock 8 = .ok (.istore 4, 2) := by decide +kernel
theorem dX8_inBlock_10 : decode cX8_inBlock 10 = .ok (.iload 4, 2) := by decide +kernel
theorem dX8_inBlock_12 : decode cX8_inBlock 12 = .ok (.bipush 40, 2) := by decide +kernel
theorem dX8_inBlock_14 : decode cX8_inBlock 14 = .ok (.if_icmp .ge 31, 3) := by decide +kernel
theorem dX8_inBlock_17 : decode cX8_inBlock 17 = .ok (.iload_n 3, 1) := by decide +kernel
theorem dX8_inBlock_18 : decode cX8_inBlock 18 = .ok (.iconst (-1), 1) := by decide +kernel
theorem dX8_inBlock_19 : decode cX8_inBlock 19 = .ok (.if_icmp .eq 26, 3) := by decide +kernel
theorem dX8_inBlock_22 : decode cX8_inBlock 22 = .ok (.iload_n 3, 1) := by decide +kernel
theorem dX8_inBlock_23 : decode cX8_inBlock 23 = .ok (.aload_n 1, 1) := by decide +kernel
theorem dX8_inBlock_24 : decode cX8_inBlock 24 = .ok (.getfield 106, 3) := by decide +kernel
theorem dX8_inBlock_27 : decode cX8_inBlock 27 = .ok (.if_icmp .ge 18, 3) := by decide +kernel
theorem dX8_inBlock_30 : decode cX8_inBlock 30 = .ok (.aload_n 0, 1) := by decide +kernel
theorem dX8_inBlock_31 : decode cX8_inBlock 31 = .ok (.iload_n 3, 1) := by decide +kernel
theorem dX8_inBlock_32 : decode cX8_inBlock 32 = .ok (.invokevirtual 109, 3) := by decide +kernel
theorem dX8_inBlock_35 : decode cX8_inBlock 35 = .ok (.istore_n 3, 1) := by decide +kernel
theorem dX8_inBlock_36 : decode cX8_inBlock 36 = .ok (.iinc 2 1, 3) := by decide +kernel
theorem dX8_inBlock_39 : decode cX8_inBlock 39 = .ok (.iinc 4 1, 3) := by decide +kernel
theorem dX8_inBlock_42 : decode cX8_inBlock 42 = .ok (.goto (-32), 3) := by decide +kernel
theorem dX8_inBlock_45 : decode cX8_inBlock 45 = .ok (.iload_n 2, 1) := by decide +kernel
theorem dX8_inBlock_46 : decode cX8_inBlock 46 = .ok (.ireturn, 1) := by decide +kernel
set_option maxHeartbeats 4000000 in
set_option maxRecDepth 10000 in
theorem vX8_inBlock_0 {l : Launch} {M : sl_M} {Q : sl_R} {o0 o1 : Nat} (ho0 : sl_cls o0 = 0) (ho1 : sl_cls o1 = 6) (H : sl_RM M → sl_At l mX8_inBlock 10 [(0, vR o0 0), (1, vR o1 0), (2, vI 1), (3, vI (M o1 0 0)), (4, vI 0)] [] M Q) : sl_At l mX8_inBlock 0 [(0, vR o0 0), (1, vR o1 0)] [] M Q := by
  refine sl_At.in (fun hM hls => ?_)
  have H := H hM
  refine r_iconst dX8_inBlock_0 ?_
  refine r_istore_n (ls' := [(2, vI 1), (0, vR o0 0), (1, vR o1 0)]) ⟨by decide, by decide⟩ rfl (by decide) rfl dX8_inBlock_1 ?_
  refine r_aload_n (k := 2) rfl rfl dX8_inBlock_2 ?_
  refine r_gI (k := 0) (kz := 0) rfl ckX6 ho1 rfl (by decide) rfl rfl fl_X8_45 dX8_inBlock_3 ?_
  refine r_istore_n (ls' := [(3, vI (M o1 0 0)), (2, vI 1), (0, vR o0 0), (1, vR o1 0)]) (hM _ _ _) rfl (by decide) rfl dX8_inBlock_6 ?_
  refine r_iconst dX8_inBlock_7 ?_
  refine r_istore (ls' := [(4, vI 0), (3, vI (M o1 0 0)), (2, vI 1), (0, vR o0 0), (1, vR o1 0)]) ⟨by decide, by decide⟩ (by decide) rfl dX8_inBlock_8 ?_
  exact sl_At.sub [3, 4, 2, 1, 0] rfl H
set_option maxHeartbeats 4000000 in
set_option maxRecDepth 10000 in
theorem vX8_inBlock_10 {l : Launch} {M : sl_M} {Q : sl_R} {o0 o1 : Nat} {x2 x3 x4 : Int} (ho0 : sl_cls o0 = 0) (ho1 : sl_cls o1 = 6) (H : sl_RM M → sl_rg x2 → sl_rg x3 → sl_rg x4 → ((40 ≤ x4) → Q (some (vI x2)) M) ∧ ((¬ (40 ≤ x4)) → ((x3 = (-1)) → Q (some (vI x2)) M) ∧ ((¬ (x3 = (-1))) → ((M o1 0 1 ≤ x3) → Q (some (vI x2)) M) ∧ ((¬ (M o1 0 1 ≤ x3)) → sl_RI l mX0_following [vR o0 0, vI x3] M (fun y5 M4 => (sl_rg (x2 + 1)) ∧ (sl_rg (x4 + 1)) ∧ sl_At l mX8_inBlock 10 [(0, vR o0 0), (1, vR o1 0), (2, vI (x2 + 1)), (3, vI y5), (4, vI (x4 + 1))] [] M4 Q))))) : sl_At l mX8_inBlock 10 [(0, vR o0 0), (1, vR o1 0), (2, vI x2), (3, vI x3), (4, vI x4)] [] M Q := by
  refine sl_At.in (fun hM hls => ?_)
  have g2 : sl_rg x2 := hls _ (List.mem_of_getElem? (i := 2) rfl)
  have g3 : sl_rg x3 := hls _ (List.mem_of_getElem? (i := 3) rfl)
  have g4 : sl_rg x4 := hls _ (List.mem_of_getElem? (i := 4) rfl)
  have H := H hM g2 g3 g4
  refine r_iload (k := 4) rfl dX8_inBlock_10 ?_
  refine r_bipush dX8_inBlock_12 (by decide) ?_
  refine r_icmp_ge (tgt := 45) g4 ⟨by decide, by decide⟩ dX8_inBlock_14 (by decide) (fun h1 => ?_) (fun h1 => ?_)
  · have H := H.1 h1
    refine r_iload_n (k := 2) rfl rfl dX8_inBlock_45 ?_
    refine r_iret rfl g2 dX8_inBlock_46 ?_
    exact H
  · have H := H.2 h1
    refine r_iload_n (k := 3) rfl rfl dX8_inBlock_17 ?_
    refine r_iconst dX8_inBlock_18 ?_
    refine r_icmp_eq (tgt := 45) g3 ⟨by decide, by decide⟩ dX8_inBlock_19 (by decide) (fun h2 => ?_) (fun h2 => ?_)
    · have H := H.1 h2
      refine r_iload_n (k := 2) rfl rfl dX8_inBlock_45 ?_
      refine r_iret rfl g2 dX8_inBlock_46 ?_
      exact H
    · have H := H.2 h2
      refine r_iload_n (k := 3) rfl rfl dX8_inBlock_22 ?_
      refine r_aload_n (k := 1) rfl rfl dX8_inBlock_23 ?_
      refine r_gI (k := 1) (kz := 1) rfl ckX6 ho1 rfl (by decide) rfl rfl fl_X8_106 dX8_inBlock_24 ?_
      refine r_icmp_ge (tgt := 45) g3 (hM _ _ _) dX8_inBlock_27 (by decide) (fun h3 => ?_) (fun h3 => ?_)
      · have H := H.1 h3
        refine r_iload_n (k := 2) rfl rfl dX8_inBlock_45 ?_
        refine r_iret rfl g2 dX8_inBlock_46 ?_
        exact H
      · have H := H.2 h3
        refine r_aload_n (k := 0) rfl rfl dX8_inBlock_30 ?_
        refine r_iload_n (k := 3) rfl rfl dX8_inBlock_31 ?_
        refine r_callV (g := mX0_following) ckX0 ho0 rfl rfl rfl mkX0_following mvX0_following ml_X8_109 ⟨by decide, by decide⟩ rfl (Nat.le_of_ble_eq_true rfl) rfl (ok_i g3 ok_n) dX8_inBlock_32 (sl_afterI (sl_RI.mono (fun y5 M4 gy5 hM4 H => ?_) H))
        refine r_istore_n (ls' := [(3, vI y5), (0, vR o0 0), (1, vR o1 0), (2, vI x2), (4, vI x4)]) gy5 rfl (by decide) rfl dX8_inBlock_35 ?_
        obtain ⟨c6, H⟩ := H
        refine r_iinc (k := 3) (ls' := [(2, vI (x2 + 1)), (3, vI y5), (0, vR o0 0), (1, vR o1 0), (4, vI x4)]) rfl c6 (by decide) rfl dX8_inBlock_36 ?_
        obtain ⟨c7, H⟩ := H
        refine r_iinc (k := 4) (ls' := [(4, vI (x4 + 1)), (2, vI (x2 + 1)), (3, vI y5), (0, vR o0 0), (1, vR o1 0)]) rfl c7 (by decide) rfl dX8_inBlock_39 ?_
        refine r_goto (tgt := 10) dX8_inBlock_42 (by decide) ?_
        exact sl_At.sub [3, 4, 1, 2, 0] rfl H
theorem eX8_inBlock {l : Launch} {M : sl_M} {Q : sl_R} {o0 o1 : Nat} (k : sl_At l mX8_inBlock 0 [(0, vR o0 0), (1, vR o1 0)] [] M Q) : sl_Runs l mX8_inBlock [vR o0 0, vR o1 0] M Q := sl_Runs.of (ls := [(0, vR o0 0), (1, vR o1 0)]) rfl rfl (fun _ => rfl) (fun _ => Nat.le_of_ble_eq_true rfl) rfl (k)
theorem dX8_lastOf_0 : decode cX8_lastOf 0 = .ok (.iload_n 1, 1) := by decide +kernel
theorem dX8_lastOf_1 : decode cX8_lastOf 1 = .ok (.istore_n 3, 1) := by decide +kernel
theorem dX8_lastOf_2 : decode cX8_lastOf 2 = .ok (.iconst 1, 1) := by decide +kernel
theorem dX8_lastOf_3 : decode cX8_lastOf 3 = .ok (.istore 4, 2) := by decide +kernel
theorem dX8_lastOf_5 : decode cX8_lastOf 5 = .ok (.iload 4, 2) := by decide +kernel
theorem dX8_lastOf_7 : decode cX8_lastOf 7 = .ok (.iload_n 2, 1) := by decide +kernel
theorem dX8_lastOf_8 : decode cX8_lastOf 8 = .ok (.if_icmp .ge 20, 3) := by decide +kernel
theorem dX8_lastOf_11 : decode cX8_lastOf 11 = .ok (.iload_n 3, 1) := by decide +kernel
theorem dX8_lastOf_12 : decode cX8_lastOf 12 = .ok (.iconst (-1), 1) := by decide +kernel
theorem dX8_lastOf_13 : decode cX8_lastOf 13 = .ok (.if_icmp .eq 15, 3) := by decide +kernel
theorem dX8_lastOf_16 : decode cX8_lastOf 16 = .ok (.aload_n 0, 1) := by decide +kernel
theorem dX8_lastOf_17 : decode cX8_lastOf 17 = .ok (.iload_n 3, 1) := by decide +kernel
theorem dX8_lastOf_18 : decode cX8_lastOf 18 = .ok (.invokevirtual 109, 3) := by decide +kernel
theorem dX8_lastOf_21 : decode cX8_lastOf 21 = .ok (.istore_n 3, 1) := by decide +kernel
theorem dX8_lastOf_22 : decode cX8_lastOf 22 = .ok (.iinc 4 1, 3) := by decide +kernel
theorem dX8_lastOf_25 : decode cX8_lastOf 25 = .ok (.goto (-20), 3) := by decide +kernel
theorem dX8_lastOf_28 : decode cX8_lastOf 28 = .ok (.iload_n 3, 1) := by decide +kernel
theorem dX8_lastOf_29 : decode cX8_lastOf 29 = .ok (.ireturn, 1) := by decide +kernel
set_option maxHeartbeats 4000000 in
set_option maxRecDepth 10000 in
theorem vX8_lastOf_0 {l : Launch} {M : sl_M} {Q : sl_R} {o0 : Nat} {x1 x2 : Int} (ho0 : sl_cls o0 = 0) (H : sl_RM M → sl_rg x1 → sl_rg x2 → sl_At l mX8_lastOf 5 [(0, vR o0 0), (2, vI x2), (3, vI x1), (4, vI 1)] [] M Q) : sl_At l mX8_lastOf 0 [(0, vR o0 0), (1, vI x1), (2, vI x2)] [] M Q := by
  refine sl_At.in (fun hM hls => ?_)
  have g1 : sl_rg x1 := hls _ (List.mem_of_getElem? (i := 1) rfl)
  have g2 : sl_rg x2 := hls _ (List.mem_of_getElem? (i := 2) rfl)
  have H := H hM g1 g2
  refine r_iload_n (k := 1) rfl rfl dX8_lastOf_0 ?_
  refine r_istore_n (ls' := [(3, vI x1), (0, vR o0 0), (1, vI x1), (2, vI x2)]) g1 rfl (by decide) rfl dX8_lastOf_1 ?_
  refine r_iconst dX8_lastOf_2 ?_
  refine r_istore (ls' := [(4, vI 1), (3, vI x1), (0, vR o0 0), (1, vI x1), (2, vI x2)]) ⟨by decide, by decide⟩ (by decide) rfl dX8_lastOf_3 ?_
  exact sl_At.sub [2, 4, 1, 0] rfl H
set_option maxHeartbeats 4000000 in
set_option maxRecDepth 10000 in
theorem vX8_lastOf_5 {l : Launch} {M : sl_M} {Q : sl_R} {o0 : Nat} {x2 x3 x4 : Int} (ho0 : sl_cls o0 = 0) (H : sl_RM M → sl_rg x2 → sl_rg x3 → sl_rg x4 → ((x2 ≤ x4) → Q (some (vI x3)) M) ∧ ((¬ (x2 ≤ x4)) → ((x3 = (-1)) → Q (some (vI x3)) M) ∧ ((¬ (x3 = (-1))) → sl_RI l mX0_following [vR o0 0, vI x3] M (fun y4 M3 => (sl_rg (x4 + 1)) ∧ sl_At l mX8_lastOf 5 [(0, vR o0 0), (2, vI x2), (3, vI y4), (4, vI (x4 + 1))] [] M3 Q)))) : sl_At l mX8_lastOf 5 [(0, vR o0 0), (2, vI x2), (3, vI x3), (4, vI x4)] [] M Q := by
  refine sl_At.in (fun hM hls => ?_)
  have g2 : sl_rg x2 := hls _ (List.mem_of_getElem? (i := 1) rfl)
  have g3 : sl_rg x3 := hls _ (List.mem_of_getElem? (i := 2) rfl)
  have g4 : sl_rg x4 := hls _ (List.mem_of_getElem? (i := 3) rfl)
  have H := H hM g2 g3 g4
  refine r_iload (k := 3) rfl dX8_lastOf_5 ?_
  refine r_iload_n (k := 1) rfl rfl dX8_lastOf_7 ?_
  refine r_icmp_ge (tgt := 28) g4 g2 dX8_lastOf_8 (by decide) (fun h1 => ?_) (fun h1 => ?_)
  · have H := H.1 h1
    refine r_iload_n (k := 2) rfl rfl dX8_lastOf_28 ?_
    refine r_iret rfl g3 dX8_lastOf_29 ?_
    exact H
  · have H := H.2 h1
    refine r_iload_n (k := 2) rfl rfl dX8_lastOf_11 ?_
    refine r_iconst dX8_lastOf_12 ?_
    refine r_icmp_eq (tgt := 28) g3 ⟨by decide, by decide⟩ dX8_lastOf_13 (by decide) (fun h2 => ?_) (fun h2 => ?_)
    · have H := H.1 h2
      refine r_iload_n (k := 2) rfl rfl dX8_lastOf_28 ?_
      refine r_iret rfl g3 dX8_lastOf_29 ?_
      exact H
    · have H := H.2 h2
      refine r_aload_n (k := 0) rfl rfl dX8_lastOf_16 ?_
      refine r_iload_n (k := 2) rfl rfl dX8_lastOf_17 ?_
      refine r_callV (g := mX0_following) ckX0 ho0 rfl rfl rfl mkX0_following mvX0_following ml_X8_109 ⟨by decide, by decide⟩ rfl (Nat.le_of_ble_eq_true rfl) rfl (ok_i g3 ok_n) dX8_lastOf_18 (sl_afterI (sl_RI.mono (fun y4 M3 gy4 hM3 H => ?_) H))
      refine r_istore_n (ls' := [(3, vI y4), (0, vR o0 0), (2, vI x2), (4, vI x4)]) gy4 rfl (by decide) rfl dX8_lastOf_21 ?_
      obtain ⟨c5, H⟩ := H
      refine r_iinc (k := 3) (ls' := [(4, vI (x4 + 1)), (3, vI y4), (0, vR o0 0), (2, vI x2)]) rfl c5 (by decide) rfl dX8_lastOf_22 ?_
      refine r_goto (tgt := 5) dX8_lastOf_25 (by decide) ?_
      exact sl_At.sub [2, 3, 1, 0] rfl H
theorem eX8_lastOf {l : Launch} {M : sl_M} {Q : sl_R} {o0 : Nat} {x1 x2 : Int} (k : sl_At l mX8_lastOf 0 [(0, vR o0 0), (1, vI x1), (2, vI x2)] [] M Q) : sl_Runs l mX8_lastOf [vR o0 0, vI x1, vI x2] M Q := sl_Runs.of (ls := [(0, vR o0 0), (1, vI x1), (2, vI x2)]) rfl rfl (fun _ => rfl) (fun _ => Nat.le_of_ble_eq_true rfl) rfl (k)
theorem dX8_matches_0 : decode cX8_matches 0 = .ok (.iconst 0, 1) := by decide +kernel
theorem dX8_matches_1 : decode cX8_matches 1 = .ok (.istore 4, 2) := by decide +kernel
theorem dX8_matches_3 : decode cX8_matches 3 = .ok (.iload 4, 2) := by decide +kernel
theorem dX8_matches_5 : decode cX8_matches 5 = .ok (.bipush 8, 2) := by decide +kernel
theorem dX8_matches_7 : decode cX8_matches 7 = .ok (.if_icmp .ge 17, 3) := by decide +kernel
theorem dX8_matches_10 : decode cX8_matches 10 = .ok (.aload_n 0, 1) := by decide +kernel
theorem dX8_matches_11 : decode cX8_matches 11 = .ok (.getfield 18, 3) := by decide +kernel
theorem dX8_matches_14 : decode cX8_matches 14 = .ok (.iload 4, 2) := by decide +kernel
theorem dX8_matches_16 : decode cX8_matches 16 = .ok (.iconst (-1), 1) := by decide +kernel
theorem dX8_matches_17 : decode cX8_matches 17 = .ok (.iastore, 1) := by decide +kernel
theorem dX8_matches_18 : decode cX8_matches 18 = .ok (.iinc 4 1, 3) := by decide +kernel
theorem dX8_matches_21 : decode cX8_matches 21 = .ok (.goto (-18), 3) := by decide +kernel
theorem dX8_matches_24 : decode cX8_matches 24 = .ok (.aload_n 0, 1) := by decide +kernel
theorem dX8_matches_25 : decode cX8_matches 25 = .ok (.iconst 0, 1) := by decide +kernel
theorem dX8_matches_26 : decode cX8_matches 26 = .ok (.putfield 113, 3) := by decide +kernel
theorem dX8_matches_29 : decode cX8_matches 29 = .ok (.aload_n 2, 1) := by decide +kernel
theorem dX8_matches_30 : decode cX8_matches 30 = .ok (.getfield 45, 3) := by decide +kernel
theorem dX8_matches_33 : decode cX8_matches 33 = .ok (.istore 4, 2) := by decide +kernel
theorem dX8_matches_35 : decode cX8_matches 35 = .ok (.iload 4, 2) := by decide +kernel
theorem dX8_matches_37 : decode cX8_matches 37 = .ok (.aload_n 2, 1) := by decide +kernel
theorem dX8_matches_38 : decode cX8_matches 38 = .ok (.getfield 42, 3) := by decide +kernel
theorem dX8_matches_41 : decode cX8_matches 41 = .ok (.if_icmp .gt 59, 3) := by decide +kernel
theorem dX8_matches_44 : decode cX8_matches 44 = .ok (.iload_n 3, 1) := by decide +kernel
theorem dX8_matches_45 : decode cX8_matches 45 = .ok (.iload 4, 2) := by decide +kernel
theorem dX8_matches_47 : decode cX8_matches 47 = .ok (.iadd, 1) := by decide +kernel
theorem dX8_matches_48 : decode cX8_matches 48 = .ok (.aload_n 2, 1) := by decide +kernel
theorem dX8_matches_49 : decode cX8_matches 49 = .ok (.getfield 45, 3) := by decide +kernel
theorem dX8_matches_52 : decode cX8_matches 52 = .ok (.isub, 1) := by decide +kernel
theorem dX8_matches_53 : decode cX8_matches 53 = .ok (.istore 5, 2) := by decide +kernel
theorem dX8_matches_55 : decode cX8_matches 55 = .ok (.aload_n 1, 1) := by decide +kernel
theorem dX8_matches_56 : decode cX8_matches 56 = .ok (.iload 4, 2) := by decide +kernel
theorem dX8_matches_58 : decode cX8_matches 58 = .ok (.iload 5, 2) := by decide +kernel
theorem dX8_matches_60 : decode cX8_matches 60 = .ok (.invokestatic 116, 3) := by decide +kernel
theorem dX8_matches_63 : decode cX8_matches 63 = .ok (.ifCond .eq 29, 3) := by decide +kernel
theorem dX8_matches_66 : decode cX8_matches 66 = .ok (.aload_n 1, 1) := by decide +kernel
theorem dX8_matches_67 : decode cX8_matches 67 = .ok (.iload 4, 2) := by decide +kernel
theorem dX8_matches_69 : decode cX8_matches 69 = .ok (.aload_n 2, 1) := by decide +kernel
theorem dX8_matches_70 : decode cX8_matches 70 = .ok (.getfield 45, 3) := by decide +kernel
theorem dX8_matches_73 : decode cX8_matches 73 = .ok (.iload_n 3, 1) := by decide +kernel
theorem dX8_matches_74 : decode cX8_matches 74 = .ok (.invokestatic 120, 3) := by decide +kernel
theorem dX8_matches_77 : decode cX8_matches 77 = .ok (.ifCond .eq 15, 3) := by decide +kernel
theorem dX8_matches_80 : decode cX8_matches 80 = .ok (.aload_n 0, 1) := by decide +kernel
theorem dX8_matches_81 : decode cX8_matches 81 = .ok (.aload_n 1, 1) := by decide +kernel
theorem dX8_matches_82 : decode cX8_matches 82 = .ok (.iload 4, 2) := by decide +kernel
theorem dX8_matches_84 : decode cX8_matches 84 = .ok (.iload 5, 2) := by decide +kernel
theorem dX8_matches_86 : decode cX8_matches 86 = .ok (.invokevirtual 124, 3) := by decide +kernel
theorem dX8_matches_89 : decode cX8_matches 89 = .ok (.ifCond .ne 5, 3) := by decide +kernel
theorem dX8_matches_92 : decode cX8_matches 92 = .ok (.iconst 0, 1) := by decide +kernel
theorem dX8_matches_93 : decode cX8_matches 93 = .ok (.ireturn, 1) := by decide +kernel
theorem dX8_matches_94 : decode cX8_matches 94 = .ok (.iinc 4 1, 3) := by decide +kernel
theorem dX8_matches_97 : decode cX8_matches 97 = .ok (.goto (-62), 3) := by decide +kernel
theorem dX8_matches_100 : decode cX8_matches 100 = .ok (.iconst 1, 1) := by decide +kernel
theorem dX8_matches_101 : decode cX8_matches 101 = .ok (.ireturn, 1) := by decide +kernel
set_option maxHeartbeats 4000000 in
set_option maxRecDepth 10000 in
theorem vX8_matches_0 {l : Launch} {M : sl_M} {Q : sl_R} {o1 o2 : Nat} {x3 : Int} (ho1 : sl_cls o1 = 0) (ho2 : sl_cls o2 = 6) (H : sl_RM M → sl_rg x3 → sl_At l mX8_matches 3 [(0, vR 8 0), (1, vR o1 0), (2, vR o2 0), (3, vI x3), (4, vI 0)] [] M Q) : sl_At l mX8_matches 0 [(0, vR 8 0), (1, vR o1 0), (2, vR o2 0), (3, vI x3)] [] M Q := by
  refine sl_At.in (fun hM hls => ?_)
  have g3 : sl_rg x3 := hls _ (List.mem_of_getElem? (i := 3) rfl)
  have H := H hM g3
  refine r_iconst dX8_matches_0 ?_
  refine r_istore (ls' := [(4, vI 0), (0, vR 8 0), (1, vR o1 0), (2, vR o2 0), (3, vI x3)]) ⟨by decide, by decide⟩ (by decide) rfl dX8_matches_1 ?_
  exact sl_At.sub [1, 2, 3, 4, 0] rfl H
set_option maxHeartbeats 4000000 in
set_option maxRecDepth 10000 in
theorem vX8_matches_3 {l : Launch} {M : sl_M} {Q : sl_R} {o1 o2 : Nat} {x3 x4 : Int} (ho1 : sl_cls o1 = 0) (ho2 : sl_cls o2 = 6) (H : sl_RM M → sl_rg x3 → sl_rg x4 → ((8 ≤ x4) → (∀ M2, M2 = sl_wr M 8 0 2 0 → sl_At l mX8_matches 35 [(0, vR 8 0), (1, vR o1 0), (2, vR o2 0), (3, vI x3), (4, vI (M2 o2 0 0))] [] M2 Q)) ∧ ((¬ (8 ≤ x4)) → (0 ≤ x4 ∧ x4 < 8) ∧ (∀ M4, M4 = sl_wr M 8 2 x4 (-1) → (sl_rg (x4 + 1)) ∧ sl_At l mX8_matches 3 [(0, vR 8 0), (1, vR o1 0), (2, vR o2 0), (3, vI x3), (4, vI (x4 + 1))] [] M4 Q))) : sl_At l mX8_matches 3 [(0, vR 8 0), (1, vR o1 0), (2, vR o2 0), (3, vI x3), (4, vI x4)] [] M Q := by
  refine sl_At.in (fun hM hls => ?_)
  have g3 : sl_rg x3 := hls _ (List.mem_of_getElem? (i := 3) rfl)
  have g4 : sl_rg x4 := hls _ (List.mem_of_getElem? (i := 4) rfl)
  have H := H hM g3 g4
  refine r_iload (k := 4) rfl dX8_matches_3 ?_
  refine r_bipush dX8_matches_5 (by decide) ?_
  refine r_icmp_ge (tgt := 24) g4 ⟨by decide, by decide⟩ dX8_matches_7 (by decide) (fun h1 => ?_) (fun h1 => ?_)
  · have H := H.1 h1
    refine r_aload_n (k := 0) rfl rfl dX8_matches_24 ?_
    refine r_iconst dX8_matches_25 ?_
    refine r_pI (k := 2) (kz := 2) rfl ckX8 rfl rfl (by decide) rfl rfl rfl rfl fl_X8_113 ⟨by decide, by decide⟩ dX8_matches_26 ?_
    refine r_mm (fun M2 e2 => ?_)
    have H := H M2 e2
    have hM2 : sl_RM M2 := by rw [e2]; exact sl_wr_RM hM ⟨by decide, by decide⟩
    refine r_aload_n (k := 2) rfl rfl dX8_matches_29 ?_
    refine r_gI (k := 0) (kz := 0) rfl ckX6 ho2 rfl (by decide) rfl rfl fl_X8_45 dX8_matches_30 ?_
    refine r_istore (ls' := [(4, vI (M2 o2 0 0)), (0, vR 8 0), (1, vR o1 0), (2, vR o2 0), (3, vI x3)]) (hM2 _ _ _) (by decide) rfl dX8_matches_33 ?_
    exact sl_At.sub [1, 2, 3, 4, 0] rfl H
  · have H := H.2 h1
    refine r_aload_n (k := 0) rfl rfl dX8_matches_10 ?_
    refine r_getR (k := 1) (o' := 8) (i' := 2) ckX8 rfl rfl (by decide) rfl rfl rfl fl_X8_18 dX8_matches_11 ?_
    refine r_iload (k := 4) rfl dX8_matches_14 ?_
    refine r_iconst dX8_matches_16 ?_
    obtain ⟨c3, H⟩ := H
    refine r_iast rfl rfl rfl c3 ⟨by decide, by decide⟩ dX8_matches_17 ?_
    refine r_mm (fun M4 e4 => ?_)
    have H := H M4 e4
    have hM4 : sl_RM M4 := by rw [e4]; exact sl_wr_RM hM ⟨by decide, by decide⟩
    obtain ⟨c5, H⟩ := H
    refine r_iinc (k := 4) (ls' := [(4, vI (x4 + 1)), (0, vR 8 0), (1, vR o1 0), (2, vR o2 0), (3, vI x3)]) rfl c5 (by decide) rfl dX8_matches_18 ?_
    refine r_goto (tgt := 3) dX8_matches_21 (by decide) ?_
    exact sl_At.sub [1, 2, 3, 4, 0] rfl H
set_option maxHeartbeats 4000000 in
set_option maxRecDepth 10000 in
theorem vX8_matches_35 {l : Launch} {M : sl_M} {Q : sl_R} {o1 o2 : Nat} {x3 x4 : Int} (ho1 : sl_cls o1 = 0) (ho2 : sl_cls o2 = 6) (H : sl_RM M → sl_rg x3 → sl_rg x4 → ((M o2 0 2 < x4) → Q (some (vI 1)) M) ∧ ((¬ (M o2 0 2 < x4)) → (sl_rg (x3 + x4 - (M o2 0 0))) ∧ (∀ y3 : Int, y3 = x3 + x4 - (M o2 0 0) → sl_RI l mX8_sameShape [vR o1 0, vI x4, vI y3] M (fun y5 M4 => ((y5 = 0) → Q (some (vI 0)) M4) ∧ ((¬ (y5 = 0)) → sl_RI l mX8_samePlace [vR o1 0, vI x4, vI (M4 o2 0 0), vI x3] M4 (fun y8 M7 => ((y8 = 0) → Q (some (vI 0)) M7) ∧ ((¬ (y8 = 0)) → sl_RI l mX8_sameNames [vR 8 0, vR o1 0, vI x4, vI y3] M7 (fun y11 M10 => ((y11 ≠ 0) → (sl_rg (x4 + 1)) ∧ sl_At l mX8_matches 35 [(0, vR 8 0), (1, vR o1 0), (2, vR o2 0), (3, vI x3), (4, vI (x4 + 1))] [] M10 Q) ∧ ((¬ (y11 ≠ 0)) → Q (some (vI 0)) M10))))))))) : sl_At l mX8_matches 35 [(0, vR 8 0), (1, vR o1 0), (2, vR o2 0), (3, vI x3), (4, vI x4)] [] M Q := by
  refine sl_At.in (fun hM hls => ?_)
  have g3 : sl_rg x3 := hls _ (List.mem_of_getElem? (i := 3) rfl)
  have g4 : sl_rg x4 := hls _ (List.mem_of_getElem? (i := 4) rfl)
  have H := H hM g3 g4
  refine r_iload (k := 4) rfl dX8_matches_35 ?_
  refine r_aload_n (k := 2) rfl rfl dX8_matches_37 ?_
  refine r_gI (k := 2) (kz := 2) rfl ckX6 ho2 rfl (by decide) rfl rfl fl_X8_42 dX8_matches_38 ?_
  refine r_icmp_gt (tgt := 100) g4 (hM _ _ _) dX8_matches_41 (by decide) (fun h1 => ?_) (fun h1 => ?_)
  · have H := H.1 h1
    refine r_iconst dX8_matches_100 ?_
    refine r_zret rfl (Or.inr rfl) dX8_matches_101 ?_
    exact H
  · have H := H.2 h1
    refine r_iload_n (k := 3) rfl rfl dX8_matches_44 ?_
    refine r_iload (k := 4) rfl dX8_matches_45 ?_
    refine r_iadd dX8_matches_47 ?_
    refine r_aload_n (k := 2) rfl rfl dX8_matches_48 ?_
    refine r_gI (k := 0) (kz := 0) rfl ckX6 ho2 rfl (by decide) rfl rfl fl_X8_45 dX8_matches_49 ?_
    refine r_isub dX8_matches_52 ?_
    obtain ⟨c2, H⟩ := H
    refine r_nm (fun y3 fy3 => ?_)
    have H := H y3 fy3
    have gy3 : sl_rg y3 := by rw [fy3]; exact c2
    refine r_istore (ls' := [(5, vI y3), (0, vR 8 0), (1, vR o1 0), (2, vR o2 0), (3, vI x3), (4, vI x4)]) gy3 (by decide) rfl dX8_matches_53 ?_
    refine r_aload_n (k := 2) rfl rfl dX8_matches_55 ?_
    refine r_iload (k := 5) rfl dX8_matches_56 ?_
    refine r_iload (k := 0) rfl dX8_matches_58 ?_
    refine r_callS (g := mX8_sameShape) rfl mkX8_sameShape msX8_sameShape ml_X8_116 ⟨by decide, by decide⟩ rfl (Nat.le_of_ble_eq_true rfl) rfl (ok_r (ok_i g4 (ok_i gy3 ok_n))) dX8_matches_60 (sl_afterI (sl_RI.mono (fun y5 M4 gy5 hM4 H => ?_) H))
    refine r_if_eq (tgt := 92) gy5 dX8_matches_63 (by decide) (fun h6 => ?_) (fun h6 => ?_)
    · have H := H.1 h6
      refine r_iconst dX8_matches_92 ?_
      refine r_zret rfl (Or.inl rfl) dX8_matches_93 ?_
      exact H
    · have H := H.2 h6
      refine r_aload_n (k := 2) rfl rfl dX8_matches_66 ?_
      refine r_iload (k := 5) rfl dX8_matches_67 ?_
      refine r_aload_n (k := 3) rfl rfl dX8_matches_69 ?_
      refine r_gI (k := 0) (kz := 0) rfl ckX6 ho2 rfl (by decide) rfl rfl fl_X8_45 dX8_matches_70 ?_
      refine r_iload_n (k := 4) rfl rfl dX8_matches_73 ?_
      refine r_callS (g := mX8_samePlace) rfl mkX8_samePlace msX8_samePlace ml_X8_120 ⟨by decide, by decide⟩ rfl (Nat.le_of_ble_eq_true rfl) rfl (ok_r (ok_i g4 (ok_i (hM4 _ _ _) (ok_i g3 ok_n)))) dX8_matches_74 (sl_afterI (sl_RI.mono (fun y8 M7 gy8 hM7 H => ?_) H))
      refine r_if_eq (tgt := 92) gy8 dX8_matches_77 (by decide) (fun h9 => ?_) (fun h9 => ?_)
      · have H := H.1 h9
        refine r_iconst dX8_matches_92 ?_
        refine r_zret rfl (Or.inl rfl) dX8_matches_93 ?_
        exact H
      · have H := H.2 h9
        refine r_aload_n (k := 1) rfl rfl dX8_matches_80 ?_
        refine r_aload_n (k := 2) rfl rfl dX8_matches_81 ?_
        refine r_iload (k := 5) rfl dX8_matches_82 ?_
        refine r_iload (k := 0) rfl dX8_matches_84 ?_
        refine r_callV (g := mX8_sameNames) ckX8 rfl rfl rfl rfl mkX8_sameNames mvX8_sameNames ml_X8_124 ⟨by decide, by decide⟩ rfl (Nat.le_of_ble_eq_true rfl) rfl (ok_r (ok_i g4 (ok_i gy3 ok_n))) dX8_matches_86 (sl_afterI (sl_RI.mono (fun y11 M10 gy11 hM10 H => ?_) H))
        refine r_if_ne (tgt := 94) gy11 dX8_matches_89 (by decide) (fun h12 => ?_) (fun h12 => ?_)
        · have H := H.1 h12
          obtain ⟨c13, H⟩ := H
          refine r_iinc (k := 5) (ls' := [(4, vI (x4 + 1)), (5, vI y3), (0, vR 8 0), (1, vR o1 0), (2, vR o2 0), (3, vI x3)]) rfl c13 (by decide) rfl dX8_matches_94 ?_
          refine r_goto (tgt := 35) dX8_matches_97 (by decide) ?_
          exact sl_At.sub [2, 3, 4, 5, 0] rfl H
        · have H := H.2 h12
          refine r_iconst dX8_matches_92 ?_
          refine r_zret rfl (Or.inl rfl) dX8_matches_93 ?_
          exact H
theorem eX8_matches {l : Launch} {M : sl_M} {Q : sl_R} {o1 o2 : Nat} {x3 : Int} (k : sl_At l mX8_matches 0 [(0, vR 8 0), (1, vR o1 0), (2, vR o2 0), (3, vI x3)] [] M Q) : sl_Runs l mX8_matches [vR 8 0, vR o1 0, vR o2 0, vI x3] M Q := sl_Runs.of (ls := [(0, vR 8 0), (1, vR o1 0), (2, vR o2 0), (3, vI x3)]) rfl rfl (fun _ => rfl) (fun _ => Nat.le_of_ble_eq_true rfl) rfl (k)
theorem dX8_sameShape_0 : decode cX8_sameShape 0 = .ok (.aload_n 0, 1) := by decide +kernel
theorem dX8_sameShape_1 : decode cX8_sameShape 1 = .ok (.getfield 127, 3) := by decide +kernel
theorem dX8_sameShape_4 : decode cX8_sameShape 4 = .ok (.iload_n 1, 1) := by decide +kernel
theorem dX8_sameShape_5 : decode cX8_sameShape 5 = .ok (.iaload, 1) := by decide +kernel
theorem dX8_sameShape_6 : decode cX8_sameShape 6 = .ok (.bipush 7, 2) := by decide +kernel
theorem dX8_sameShape_8 : decode cX8_sameShape 8 = .ok (.if_icmp .eq 52, 3) := by decide +kernel
theorem dX8_sameShape_11 : decode cX8_sameShape 11 = .ok (.aload_n 0, 1) := by decide +kernel
theorem dX8_sameShape_12 : decode cX8_sameShape 12 = .ok (.getfield 127, 3) := by decide +kernel
theorem dX8_sameShape_15 : decode cX8_sameShape 15 = .ok (.iload_n 1, 1) := by decide +kernel
theorem dX8_sameShape_16 : decode cX8_sameShape 16 = .ok (.iaload, 1) := by decide +kernel
theorem dX8_sameShape_17 : decode cX8_sameShape 17 = .ok (.aload_n 0, 1) := by decide +kernel
theorem dX8_sameShape_18 : decode cX8_sameShape 18 = .ok (.getfield 127, 3) := by decide +kernel
theorem dX8_sameShape_21 : decode cX8_sameShape 21 = .ok (.iload_n 2, 1) := by decide +kernel
theorem dX8_sameShape_22 : decode cX8_sameShape 22 = .ok (.iaload, 1) := by decide +kernel
theorem dX8_sameShape_23 : decode cX8_sameShape 23 = .ok (.if_icmp .ne 37, 3) := by decide +kernel
theorem dX8_sameShape_26 : decode cX8_sameShape 26 = .ok (.aload_n 0, 1) := by decide +kernel
theorem dX8_sameShape_27 : decode cX8_sameShape 27 = .ok (.getfield 130, 3) := by decide +kernel
theorem dX8_sameShape_30 : decode cX8_sameShape 30 = .ok (.iload_n 1, 1) := by decide +kernel
theorem dX8_sameShape_31 : decode cX8_sameShape 31 = .ok (.iaload, 1) := by decide +kernel
theorem dX8_sameShape_32 : decode cX8_sameShape 32 = .ok (.aload_n 0, 1) := by decide +kernel
theorem dX8_sameShape_33 : decode cX8_sameShape 33 = .ok (.getfield 130, 3) := by decide +kernel
theorem dX8_sameShape_36 : decode cX8_sameShape 36 = .ok (.iload_n 2, 1) := by decide +kernel
theorem dX8_sameShape_37 : decode cX8_sameShape 37 = .ok (.iaload, 1) := by decide +kernel
theorem dX8_sameShape_38 : decode cX8_sameShape 38 = .ok (.if_icmp .ne 22, 3) := by decide +kernel
theorem dX8_sameShape_41 : decode cX8_sameShape 41 = .ok (.aload_n 0, 1) := by decide +kernel
theorem dX8_sameShape_42 : decode cX8_sameShape 42 = .ok (.getfield 133, 3) := by decide +kernel
theorem dX8_sameShape_45 : decode cX8_sameShape 45 = .ok (.iload_n 1, 1) := by decide +kernel
theorem dX8_sameShape_46 : decode cX8_sameShape 46 = .ok (.iaload, 1) := by decide +kernel
theorem dX8_sameShape_47 : decode cX8_sameShape 47 = .ok (.aload_n 0, 1) := by decide +kernel
theorem dX8_sameShape_48 : decode cX8_sameShape 48 = .ok (.getfield 133, 3) := by decide +kernel
theorem dX8_sameShape_51 : decode cX8_sameShape 51 = .ok (.iload_n 2, 1) := by decide +kernel
theorem dX8_sameShape_52 : decode cX8_sameShape 52 = .ok (.iaload, 1) := by decide +kernel
theorem dX8_sameShape_53 : decode cX8_sameShape 53 = .ok (.if_icmp .ne 7, 3) := by decide +kernel
theorem dX8_sameShape_56 : decode cX8_sameShape 56 = .ok (.iconst 1, 1) := by decide +kernel
theorem dX8_sameShape_57 : decode cX8_sameShape 57 = .ok (.goto 4, 3) := by decide +kernel
theorem dX8_sameShape_60 : decode cX8_sameShape 60 = .ok (.iconst 0, 1) := by decide +kernel
theorem dX8_sameShape_61 : decode cX8_sameShape 61 = .ok (.ireturn, 1) := by decide +kernel
set_option maxHeartbeats 4000000 in
set_option maxRecDepth 10000 in
theorem vX8_sameShape_0 {l : Launch} {M : sl_M} {Q : sl_R} {o0 : Nat} {x1 x2 : Int} (ho0 : sl_cls o0 = 0) (H : sl_RM M → sl_rg x1 → sl_rg x2 → (0 ≤ x1 ∧ x1 < 40) ∧ (((¬ (M o0 1 x1 = 7)) → (0 ≤ x2 ∧ x2 < 40))) ∧ Q (some (vI (if (¬ (M o0 1 x1 = 7)) ∧ ((¬ (M o0 1 x1 ≠ M o0 1 x2)) ∧ ((¬ (M o0 5 x1 ≠ M o0 5 x2)) ∧ (¬ (M o0 9 x1 ≠ M o0 9 x2)))) then 1 else 0))) M) : sl_At l mX8_sameShape 0 [(0, vR o0 0), (1, vI x1), (2, vI x2)] [] M Q := by
  refine sl_At.in (fun hM hls => ?_)
  have g1 : sl_rg x1 := hls _ (List.mem_of_getElem? (i := 1) rfl)
  have g2 : sl_rg x2 := hls _ (List.mem_of_getElem? (i := 2) rfl)
  have H := H hM g1 g2
  refine r_aload_n (k := 0) rfl rfl dX8_sameShape_0 ?_
  refine r_getR (k := 0) (o' := o0) (i' := 1) ckX0 ho0 rfl (by decide) rfl rfl rfl fl_X8_127 dX8_sameShape_1 ?_
  refine r_iload_n (k := 1) rfl rfl dX8_sameShape_4 ?_
  obtain ⟨c1, H⟩ := H
  refine r_iald ho0 rfl rfl c1 dX8_sameShape_5 ?_
  refine r_bipush dX8_sameShape_6 (by decide) ?_
  obtain ⟨K, H⟩ := H
  have J : sl_At l mX8_sameShape 61 [(0, vR o0 0), (1, vI x1), (2, vI x2)] [vI (if (¬ (M o0 1 x1 = 7)) ∧ ((¬ (M o0 1 x1 ≠ M o0 1 x2)) ∧ ((¬ (M o0 5 x1 ≠ M o0 5 x2)) ∧ (¬ (M o0 9 x1 ≠ M o0 9 x2)))) then 1 else 0)] M Q := by
    refine r_zret rfl b_01 dX8_sameShape_61 ?_
    exact H
  refine r_icmp_eq (tgt := 60) (hM _ _ _) ⟨by decide, by decide⟩ dX8_sameShape_8 (by decide) (fun h3 => ?_) (fun h3 => ?_)
  · refine r_iconst dX8_sameShape_60 ?_
    rw [if_neg (show ¬ ((¬ (M o0 1 x1 = 7)) ∧ ((¬ (M o0 1 x1 ≠ M o0 1 x2)) ∧ ((¬ (M o0 5 x1 ≠ M o0 5 x2)) ∧ (¬ (M o0 9 x1 ≠ M o0 9 x2))))) by omega)] at J
    exact J
  · replace K := K h3
    have c2 := K
    refine r_aload_n (k := 0) rfl rfl dX8_sameShape_11 ?_
    refine r_getR (k := 0) (o' := o0) (i' := 1) ckX0 ho0 rfl (by decide) rfl rfl rfl fl_X8_127 dX8_sameShape_12 ?_
    refine r_iload_n (k := 1) rfl rfl dX8_sameShape_15 ?_
    refine r_iald ho0 rfl rfl c1 dX8_sameShape_16 ?_
    refine r_aload_n (k := 0) rfl rfl dX8_sameShape_17 ?_
    refine r_getR (k := 0) (o' := o0) (i' := 1) ckX0 ho0 rfl (by decide) rfl rfl rfl fl_X8_127 dX8_sameShape_18 ?_
    refine r_iload_n (k := 2) rfl rfl dX8_sameShape_21 ?_
    refine r_iald ho0 rfl rfl c2 dX8_sameShape_22 ?_
    refine r_icmp_ne (tgt := 60) (hM _ _ _) (hM _ _ _) dX8_sameShape_23 (by decide) (fun h4 => ?_) (fun h4 => ?_)
    · refine r_iconst dX8_sameShape_60 ?_
      rw [if_neg (show ¬ ((¬ (M o0 1 x1 = 7)) ∧ ((¬ (M o0 1 x1 ≠ M o0 1 x2)) ∧ ((¬ (M o0 5 x1 ≠ M o0 5 x2)) ∧ (¬ (M o0 9 x1 ≠ M o0 9 x2))))) by omega)] at J
      exact J
    · refine r_aload_n (k := 0) rfl rfl dX8_sameShape_26 ?_
      refine r_getR (k := 4) (o' := o0) (i' := 5) ckX0 ho0 rfl (by decide) rfl rfl rfl fl_X8_130 dX8_sameShape_27 ?_
      refine r_iload_n (k := 1) rfl rfl dX8_sameShape_30 ?_
      refine r_iald ho0 rfl rfl c1 dX8_sameShape_31 ?_
      refine r_aload_n (k := 0) rfl rfl dX8_sameShape_32 ?_
      refine r_getR (k := 4) (o' := o0) (i' := 5) ckX0 ho0 rfl (by decide) rfl rfl rfl fl_X8_130 dX8_sameShape_33 ?_
      refine r_iload_n (k := 2) rfl rfl dX8_sameShape_36 ?_
      refine r_iald ho0 rfl rfl c2 dX8_sameShape_37 ?_
      refine r_icmp_ne (tgt := 60) (hM _ _ _) (hM _ _ _) dX8_sameShape_38 (by decide) (fun h5 => ?_) (fun h5 => ?_)
      · refine r_iconst dX8_sameShape_60 ?_
        rw [if_neg (show ¬ ((¬ (M o0 1 x1 = 7)) ∧ ((¬ (M o0 1 x1 ≠ M o0 1 x2)) ∧ ((¬ (M o0 5 x1 ≠ M o0 5 x2)) ∧ (¬ (M o0 9 x1 ≠ M o0 9 x2))))) by omega)] at J
        exact J
      · refine r_aload_n (k := 0) rfl rfl dX8_sameShape_41 ?_
        refine r_getR (k := 8) (o' := o0) (i' := 9) ckX0 ho0 rfl (by decide) rfl rfl rfl fl_X8_133 dX8_sameShape_42 ?_
        refine r_iload_n (k := 1) rfl rfl dX8_sameShape_45 ?_
        refine r_iald ho0 rfl rfl c1 dX8_sameShape_46 ?_
        refine r_aload_n (k := 0) rfl rfl dX8_sameShape_47 ?_
        refine r_getR (k := 8) (o' := o0) (i' := 9) ckX0 ho0 rfl (by decide) rfl rfl rfl fl_X8_133 dX8_sameShape_48 ?_
        refine r_iload_n (k := 2) rfl rfl dX8_sameShape_51 ?_
        refine r_iald ho0 rfl rfl c2 dX8_sameShape_52 ?_
        refine r_icmp_ne (tgt := 60) (hM _ _ _) (hM _ _ _) dX8_sameShape_53 (by decide) (fun h6 => ?_) (fun h6 => ?_)
        · refine r_iconst dX8_sameShape_60 ?_
          rw [if_neg (show ¬ ((¬ (M o0 1 x1 = 7)) ∧ ((¬ (M o0 1 x1 ≠ M o0 1 x2)) ∧ ((¬ (M o0 5 x1 ≠ M o0 5 x2)) ∧ (¬ (M o0 9 x1 ≠ M o0 9 x2))))) by omega)] at J
          exact J
        · refine r_iconst dX8_sameShape_56 ?_
          refine r_goto (tgt := 61) dX8_sameShape_57 (by decide) ?_
          rw [if_pos (show (¬ (M o0 1 x1 = 7)) ∧ ((¬ (M o0 1 x1 ≠ M o0 1 x2)) ∧ ((¬ (M o0 5 x1 ≠ M o0 5 x2)) ∧ (¬ (M o0 9 x1 ≠ M o0 9 x2)))) by omega)] at J
          exact J
theorem eX8_sameShape {l : Launch} {M : sl_M} {Q : sl_R} {o0 : Nat} {x1 x2 : Int} (k : sl_At l mX8_sameShape 0 [(0, vR o0 0), (1, vI x1), (2, vI x2)] [] M Q) : sl_Runs l mX8_sameShape [vR o0 0, vI x1, vI x2] M Q := sl_Runs.of (ls := [(0, vR o0 0), (1, vI x1), (2, vI x2)]) rfl rfl (fun _ => rfl) (fun _ => Nat.le_of_ble_eq_true rfl) rfl (k)
theorem dX8_samePlace_0 : decode cX8_samePlace 0 = .ok (.iload_n 3, 1) := by decide +kernel
theorem dX8_samePlace_1 : decode cX8_samePlace 1 = .ok (.iload_n 1, 1) := by decide +kernel
theorem dX8_samePlace_2 : decode cX8_samePlace 2 = .ok (.iadd, 1) := by decide +kernel
theorem dX8_samePlace_3 : decode cX8_samePlace 3 = .ok (.iload_n 2, 1) := by decide +kernel
theorem dX8_samePlace_4 : decode cX8_samePlace 4 = .ok (.isub, 1) := by decide +kernel
theorem dX8_samePlace_5 : decode cX8_samePlace 5 = .ok (.istore 4, 2) := by decide +kernel
theorem dX8_samePlace_7 : decode cX8_samePlace 7 = .ok (.aload_n 0, 1) := by decide +kernel
theorem dX8_samePlace_8 : decode cX8_samePlace 8 = .ok (.getfield 136, 3) := by decide +kernel
theorem dX8_samePlace_11 : decode cX8_samePlace 11 = .ok (.iload_n 1, 1) := by decide +kernel
theorem dX8_samePlace_12 : decode cX8_samePlace 12 = .ok (.iaload, 1) := by decide +kernel
theorem dX8_samePlace_13 : decode cX8_samePlace 13 = .ok (.iload_n 2, 1) := by decide +kernel
theorem dX8_samePlace_14 : decode cX8_samePlace 14 = .ok (.if_icmp .lt 14, 3) := by decide +kernel
theorem dX8_samePlace_17 : decode cX8_samePlace 17 = .ok (.aload_n 0, 1) := by decide +kernel
theorem dX8_samePlace_18 : decode cX8_samePlace 18 = .ok (.getfield 136, 3) := by decide +kernel
theorem dX8_samePlace_21 : decode cX8_samePlace 21 = .ok (.iload 4, 2) := by decide +kernel
theorem dX8_samePlace_23 : decode cX8_samePlace 23 = .ok (.iaload, 1) := by decide +kernel
theorem dX8_samePlace_24 : decode cX8_samePlace 24 = .ok (.iload_n 3, 1) := by decide +kernel
theorem dX8_samePlace_25 : decode cX8_samePlace 25 = .ok (.if_icmp .ge 30, 3) := by decide +kernel
theorem dX8_samePlace_28 : decode cX8_samePlace 28 = .ok (.aload_n 0, 1) := by decide +kernel
theorem dX8_samePlace_29 : decode cX8_samePlace 29 = .ok (.getfield 136, 3) := by decide +kernel
theorem dX8_samePlace_32 : decode cX8_samePlace 32 = .ok (.iload_n 1, 1) := by decide +kernel
theorem dX8_samePlace_33 : decode cX8_samePlace 33 = .ok (.iaload, 1) := by decide +kernel
theorem dX8_samePlace_34 : decode cX8_samePlace 34 = .ok (.iload_n 2, 1) := by decide +kernel
theorem dX8_samePlace_35 : decode cX8_samePlace 35 = .ok (.if_icmp .ge 18, 3) := by decide +kernel
theorem dX8_samePlace_38 : decode cX8_samePlace 38 = .ok (.aload_n 0, 1) := by decide +kernel
theorem dX8_samePlace_39 : decode cX8_samePlace 39 = .ok (.getfield 136, 3) := by decide +kernel
theorem dX8_samePlace_42 : decode cX8_samePlace 42 = .ok (.iload 4, 2) := by decide +kernel
theorem dX8_samePlace_44 : decode cX8_samePlace 44 = .ok (.iaload, 1) := by decide +kernel
theorem dX8_samePlace_45 : decode cX8_samePlace 45 = .ok (.iload_n 3, 1) := by decide +kernel
theorem dX8_samePlace_46 : decode cX8_samePlace 46 = .ok (.if_icmp .ge 7, 3) := by decide +kernel
theorem dX8_samePlace_49 : decode cX8_samePlace 49 = .ok (.iconst 1, 1) := by decide +kernel
theorem dX8_samePlace_50 : decode cX8_samePlace 50 = .ok (.goto 4, 3) := by decide +kernel
theorem dX8_samePlace_53 : decode cX8_samePlace 53 = .ok (.iconst 0, 1) := by decide +kernel
theorem dX8_samePlace_54 : decode cX8_samePlace 54 = .ok (.ireturn, 1) := by decide +kernel
theorem dX8_samePlace_55 : decode cX8_samePlace 55 = .ok (.aload_n 0, 1) := by decide +kernel
theorem dX8_samePlace_56 : decode cX8_samePlace 56 = .ok (.getfield 136, 3) := by decide +kernel
theorem dX8_samePlace_59 : decode cX8_samePlace 59 = .ok (.iload_n 1, 1) := by decide +kernel
theorem dX8_samePlace_60 : decode cX8_samePlace 60 = .ok (.iaload, 1) := by decide +kernel
theorem dX8_samePlace_61 : decode cX8_samePlace 61 = .ok (.iload_n 2, 1) := by decide +kernel
theorem dX8_samePlace_62 : decode cX8_samePlace 62 = .ok (.isub, 1) := by decide +kernel
theorem dX8_samePlace_63 : decode cX8_samePlace 63 = .ok (.aload_n 0, 1) := by decide +kernel
theorem dX8_samePlace_64 : decode cX8_samePlace 64 = .ok (.getfield 136, 3) := by decide +kernel
theorem dX8_samePlace_67 : decode cX8_samePlace 67 = .ok (.iload 4, 2) := by decide +kernel
theorem dX8_samePlace_69 : decode cX8_samePlace 69 = .ok (.iaload, 1) := by decide +kernel
theorem dX8_samePlace_70 : decode cX8_samePlace 70 = .ok (.iload_n 3, 1) := by decide +kernel
theorem dX8_samePlace_71 : decode cX8_samePlace 71 = .ok (.isub, 1) := by decide +kernel
theorem dX8_samePlace_72 : decode cX8_samePlace 72 = .ok (.if_icmp .ne 23, 3) := by decide +kernel
theorem dX8_samePlace_75 : decode cX8_samePlace 75 = .ok (.aload_n 0, 1) := by decide +kernel
theorem dX8_samePlace_76 : decode cX8_samePlace 76 = .ok (.getfield 139, 3) := by decide +kernel
theorem dX8_samePlace_79 : decode cX8_samePlace 79 = .ok (.iload_n 1, 1) := by decide +kernel
theorem dX8_samePlace_80 : decode cX8_samePlace 80 = .ok (.iaload, 1) := by decide +kernel
theorem dX8_samePlace_81 : decode cX8_samePlace 81 = .ok (.aload_n 0, 1) := by decide +kernel
theorem dX8_samePlace_82 : decode cX8_samePlace 82 = .ok (.getfield 139, 3) := by decide +kernel
theorem dX8_samePlace_85 : decode cX8_samePlace 85 = .ok (.iload 4, 2) := by decide +kernel
theorem dX8_samePlace_87 : decode cX8_samePlace 87 = .ok (.iaload, 1) := by decide +kernel
theorem dX8_samePlace_88 : decode cX8_samePlace 88 = .ok (.if_icmp .ne 7, 3) := by decide +kernel
theorem dX8_samePlace_91 : decode cX8_samePlace 91 = .ok (.iconst 1, 1) := by decide +kernel
theorem dX8_samePlace_92 : decode cX8_samePlace 92 = .ok (.goto 4, 3) := by decide +kernel
theorem dX8_samePlace_95 : decode cX8_samePlace 95 = .ok (.iconst 0, 1) := by decide +kernel
theorem dX8_samePlace_96 : decode cX8_samePlace 96 = .ok (.ireturn, 1) := by decide +kernel
set_option maxHeartbeats 4000000 in
set_option maxRecDepth 10000 in
theorem vX8_samePlace_0 {l : Launch} {M : sl_M} {Q : sl_R} {o0 : Nat} {x1 x2 x3 : Int} (ho0 : sl_cls o0 = 0) (H : sl_RM M → sl_rg x1 → sl_rg x2 → sl_rg x3 → (sl_rg (x3 + x1 - x2)) ∧ (∀ y2 : Int, y2 = x3 + x1 - x2 → (0 ≤ x1 ∧ x1 < 40) ∧ ((M o0 2 x1 < x2) → (((¬ (x2 ≤ M o0 2 x1)) → (0 ≤ y2 ∧ y2 < 40))) ∧ Q (some (vI (if (¬ (x2 ≤ M o0 2 x1)) ∧ (¬ (x3 ≤ M o0 2 y2)) then 1 else 0))) M) ∧ ((¬ (M o0 2 x1 < x2)) → (0 ≤ y2 ∧ y2 < 40) ∧ ((x3 ≤ M o0 2 y2) → ((sl_rg (M o0 2 x1 - x2)) ∧ (sl_rg (M o0 2 y2 - x3))) ∧ Q (some (vI (if (¬ (M o0 2 x1 - x2 ≠ M o0 2 y2 - x3)) ∧ (¬ (M o0 4 x1 ≠ M o0 4 y2)) then 1 else 0))) M) ∧ ((¬ (x3 ≤ M o0 2 y2)) → Q (some (vI (if (¬ (x2 ≤ M o0 2 x1)) ∧ (¬ (x3 ≤ M o0 2 y2)) then 1 else 0))) M)))) : sl_At l mX8_samePlace 0 [(0, vR o0 0), (1, vI x1), (2, vI x2), (3, vI x3)] [] M Q := by
  refine sl_At.in (fun hM hls => ?_)
  have g1 : sl_rg x1 := hls _ (List.mem_of_getElem? (i := 1) rfl)
  have g2 : sl_rg x2 := hls _ (List.mem_of_getElem? (i := 2) rfl)
  have g3 : sl_rg x3 := hls _ (List.mem_of_getElem? (i := 3) rfl)
  have H := H hM g1 g2 g3
  refine r_iload_n (k := 3) rfl rfl dX8_samePlace_0 ?_
  refine r_iload_n (k := 1) rfl rfl dX8_samePlace_1 ?_
  refine r_iadd dX8_samePlace_2 ?_
  refine r_iload_n (k := 2) rfl rfl dX8_samePlace_3 ?_
  refine r_isub dX8_samePlace_4 ?_
  obtain ⟨c1, H⟩ := H
  refine r_nm (fun y2 fy2 => ?_)
  have H := H y2 fy2
  have gy2 : sl_rg y2 := by rw [fy2]; exact c1
  refine r_istore (ls' := [(4, vI y2), (0, vR o0 0), (1, vI x1), (2, vI x2), (3, vI x3)]) gy2 (by decide) rfl dX8_samePlace_5 ?_
  refine r_aload_n (k := 1) rfl rfl dX8_samePlace_7 ?_
  refine r_getR (k := 1) (o' := o0) (i' := 2) ckX0 ho0 rfl (by decide) rfl rfl rfl fl_X8_136 dX8_samePlace_8 ?_
  refine r_iload_n (k := 2) rfl rfl dX8_samePlace_11 ?_
  obtain ⟨c3, H⟩ := H
  refine r_iald ho0 rfl rfl c3 dX8_samePlace_12 ?_
  refine r_iload_n (k := 3) rfl rfl dX8_samePlace_13 ?_
  refine r_icmp_lt (tgt := 28) (hM _ _ _) g2 dX8_samePlace_14 (by decide) (fun h4 => ?_) (fun h4 => ?_)
  · have H := H.1 h4
    refine r_aload_n (k := 1) rfl rfl dX8_samePlace_28 ?_
    refine r_getR (k := 1) (o' := o0) (i' := 2) ckX0 ho0 rfl (by decide) rfl rfl rfl fl_X8_136 dX8_samePlace_29 ?_
    refine r_iload_n (k := 2) rfl rfl dX8_samePlace_32 ?_
    refine r_iald ho0 rfl rfl c3 dX8_samePlace_33 ?_
    refine r_iload_n (k := 3) rfl rfl dX8_samePlace_34 ?_
    obtain ⟨K, H⟩ := H
    have J : sl_At l mX8_samePlace 54 [(4, vI y2), (0, vR o0 0), (1, vI x1), (2, vI x2), (3, vI x3)] [vI (if (¬ (x2 ≤ M o0 2 x1)) ∧ (¬ (x3 ≤ M o0 2 y2)) then 1 else 0)] M Q := by
      refine r_zret rfl b_01 dX8_samePlace_54 ?_
      exact H
    refine r_icmp_ge (tgt := 53) (hM _ _ _) g2 dX8_samePlace_35 (by decide) (fun h6 => ?_) (fun h6 => ?_)
    · refine r_iconst dX8_samePlace_53 ?_
      rw [if_neg (show ¬ ((¬ (x2 ≤ M o0 2 x1)) ∧ (¬ (x3 ≤ M o0 2 y2))) by omega)] at J
      exact J
    · replace K := K h6
      have c5 := K
      refine r_aload_n (k := 1) rfl rfl dX8_samePlace_38 ?_
      refine r_getR (k := 1) (o' := o0) (i' := 2) ckX0 ho0 rfl (by decide) rfl rfl rfl fl_X8_136 dX8_samePlace_39 ?_
      refine r_iload (k := 0) rfl dX8_samePlace_42 ?_
      refine r_iald ho0 rfl rfl c5 dX8_samePlace_44 ?_
      refine r_iload_n (k := 4) rfl rfl dX8_samePlace_45 ?_
      refine r_icmp_ge (tgt := 53) (hM _ _ _) g3 dX8_samePlace_46 (by decide) (fun h7 => ?_) (fun h7 => ?_)
      · refine r_iconst dX8_samePlace_53 ?_
        rw [if_neg (show ¬ ((¬ (x2 ≤ M o0 2 x1)) ∧ (¬ (x3 ≤ M o0 2 y2))) by omega)] at J
        exact J
      · refine r_iconst dX8_samePlace_49 ?_
        refine r_goto (tgt := 54) dX8_samePlace_50 (by decide) ?_
        rw [if_pos (show (¬ (x2 ≤ M o0 2 x1)) ∧ (¬ (x3 ≤ M o0 2 y2)) by omega)] at J
        exact J
  · have H := H.2 h4
    refine r_aload_n (k := 1) rfl rfl dX8_samePlace_17 ?_
    refine r_getR (k := 1) (o' := o0) (i' := 2) ckX0 ho0 rfl (by decide) rfl rfl rfl fl_X8_136 dX8_samePlace_18 ?_
    refine r_iload (k := 0) rfl dX8_samePlace_21 ?_
    obtain ⟨c8, H⟩ := H
    refine r_iald ho0 rfl rfl c8 dX8_samePlace_23 ?_
    refine r_iload_n (k := 4) rfl rfl dX8_samePlace_24 ?_
    refine r_icmp_ge (tgt := 55) (hM _ _ _) g3 dX8_samePlace_25 (by decide) (fun h9 => ?_) (fun h9 => ?_)
    · have H := H.1 h9
      refine r_aload_n (k := 1) rfl rfl dX8_samePlace_55 ?_
      refine r_getR (k := 1) (o' := o0) (i' := 2) ckX0 ho0 rfl (by decide) rfl rfl rfl fl_X8_136 dX8_samePlace_56 ?_
      refine r_iload_n (k := 2) rfl rfl dX8_samePlace_59 ?_
      refine r_iald ho0 rfl rfl c3 dX8_samePlace_60 ?_
      refine r_iload_n (k := 3) rfl rfl dX8_samePlace_61 ?_
      refine r_isub dX8_samePlace_62 ?_
      refine r_aload_n (k := 1) rfl rfl dX8_samePlace_63 ?_
      refine r_getR (k := 1) (o' := o0) (i' := 2) ckX0 ho0 rfl (by decide) rfl rfl rfl fl_X8_136 dX8_samePlace_64 ?_
      refine r_iload (k := 0) rfl dX8_samePlace_67 ?_
      refine r_iald ho0 rfl rfl c8 dX8_samePlace_69 ?_
      refine r_iload_n (k := 4) rfl rfl dX8_samePlace_70 ?_
      refine r_isub dX8_samePlace_71 ?_
      obtain ⟨K, H⟩ := H
      have J : sl_At l mX8_samePlace 96 [(4, vI y2), (0, vR o0 0), (1, vI x1), (2, vI x2), (3, vI x3)] [vI (if (¬ (M o0 2 x1 - x2 ≠ M o0 2 y2 - x3)) ∧ (¬ (M o0 4 x1 ≠ M o0 4 y2)) then 1 else 0)] M Q := by
        refine r_zret rfl b_01 dX8_samePlace_96 ?_
        exact H
      obtain ⟨c10, K⟩ := K
      have c11 := K
      refine r_icmp_ne (tgt := 95) c10 c11 dX8_samePlace_72 (by decide) (fun h12 => ?_) (fun h12 => ?_)
      · refine r_iconst dX8_samePlace_95 ?_
        rw [if_neg (show ¬ ((¬ (M o0 2 x1 - x2 ≠ M o0 2 y2 - x3)) ∧ (¬ (M o0 4 x1 ≠ M o0 4 y2))) by omega)] at J
        exact J
      · refine r_aload_n (k := 1) rfl rfl dX8_samePlace_75 ?_
        refine r_getR (k := 3) (o' := o0) (i' := 4) ckX0 ho0 rfl (by decide) rfl rfl rfl fl_X8_139 dX8_samePlace_76 ?_
        refine r_iload_n (k := 2) rfl rfl dX8_samePlace_79 ?_
        refine r_iald ho0 rfl rfl c3 dX8_samePlace_80 ?_
        refine r_aload_n (k := 1) rfl rfl dX8_samePlace_81 ?_
        refine r_getR (k := 3) (o' := o0) (i' := 4) ckX0 ho0 rfl (by decide) rfl rfl rfl fl_X8_139 dX8_samePlace_82 ?_
        refine r_iload (k := 0) rfl dX8_samePlace_85 ?_
        refine r_iald ho0 rfl rfl c8 dX8_samePlace_87 ?_
        refine r_icmp_ne (tgt := 95) (hM _ _ _) (hM _ _ _) dX8_samePlace_88 (by decide) (fun h13 => ?_) (fun h13 => ?_)
        · refine r_iconst dX8_samePlace_95 ?_
          rw [if_neg (show ¬ ((¬ (M o0 2 x1 - x2 ≠ M o0 2 y2 - x3)) ∧ (¬ (M o0 4 x1 ≠ M o0 4 y2))) by omega)] at J
          exact J
        · refine r_iconst dX8_samePlace_91 ?_
          refine r_goto (tgt := 96) dX8_samePlace_92 (by decide) ?_
          rw [if_pos (show (¬ (M o0 2 x1 - x2 ≠ M o0 2 y2 - x3)) ∧ (¬ (M o0 4 x1 ≠ M o0 4 y2)) by omega)] at J
          exact J
    · have H := H.2 h9
      refine r_aload_n (k := 1) rfl rfl dX8_samePlace_28 ?_
      refine r_getR (k := 1) (o' := o0) (i' := 2) ckX0 ho0 rfl (by decide) rfl rfl rfl fl_X8_136 dX8_samePlace_29 ?_
      refine r_iload_n (k := 2) rfl rfl dX8_samePlace_32 ?_
      refine r_iald ho0 rfl rfl c3 dX8_samePlace_33 ?_
      refine r_iload_n (k := 3) rfl rfl dX8_samePlace_34 ?_
      have J : sl_At l mX8_samePlace 54 [(4, vI y2), (0, vR o0 0), (1, vI x1), (2, vI x2), (3, vI x3)] [vI (if (¬ (x2 ≤ M o0 2 x1)) ∧ (¬ (x3 ≤ M o0 2 y2)) then 1 else 0)] M Q := by
        refine r_zret rfl b_01 dX8_samePlace_54 ?_
        exact H
      refine r_icmp_ge (tgt := 53) (hM _ _ _) g2 dX8_samePlace_35 (by decide) (fun h14 => ?_) (fun h14 => ?_)
      · refine r_iconst dX8_samePlace_53 ?_
        rw [if_neg (show ¬ ((¬ (x2 ≤ M o0 2 x1)) ∧ (¬ (x3 ≤ M o0 2 y2))) by omega)] at J
        exact J
      · refine r_aload_n (k := 1) rfl rfl dX8_samePlace_38 ?_
        refine r_getR (k := 1) (o' := o0) (i' := 2) ckX0 ho0 rfl (by decide) rfl rfl rfl fl_X8_136 dX8_samePlace_39 ?_
        refine r_iload (k := 0) rfl dX8_samePlace_42 ?_
        refine r_iald ho0 rfl rfl c8 dX8_samePlace_44 ?_
        refine r_iload_n (k := 4) rfl rfl dX8_samePlace_45 ?_
        refine r_icmp_ge (tgt := 53) (hM _ _ _) g3 dX8_samePlace_46 (by decide) (fun h15 => ?_) (fun h15 => ?_)
        · refine r_iconst dX8_samePlace_53 ?_
          rw [if_neg (show ¬ ((¬ (x2 ≤ M o0 2 x1)) ∧ (¬ (x3 ≤ M o0 2 y2))) by omega)] at J
          exact J
        · refine r_iconst dX8_samePlace_49 ?_
          refine r_goto (tgt := 54) dX8_samePlace_50 (by decide) ?_
          rw [if_pos (show (¬ (x2 ≤ M o0 2 x1)) ∧ (¬ (x3 ≤ M o0 2 y2)) by omega)] at J
          exact J
theorem eX8_samePlace {l : Launch} {M : sl_M} {Q : sl_R} {o0 : Nat} {x1 x2 x3 : Int} (k : sl_At l mX8_samePlace 0 [(0, vR o0 0), (1, vI x1), (2, vI x2), (3, vI x3)] [] M Q) : sl_Runs l mX8_samePlace [vR o0 0, vI x1, vI x2, vI x3] M Q := sl_Runs.of (ls := [(0, vR o0 0), (1, vI x1), (2, vI x2), (3, vI x3)]) rfl rfl (fun _ => rfl) (fun _ => Nat.le_of_ble_eq_true rfl) rfl (k)
theorem dX8_sameNames_0 : decode cX8_sameNames 0 = .ok (.iconst 0, 1) := by decide +kernel
theorem dX8_sameNames_1 : decode cX8_sameNames 1 = .ok (.istore 4, 2) := by decide +kernel
theorem dX8_sameNames_3 : decode cX8_sameNames 3 = .ok (.iload 4, 2) := by decide +kernel
theorem dX8_sameNames_5 : decode cX8_sameNames 5 = .ok (.aload_n 1, 1) := by decide +kernel
theorem dX8_sameNames_6 : decode cX8_sameNames 6 = .ok (.getfield 133, 3) := by decide +kernel
theorem dX8_sameNames_9 : decode cX8_sameNames 9 = .ok (.iload_n 2, 1) := by decide +kernel
theorem dX8_sameNames_10 : decode cX8_sameNames 10 = .ok (.iaload, 1) := by decide +kernel
theorem dX8_sameNames_11 : decode cX8_sameNames 11 = .ok (.if_icmp .ge 76, 3) := by decide +kernel
theorem dX8_sameNames_14 : decode cX8_sameNames 14 = .ok (.aload_n 1, 1) := by decide +kernel
theorem dX8_sameNames_15 : decode cX8_sameNames 15 = .ok (.iload_n 2, 1) := by decide +kernel
theorem dX8_sameNames_16 : decode cX8_sameNames 16 = .ok (.iload 4, 2) := by decide +kernel
theorem dX8_sameNames_18 : decode cX8_sameNames 18 = .ok (.invokevirtual 142, 3) := by decide +kernel
theorem dX8_sameNames_21 : decode cX8_sameNames 21 = .ok (.istore 5, 2) := by decide +kernel
theorem dX8_sameNames_23 : decode cX8_sameNames 23 = .ok (.aload_n 1, 1) := by decide +kernel
theorem dX8_sameNames_24 : decode cX8_sameNames 24 = .ok (.iload_n 3, 1) := by decide +kernel
theorem dX8_sameNames_25 : decode cX8_sameNames 25 = .ok (.iload 4, 2) := by decide +kernel
theorem dX8_sameNames_27 : decode cX8_sameNames 27 = .ok (.invokevirtual 142, 3) := by decide +kernel
theorem dX8_sameNames_30 : decode cX8_sameNames 30 = .ok (.istore 6, 2) := by decide +kernel
theorem dX8_sameNames_32 : decode cX8_sameNames 32 = .ok (.iload 5, 2) := by decide +kernel
theorem dX8_sameNames_34 : decode cX8_sameNames 34 = .ok (.invokestatic 145, 3) := by decide +kernel
theorem dX8_sameNames_37 : decode cX8_sameNames 37 = .ok (.istore 7, 2) := by decide +kernel
theorem dX8_sameNames_39 : decode cX8_sameNames 39 = .ok (.iload 6, 2) := by decide +kernel
theorem dX8_sameNames_41 : decode cX8_sameNames 41 = .ok (.invokestatic 145, 3) := by decide +kernel
theorem dX8_sameNames_44 : decode cX8_sameNames 44 = .ok (.istore 8, 2) := by decide +kernel
theorem dX8_sameNames_46 : decode cX8_sameNames 46 = .ok (.iload 7, 2) := by decide +kernel
theorem dX8_sameNames_48 : decode cX8_sameNames 48 = .ok (.iconst (-1), 1) := by decide +kernel
theorem dX8_sameNames_49 : decode cX8_sameNames 49 = .ok (.if_icmp .eq 9, 3) := by decide +kernel
theorem dX8_sameNames_52 : decode cX8_sameNames 52 = .ok (.iload 8, 2) := by decide +kernel
theorem dX8_sameNames_54 : decode cX8_sameNames 54 = .ok (.iconst (-1), 1) := by decide +kernel
theorem dX8_sameNames_55 : decode cX8_sameNames 55 = .ok (.if_icmp .ne 13, 3) := by decide +kernel
theorem dX8_sameNames_58 : decode cX8_sameNames 58 = .ok (.iload 5, 2) := by decide +kernel
theorem dX8_sameNames_60 : decode cX8_sameNames 60 = .ok (.iload 6, 2) := by decide +kernel
theorem dX8_sameNames_62 : decode cX8_sameNames 62 = .ok (.if_icmp .eq 19, 3) := by decide +kernel
theorem dX8_sameNames_65 : decode cX8_sameNames 65 = .ok (.goto 14, 3) := by decide +kernel
theorem dX8_sameNames_68 : decode cX8_sameNames 68 = .ok (.aload_n 0, 1) := by decide +kernel
theorem dX8_sameNames_69 : decode cX8_sameNames 69 = .ok (.iload 7, 2) := by decide +kernel
theorem dX8_sameNames_71 : decode cX8_sameNames 71 = .ok (.iload 8, 2) := by decide +kernel
theorem dX8_sameNames_73 : decode cX8_sameNames 73 = .ok (.invokevirtual 148, 3) := by decide +kernel
theorem dX8_sameNames_76 : decode cX8_sameNames 76 = .ok (.ifCond .ne 5, 3) := by decide +kernel
theorem dX8_sameNames_79 : decode cX8_sameNames 79 = .ok (.iconst 0, 1) := by decide +kernel
theorem dX8_sameNames_80 : decode cX8_sameNames 80 = .ok (.ireturn, 1) := by decide +kernel
theorem dX8_sameNames_81 : decode cX8_sameNames 81 = .ok (.iinc 4 1, 3) := by decide +kernel
theorem dX8_sameNames_84 : decode cX8_sameNames 84 = .ok (.goto (-81), 3) := by decide +kernel
theorem dX8_sameNames_87 : decode cX8_sameNames 87 = .ok (.aload_n 1, 1) := by decide +kernel
theorem dX8_sameNames_88 : decode cX8_sameNames 88 = .ok (.getfield 127, 3) := by decide +kernel
theorem dX8_sameNames_91 : decode cX8_sameNames 91 = .ok (.iload_n 2, 1) := by decide +kernel
theorem dX8_sameNames_92 : decode cX8_sameNames 92 = .ok (.iaload, 1) := by decide +kernel
theorem dX8_sameNames_93 : decode cX8_sameNames 93 = .ok (.ifCond .ne 22, 3) := by decide +kernel
theorem dX8_sameNames_96 : decode cX8_sameNames 96 = .ok (.aload_n 0, 1) := by decide +kernel
theorem dX8_sameNames_97 : decode cX8_sameNames 97 = .ok (.aload_n 1, 1) := by decide +kernel
theorem dX8_sameNames_98 : decode cX8_sameNames 98 = .ok (.getfield 151, 3) := by decide +kernel
theorem dX8_sameNames_101 : decode cX8_sameNames 101 = .ok (.iload_n 2, 1) := by decide +kernel
theorem dX8_sameNames_102 : decode cX8_sameNames 102 = .ok (.iaload, 1) := by decide +kernel
theorem dX8_sameNames_103 : decode cX8_sameNames 103 = .ok (.aload_n 1, 1) := by decide +kernel
theorem dX8_sameNames_104 : decode cX8_sameNames 104 = .ok (.getfield 151, 3) := by decide +kernel
theorem dX8_sameNames_107 : decode cX8_sameNames 107 = .ok (.iload_n 3, 1) := by decide +kernel
theorem dX8_sameNames_108 : decode cX8_sameNames 108 = .ok (.iaload, 1) := by decide +kernel
theorem dX8_sameNames_109 : decode cX8_sameNames 109 = .ok (.invokevirtual 148, 3) := by decide +kernel
theorem dX8_sameNames_112 : decode cX8_sameNames 112 = .ok (.ifCond .eq 7, 3) := by decide +kernel
theorem dX8_sameNames_115 : decode cX8_sameNames 115 = .ok (.iconst 1, 1) := by decide +kernel
theorem dX8_sameNames_116 : decode cX8_sameNames 116 = .ok (.goto 4, 3) := by decide +kernel
theorem dX8_sameNames_119 : decode cX8_sameNames 119 = .ok (.iconst 0, 1) := by decide +kernel
theorem dX8_sameNames_120 : decode cX8_sameNames 120 = .ok (.ireturn, 1) := by decide +kernel
set_option maxHeartbeats 4000000 in
set_option maxRecDepth 10000 in
theorem vX8_sameNames_0 {l : Launch} {M : sl_M} {Q : sl_R} {o1 : Nat} {x2 x3 : Int} (ho1 : sl_cls o1 = 0) (H : sl_RM M → sl_rg x2 → sl_rg x3 → sl_At l mX8_sameNames 3 [(0, vR 8 0), (1, vR o1 0), (2, vI x2), (3, vI x3), (4, vI 0)] [] M Q) : sl_At l mX8_sameNames 0 [(0, vR 8 0), (1, vR o1 0), (2, vI x2), (3, vI x3)] [] M Q := by
  refine sl_At.in (fun hM hls => ?_)
  have g2 : sl_rg x2 := hls _ (List.mem_of_getElem? (i := 2) rfl)
  have g3 : sl_rg x3 := hls _ (List.mem_of_getElem? (i := 3) rfl)
  have H := H hM g2 g3
  refine r_iconst dX8_sameNames_0 ?_
  refine r_istore (ls' := [(4, vI 0), (0, vR 8 0), (1, vR o1 0), (2, vI x2), (3, vI x3)]) ⟨by decide, by decide⟩ (by decide) rfl dX8_sameNames_1 ?_
  exact sl_At.sub [1, 2, 3, 4, 0] rfl H
set_option maxHeartbeats 4000000 in
set_option maxRecDepth 10000 in
theorem vX8_sameNames_3 {l : Launch} {M : sl_M} {Q : sl_R} {o1 : Nat} {x2 x3 x4 : Int} (ho1 : sl_cls o1 = 0) (H : sl_RM M → sl_rg x2 → sl_rg x3 → sl_rg x4 → (0 ≤ x2 ∧ x2 < 40) ∧ ((M o1 9 x2 ≤ x4) → ((M o1 1 x2 ≠ 0) → Q (some (vI 1)) M) ∧ ((¬ (M o1 1 x2 ≠ 0)) → (0 ≤ x3 ∧ x3 < 40) ∧ sl_RI l mX8_replaces [vR 8 0, vI (M o1 6 x2), vI (M o1 6 x3)] M (fun y6 M5 => Q (some (vI (if ¬ (y6 = 0) then 1 else 0))) M5))) ∧ ((¬ (M o1 9 x2 ≤ x4)) → sl_RI l mX0_symbol [vR o1 0, vI x2, vI x4] M (fun y9 M8 => sl_RI l mX0_symbol [vR o1 0, vI x3, vI x4] M8 (fun y11 M10 => (∀ y12 : Int, y12 = sp_var y9 → (∀ y13 : Int, y13 = sp_var y11 → ((y12 = (-1)) → ((y9 = y11) → (sl_rg (x4 + 1)) ∧ sl_At l mX8_sameNames 3 [(0, vR 8 0), (1, vR o1 0), (2, vI x2), (3, vI x3), (4, vI (x4 + 1))] [] M10 Q) ∧ ((¬ (y9 = y11)) → Q (some (vI 0)) M10)) ∧ ((¬ (y12 = (-1))) → ((y13 ≠ (-1)) → sl_RI l mX8_replaces [vR 8 0, vI y12, vI y13] M10 (fun y19 M18 => ((y19 ≠ 0) → (sl_rg (x4 + 1)) ∧ sl_At l mX8_sameNames 3 [(0, vR 8 0), (1, vR o1 0), (2, vI x2), (3, vI x3), (4, vI (x4 + 1))] [] M18 Q) ∧ ((¬ (y19 ≠ 0)) → Q (some (vI 0)) M18))) ∧ ((¬ (y13 ≠ (-1))) → ((y9 = y11) → (sl_rg (x4 + 1)) ∧ sl_At l mX8_sameNames 3 [(0, vR 8 0), (1, vR o1 0), (2, vI x2), (3, vI x3), (4, vI (x4 + 1))] [] M10 Q) ∧ ((¬ (y9 = y11)) → Q (some (vI 0)) M10))))))))) : sl_At l mX8_sameNames 3 [(0, vR 8 0), (1, vR o1 0), (2, vI x2), (3, vI x3), (4, vI x4)] [] M Q := by
  refine sl_At.in (fun hM hls => ?_)
  have g2 : sl_rg x2 := hls _ (List.mem_of_getElem? (i := 2) rfl)
  have g3 : sl_rg x3 := hls _ (List.mem_of_getElem? (i := 3) rfl)
  have g4 : sl_rg x4 := hls _ (List.mem_of_getElem? (i := 4) rfl)
  have H := H hM g2 g3 g4
  refine r_iload (k := 4) rfl dX8_sameNames_3 ?_
  refine r_aload_n (k := 1) rfl rfl dX8_sameNames_5 ?_
  refine r_getR (k := 8) (o' := o1) (i' := 9) ckX0 ho1 rfl (by decide) rfl rfl rfl fl_X8_133 dX8_sameNames_6 ?_
  refine r_iload_n (k := 2) rfl rfl dX8_sameNames_9 ?_
  obtain ⟨c1, H⟩ := H
  refine r_iald ho1 rfl rfl c1 dX8_sameNames_10 ?_
  refine r_icmp_ge (tgt := 87) g4 (hM _ _ _) dX8_sameNames_11 (by decide) (fun h2 => ?_) (fun h2 => ?_)
  · have H := H.1 h2
    refine r_aload_n (k := 1) rfl rfl dX8_sameNames_87 ?_
    refine r_getR (k := 0) (o' := o1) (i' := 1) ckX0 ho1 rfl (by decide) rfl rfl rfl fl_X8_127 dX8_sameNames_88 ?_
    refine r_iload_n (k := 2) rfl rfl dX8_sameNames_91 ?_
    refine r_iald ho1 rfl rfl c1 dX8_sameNames_92 ?_
    refine r_if_ne (tgt := 115) (hM _ _ _) dX8_sameNames_93 (by decide) (fun h3 => ?_) (fun h3 => ?_)
    · have H := H.1 h3
      refine r_iconst dX8_sameNames_115 ?_
      refine r_goto (tgt := 120) dX8_sameNames_116 (by decide) ?_
      refine r_zret rfl (Or.inr rfl) dX8_sameNames_120 ?_
      exact H
    · have H := H.2 h3
      refine r_aload_n (k := 0) rfl rfl dX8_sameNames_96 ?_
      refine r_aload_n (k := 1) rfl rfl dX8_sameNames_97 ?_
      refine r_getR (k := 5) (o' := o1) (i' := 6) ckX0 ho1 rfl (by decide) rfl rfl rfl fl_X8_151 dX8_sameNames_98 ?_
      refine r_iload_n (k := 2) rfl rfl dX8_sameNames_101 ?_
      refine r_iald ho1 rfl rfl c1 dX8_sameNames_102 ?_
      refine r_aload_n (k := 1) rfl rfl dX8_sameNames_103 ?_
      refine r_getR (k := 5) (o' := o1) (i' := 6) ckX0 ho1 rfl (by decide) rfl rfl rfl fl_X8_151 dX8_sameNames_104 ?_
      refine r_iload_n (k := 3) rfl rfl dX8_sameNames_107 ?_
      obtain ⟨c4, H⟩ := H
      refine r_iald ho1 rfl rfl c4 dX8_sameNames_108 ?_
      refine r_callV (g := mX8_replaces) ckX8 rfl rfl rfl rfl mkX8_replaces mvX8_replaces ml_X8_148 ⟨by decide, by decide⟩ rfl (Nat.le_of_ble_eq_true rfl) rfl (ok_i (hM _ _ _) (ok_i (hM _ _ _) ok_n)) dX8_sameNames_109 (sl_afterI (sl_RI.mono (fun y6 M5 gy6 hM5 H => ?_) H))
      have J : sl_At l mX8_sameNames 120 [(0, vR 8 0), (1, vR o1 0), (2, vI x2), (3, vI x3), (4, vI x4)] [vI (if ¬ (y6 = 0) then 1 else 0)] M5 Q := by
        refine r_zret rfl b_01 dX8_sameNames_120 ?_
        exact H
      refine r_if_eq (tgt := 119) gy6 dX8_sameNames_112 (by decide) (fun h7 => ?_) (fun h7 => ?_)
      · refine r_iconst dX8_sameNames_119 ?_
        rw [if_neg (show ¬ (¬ (y6 = 0)) by omega)] at J
        exact J
      · refine r_iconst dX8_sameNames_115 ?_
        refine r_goto (tgt := 120) dX8_sameNames_116 (by decide) ?_
        rw [if_pos (show ¬ (y6 = 0) by omega)] at J
        exact J
  · have H := H.2 h2
    refine r_aload_n (k := 1) rfl rfl dX8_sameNames_14 ?_
    refine r_iload_n (k := 2) rfl rfl dX8_sameNames_15 ?_
    refine r_iload (k := 4) rfl dX8_sameNames_16 ?_
    refine r_callV (g := mX0_symbol) ckX0 ho1 rfl rfl rfl mkX0_symbol mvX0_symbol ml_X8_142 ⟨by decide, by decide⟩ rfl (Nat.le_of_ble_eq_true rfl) rfl (ok_i g2 (ok_i g4 ok_n)) dX8_sameNames_18 (sl_afterI (sl_RI.mono (fun y9 M8 gy9 hM8 H => ?_) H))
    refine r_istore (ls' := [(5, vI y9), (0, vR 8 0), (1, vR o1 0), (2, vI x2), (3, vI x3), (4, vI x4)]) gy9 (by decide) rfl dX8_sameNames_21 ?_
    refine r_aload_n (k := 2) rfl rfl dX8_sameNames_23 ?_
    refine r_iload_n (k := 4) rfl rfl dX8_sameNames_24 ?_
    refine r_iload (k := 5) rfl dX8_sameNames_25 ?_
    refine r_callV (g := mX0_symbol) ckX0 ho1 rfl rfl rfl mkX0_symbol mvX0_symbol ml_X8_142 ⟨by decide, by decide⟩ rfl (Nat.le_of_ble_eq_true rfl) rfl (ok_i g3 (ok_i g4 ok_n)) dX8_sameNames_27 (sl_afterI (sl_RI.mono (fun y11 M10 gy11 hM10 H => ?_) H))
    refine r_istore (ls' := [(6, vI y11), (5, vI y9), (0, vR 8 0), (1, vR o1 0), (2, vI x2), (3, vI x3), (4, vI x4)]) gy11 (by decide) rfl dX8_sameNames_30 ?_
    refine r_iload (k := 1) rfl dX8_sameNames_32 ?_
    refine r_callSN (g := mX9_variableOf) rfl mkX9_variableOf msX9_variableOf mn_X8_145 ⟨by decide, by decide⟩ rfl (Nat.le_of_ble_eq_true rfl) rfl (ok_i gy9 ok_n) dX8_sameNames_34 (sl_afterI (sl_RI.by kX9_variableOf ?_))
    refine r_nm (fun y12 fy12 => ?_)
    have H := H y12 fy12
    have gy12 : sl_rg y12 := by rw [fy12]; exact (rgkX9_variableOf _)
    refine r_istore (ls' := [(7, vI y12), (6, vI y11), (5, vI y9), (0, vR 8 0), (1, vR o1 0), (2, vI x2), (3, vI x3), (4, vI x4)]) gy12 (by decide) rfl dX8_sameNames_37 ?_
    refine r_iload (k := 1) rfl dX8_sameNames_39 ?_
    refine r_callSN (g := mX9_variableOf) rfl mkX9_variableOf msX9_variableOf mn_X8_145 ⟨by decide, by decide⟩ rfl (Nat.le_of_ble_eq_true rfl) rfl (ok_i gy11 ok_n) dX8_sameNames_41 (sl_afterI (sl_RI.by kX9_variableOf ?_))
    refine r_nm (fun y13 fy13 => ?_)
    have H := H y13 fy13
    have gy13 : sl_rg y13 := by rw [fy13]; exact (rgkX9_variableOf _)
    refine r_istore (ls' := [(8, vI y13), (7, vI y12), (6, vI y11), (5, vI y9), (0, vR 8 0), (1, vR o1 0), (2, vI x2), (3, vI x3), (4, vI x4)]) gy13 (by decide) rfl dX8_sameNames_44 ?_
    refine r_iload (k := 1) rfl dX8_sameNames_46 ?_
    refine r_iconst dX8_sameNames_48 ?_
    refine r_icmp_eq (tgt := 58) gy12 ⟨by decide, by decide⟩ dX8_sameNames_49 (by decide) (fun h14 => ?_) (fun h14 => ?_)
    · have H := H.1 h14
      refine r_iload (k := 3) rfl dX8_sameNames_58 ?_
      refine r_iload (k := 2) rfl dX8_sameNames_60 ?_
      refine r_icmp_eq (tgt := 81) gy9 gy11 dX8_sameNames_62 (by decide) (fun h15 => ?_) (fun h15 => ?_)
      · have H := H.1 h15
        obtain ⟨c16, H⟩ := H
        refine r_iinc (k := 8) (ls' := [(4, vI (x4 + 1)), (8, vI y13), (7, vI y12), (6, vI y11), (5, vI y9), (0, vR 8 0), (1, vR o1 0), (2, vI x2), (3, vI x3)]) rfl c16 (by decide) rfl dX8_sameNames_81 ?_
        refine r_goto (tgt := 3) dX8_sameNames_84 (by decide) ?_
        exact sl_At.sub [5, 6, 7, 8, 0] rfl H
      · have H := H.2 h15
        refine r_goto (tgt := 79) dX8_sameNames_65 (by decide) ?_
        refine r_iconst dX8_sameNames_79 ?_
        refine r_zret rfl (Or.inl rfl) dX8_sameNames_80 ?_
        exact H
    · have H := H.2 h14
      refine r_iload (k := 0) rfl dX8_sameNames_52 ?_
      refine r_iconst dX8_sameNames_54 ?_
      refine r_icmp_ne (tgt := 68) gy13 ⟨by decide, by decide⟩ dX8_sameNames_55 (by decide) (fun h17 => ?_) (fun h17 => ?_)
      · have H := H.1 h17
        refine r_aload_n (k := 4) rfl rfl dX8_sameNames_68 ?_
        refine r_iload (k := 1) rfl dX8_sameNames_69 ?_
        refine r_iload (k := 0) rfl dX8_sameNames_71 ?_
        refine r_callV (g := mX8_replaces) ckX8 rfl rfl rfl rfl mkX8_replaces mvX8_replaces ml_X8_148 ⟨by decide, by decide⟩ rfl (Nat.le_of_ble_eq_true rfl) rfl (ok_i gy12 (ok_i gy13 ok_n)) dX8_sameNames_73 (sl_afterI (sl_RI.mono (fun y19 M18 gy19 hM18 H => ?_) H))
        refine r_if_ne (tgt := 81) gy19 dX8_sameNames_76 (by decide) (fun h20 => ?_) (fun h20 => ?_)
        · have H := H.1 h20
          obtain ⟨c21, H⟩ := H
          refine r_iinc (k := 8) (ls' := [(4, vI (x4 + 1)), (8, vI y13), (7, vI y12), (6, vI y11), (5, vI y9), (0, vR 8 0), (1, vR o1 0), (2, vI x2), (3, vI x3)]) rfl c21 (by decide) rfl dX8_sameNames_81 ?_
          refine r_goto (tgt := 3) dX8_sameNames_84 (by decide) ?_
          exact sl_At.sub [5, 6, 7, 8, 0] rfl H
        · have H := H.2 h20
          refine r_iconst dX8_sameNames_79 ?_
          refine r_zret rfl (Or.inl rfl) dX8_sameNames_80 ?_
          exact H
      · have H := H.2 h17
        refine r_iload (k := 3) rfl dX8_sameNames_58 ?_
        refine r_iload (k := 2) rfl dX8_sameNames_60 ?_
        refine r_icmp_eq (tgt := 81) gy9 gy11 dX8_sameNames_62 (by decide) (fun h22 => ?_) (fun h22 => ?_)
        · have H := H.1 h22
          obtain ⟨c23, H⟩ := H
          refine r_iinc (k := 8) (ls' := [(4, vI (x4 + 1)), (8, vI y13), (7, vI y12), (6, vI y11), (5, vI y9), (0, vR 8 0), (1, vR o1 0), (2, vI x2), (3, vI x3)]) rfl c23 (by decide) rfl dX8_sameNames_81 ?_
          refine r_goto (tgt := 3) dX8_sameNames_84 (by decide) ?_
          exact sl_At.sub [5, 6, 7, 8, 0] rfl H
        · have H := H.2 h22
          refine r_goto (tgt := 79) dX8_sameNames_65 (by decide) ?_
          refine r_iconst dX8_sameNames_79 ?_
          refine r_zret rfl (Or.inl rfl) dX8_sameNames_80 ?_
          exact H
theorem eX8_sameNames {l : Launch} {M : sl_M} {Q : sl_R} {o1 : Nat} {x2 x3 : Int} (k : sl_At l mX8_sameNames 0 [(0, vR 8 0), (1, vR o1 0), (2, vI x2), (3, vI x3)] [] M Q) : sl_Runs l mX8_sameNames [vR 8 0, vR o1 0, vI x2, vI x3] M Q := sl_Runs.of (ls := [(0, vR 8 0), (1, vR o1 0), (2, vI x2), (3, vI x3)]) rfl rfl (fun _ => rfl) (fun _ => Nat.le_of_ble_eq_true rfl) rfl (k)
theorem dX8_replaces_0 : decode cX8_replaces 0 = .ok (.aload_n 0, 1) := by decide +kernel
theorem dX8_replaces_1 : decode cX8_replaces 1 = .ok (.getfield 18, 3) := by decide +kernel
theorem dX8_replaces_4 : decode cX8_replaces 4 = .ok (.iload_n 1, 1) := by decide +kernel
theorem dX8_replaces_5 : decode cX8_replaces 5 = .ok (.iaload, 1) := by decide +kernel
theorem dX8_replaces_6 : decode cX8_replaces 6 = .ok (.iconst (-1), 1) := by decide +kernel
theorem dX8_replaces_7 : decode cX8_replaces 7 = .ok (.if_icmp .ne 33, 3) := by decide +kernel
theorem dX8_replaces_10 : decode cX8_replaces 10 = .ok (.aload_n 0, 1) := by decide +kernel
theorem dX8_replaces_11 : decode cX8_replaces 11 = .ok (.getfield 113, 3) := by decide +kernel
theorem dX8_replaces_14 : decode cX8_replaces 14 = .ok (.iload_n 2, 1) := by decide +kernel
theorem dX8_replaces_15 : decode cX8_replaces 15 = .ok (.invokestatic 83, 3) := by decide +kernel
theorem dX8_replaces_18 : decode cX8_replaces 18 = .ok (.ifCond .ne 22, 3) := by decide +kernel
theorem dX8_replaces_21 : decode cX8_replaces 21 = .ok (.aload_n 0, 1) := by decide +kernel
theorem dX8_replaces_22 : decode cX8_replaces 22 = .ok (.getfield 18, 3) := by decide +kernel
theorem dX8_replaces_25 : decode cX8_replaces 25 = .ok (.iload_n 1, 1) := by decide +kernel
theorem dX8_replaces_26 : decode cX8_replaces 26 = .ok (.iload_n 2, 1) := by decide +kernel
theorem dX8_replaces_27 : decode cX8_replaces 27 = .ok (.iastore, 1) := by decide +kernel
theorem dX8_replaces_28 : decode cX8_replaces 28 = .ok (.aload_n 0, 1) := by decide +kernel
theorem dX8_replaces_29 : decode cX8_replaces 29 = .ok (.dup, 1) := by decide +kernel
theorem dX8_replaces_30 : decode cX8_replaces 30 = .ok (.getfield 113, 3) := by decide +kernel
theorem dX8_replaces_33 : decode cX8_replaces 33 = .ok (.iconst 1, 1) := by decide +kernel
theorem dX8_replaces_34 : decode cX8_replaces 34 = .ok (.iload_n 2, 1) := by decide +kernel
theorem dX8_replaces_35 : decode cX8_replaces 35 = .ok (.ishl, 1) := by decide +kernel
theorem dX8_replaces_36 : decode cX8_replaces 36 = .ok (.ior, 1) := by decide +kernel
theorem dX8_replaces_37 : decode cX8_replaces 37 = .ok (.putfield 113, 3) := by decide +kernel
theorem dX8_replaces_40 : decode cX8_replaces 40 = .ok (.aload_n 0, 1) := by decide +kernel
theorem dX8_replaces_41 : decode cX8_replaces 41 = .ok (.getfield 18, 3) := by decide +kernel
theorem dX8_replaces_44 : decode cX8_replaces 44 = .ok (.iload_n 1, 1) := by decide +kernel
theorem dX8_replaces_45 : decode cX8_replaces 45 = .ok (.iaload, 1) := by decide +kernel
theorem dX8_replaces_46 : decode cX8_replaces 46 = .ok (.iload_n 2, 1) := by decide +kernel
theorem dX8_replaces_47 : decode cX8_replaces 47 = .ok (.if_icmp .ne 7, 3) := by decide +kernel
theorem dX8_replaces_50 : decode cX8_replaces 50 = .ok (.iconst 1, 1) := by decide +kernel
theorem dX8_replaces_51 : decode cX8_replaces 51 = .ok (.goto 4, 3) := by decide +kernel
theorem dX8_replaces_54 : decode cX8_replaces 54 = .ok (.iconst 0, 1) := by decide +kernel
theorem dX8_replaces_55 : decode cX8_replaces 55 = .ok (.ireturn, 1) := by decide +kernel
set_option maxHeartbeats 4000000 in
set_option maxRecDepth 10000 in
theorem vX8_replaces_0 {l : Launch} {M : sl_M} {Q : sl_R} {x1 x2 : Int} (H : sl_RM M → sl_rg x1 → sl_rg x2 → (0 ≤ x1 ∧ x1 < 8) ∧ ((M 8 2 x1 ≠ (-1)) → Q (some (vI (if ¬ (M 8 2 x1 ≠ x2) then 1 else 0))) M) ∧ ((¬ (M 8 2 x1 ≠ (-1))) → ((iand (ishr (M 8 0 2) x2) 1 ≠ 0) → Q (some (vI (if ¬ (M 8 2 x1 ≠ x2) then 1 else 0))) M) ∧ ((¬ (iand (ishr (M 8 0 2) x2) 1 ≠ 0)) → (∀ M6, M6 = sl_wr M 8 2 x1 x2 → (∀ M7, M7 = sl_wr M6 8 0 2 (ior (M6 8 0 2) (ishl 1 x2)) → Q (some (vI (if ¬ (M7 8 2 x1 ≠ x2) then 1 else 0))) M7))))) : sl_At l mX8_replaces 0 [(0, vR 8 0), (1, vI x1), (2, vI x2)] [] M Q := by
  refine sl_At.in (fun hM hls => ?_)
  have g1 : sl_rg x1 := hls _ (List.mem_of_getElem? (i := 1) rfl)
  have g2 : sl_rg x2 := hls _ (List.mem_of_getElem? (i := 2) rfl)
  have H := H hM g1 g2
  refine r_aload_n (k := 0) rfl rfl dX8_replaces_0 ?_
  refine r_getR (k := 1) (o' := 8) (i' := 2) ckX8 rfl rfl (by decide) rfl rfl rfl fl_X8_18 dX8_replaces_1 ?_
  refine r_iload_n (k := 1) rfl rfl dX8_replaces_4 ?_
  obtain ⟨c1, H⟩ := H
  refine r_iald rfl rfl rfl c1 dX8_replaces_5 ?_
  refine r_iconst dX8_replaces_6 ?_
  refine r_icmp_ne (tgt := 40) (hM _ _ _) ⟨by decide, by decide⟩ dX8_replaces_7 (by decide) (fun h2 => ?_) (fun h2 => ?_)
  · have H := H.1 h2
    refine r_aload_n (k := 0) rfl rfl dX8_replaces_40 ?_
    refine r_getR (k := 1) (o' := 8) (i' := 2) ckX8 rfl rfl (by decide) rfl rfl rfl fl_X8_18 dX8_replaces_41 ?_
    refine r_iload_n (k := 1) rfl rfl dX8_replaces_44 ?_
    refine r_iald rfl rfl rfl c1 dX8_replaces_45 ?_
    refine r_iload_n (k := 2) rfl rfl dX8_replaces_46 ?_
    have J : sl_At l mX8_replaces 55 [(0, vR 8 0), (1, vI x1), (2, vI x2)] [vI (if ¬ (M 8 2 x1 ≠ x2) then 1 else 0)] M Q := by
      refine r_zret rfl b_01 dX8_replaces_55 ?_
      exact H
    refine r_icmp_ne (tgt := 54) (hM _ _ _) g2 dX8_replaces_47 (by decide) (fun h3 => ?_) (fun h3 => ?_)
    · refine r_iconst dX8_replaces_54 ?_
      rw [if_neg (show ¬ (¬ (M 8 2 x1 ≠ x2)) by omega)] at J
      exact J
    · refine r_iconst dX8_replaces_50 ?_
      refine r_goto (tgt := 55) dX8_replaces_51 (by decide) ?_
      rw [if_pos (show ¬ (M 8 2 x1 ≠ x2) by omega)] at J
      exact J
  · have H := H.2 h2
    refine r_aload_n (k := 0) rfl rfl dX8_replaces_10 ?_
    refine r_gI (k := 2) (kz := 2) rfl ckX8 rfl rfl (by decide) rfl rfl fl_X8_113 dX8_replaces_11 ?_
    refine r_iload_n (k := 2) rfl rfl dX8_replaces_14 ?_
    refine r_callSN (g := mX9_has) rfl mkX9_has msX9_has mn_X8_83 ⟨by decide, by decide⟩ rfl (Nat.le_of_ble_eq_true rfl) rfl (ok_i (hM _ _ _) (ok_i g2 ok_n)) dX8_replaces_15 (sl_afterI (sl_RI.by kX9_has ?_))
    refine r_if_ne (tgt := 40) rg_b dX8_replaces_18 (by decide) (fun h4 => ?_) (fun h4 => ?_)
    · have H := H.1 (b_ne0.mp h4)
      refine r_aload_n (k := 0) rfl rfl dX8_replaces_40 ?_
      refine r_getR (k := 1) (o' := 8) (i' := 2) ckX8 rfl rfl (by decide) rfl rfl rfl fl_X8_18 dX8_replaces_41 ?_
      refine r_iload_n (k := 1) rfl rfl dX8_replaces_44 ?_
      refine r_iald rfl rfl rfl c1 dX8_replaces_45 ?_
      refine r_iload_n (k := 2) rfl rfl dX8_replaces_46 ?_
      have J : sl_At l mX8_replaces 55 [(0, vR 8 0), (1, vI x1), (2, vI x2)] [vI (if ¬ (M 8 2 x1 ≠ x2) then 1 else 0)] M Q := by
        refine r_zret rfl b_01 dX8_replaces_55 ?_
        exact H
      refine r_icmp_ne (tgt := 54) (hM _ _ _) g2 dX8_replaces_47 (by decide) (fun h5 => ?_) (fun h5 => ?_)
      · refine r_iconst dX8_replaces_54 ?_
        rw [if_neg (show ¬ (¬ (M 8 2 x1 ≠ x2)) by omega)] at J
        exact J
      · refine r_iconst dX8_replaces_50 ?_
        refine r_goto (tgt := 55) dX8_replaces_51 (by decide) ?_
        rw [if_pos (show ¬ (M 8 2 x1 ≠ x2) by omega)] at J
        exact J
    · have H := H.2 (b_eq0.mp (Decidable.of_not_not h4))
      refine r_aload_n (k := 0) rfl rfl dX8_replaces_21 ?_
      refine r_getR (k := 1) (o' := 8) (i' := 2) ckX8 rfl rfl (by decide) rfl rfl rfl fl_X8_18 dX8_replaces_22 ?_
      refine r_iload_n (k := 1) rfl rfl dX8_replaces_25 ?_
      refine r_iload_n (k := 2) rfl rfl dX8_replaces_26 ?_
      refine r_iast rfl rfl rfl c1 g2 dX8_replaces_27 ?_
      refine r_mm (fun M6 e6 => ?_)
      have H := H M6 e6
      have hM6 : sl_RM M6 := by rw [e6]; exact sl_wr_RM hM g2
      refine r_aload_n (k := 0) rfl rfl dX8_replaces_28 ?_
      refine r_dup rfl dX8_replaces_29 ?_
      refine r_gI (k := 2) (kz := 2) rfl ckX8 rfl rfl (by decide) rfl rfl fl_X8_113 dX8_replaces_30 ?_
      refine r_iconst dX8_replaces_33 ?_
      refine r_iload_n (k := 2) rfl rfl dX8_replaces_34 ?_
      refine r_ishl dX8_replaces_35 ?_
      refine r_ior dX8_replaces_36 ?_
      refine r_pI (k := 2) (kz := 2) rfl ckX8 rfl rfl (by decide) rfl rfl rfl rfl fl_X8_113 (rg_ior _ _) dX8_replaces_37 ?_
      refine r_mm (fun M7 e7 => ?_)
      have H := H M7 e7
      have hM7 : sl_RM M7 := by rw [e7]; exact sl_wr_RM hM6 (rg_ior _ _)
      refine r_aload_n (k := 0) rfl rfl dX8_replaces_40 ?_
      refine r_getR (k := 1) (o' := 8) (i' := 2) ckX8 rfl rfl (by decide) rfl rfl rfl fl_X8_18 dX8_replaces_41 ?_
      refine r_iload_n (k := 1) rfl rfl dX8_replaces_44 ?_
      refine r_iald rfl rfl rfl c1 dX8_replaces_45 ?_
      refine r_iload_n (k := 2) rfl rfl dX8_replaces_46 ?_
      have J : sl_At l mX8_replaces 55 [(0, vR 8 0), (1, vI x1), (2, vI x2)] [vI (if ¬ (M7 8 2 x1 ≠ x2) then 1 else 0)] M7 Q := by
        refine r_zret rfl b_01 dX8_replaces_55 ?_
        exact H
      refine r_icmp_ne (tgt := 54) (hM7 _ _ _) g2 dX8_replaces_47 (by decide) (fun h8 => ?_) (fun h8 => ?_)
      · refine r_iconst dX8_replaces_54 ?_
        rw [if_neg (show ¬ (¬ (M7 8 2 x1 ≠ x2)) by omega)] at J
        exact J
      · refine r_iconst dX8_replaces_50 ?_
        refine r_goto (tgt := 55) dX8_replaces_51 (by decide) ?_
        rw [if_pos (show ¬ (M7 8 2 x1 ≠ x2) by omega)] at J
        exact J
theorem eX8_replaces {l : Launch} {M : sl_M} {Q : sl_R} {x1 x2 : Int} (k : sl_At l mX8_replaces 0 [(0, vR 8 0), (1, vI x1), (2, vI x2)] [] M Q) : sl_Runs l mX8_replaces [vR 8 0, vI x1, vI x2] M Q := sl_Runs.of (ls := [(0, vR 8 0), (1, vI x1), (2, vI x2)]) rfl rfl (fun _ => rfl) (fun _ => Nat.le_of_ble_eq_true rfl) rfl (k)
theorem dX8_packed_0 : decode cX8_packed 0 = .ok (.iconst 0, 1) := by decide +kernel
theorem dX8_packed_1 : decode cX8_packed 1 = .ok (.istore_n 1, 1) := by decide +kernel
theorem dX8_packed_2 : decode cX8_packed 2 = .ok (.aload_n 0, 1) := by decide +kernel
theorem dX8_packed_3 : decode cX8_packed 3 = .ok (.iconst 0, 1) := by decide +kernel
theorem dX8_packed_4 : decode cX8_packed 4 = .ok (.putfield 80, 3) := by decide +kernel
theorem dX8_packed_7 : decode cX8_packed 7 = .ok (.iconst 0, 1) := by decide +kernel
theorem dX8_packed_8 : decode cX8_packed 8 = .ok (.istore_n 2, 1) := by decide +kernel
theorem dX8_packed_9 : decode cX8_packed 9 = .ok (.iload_n 2, 1) := by decide +kernel
theorem dX8_packed_10 : decode cX8_packed 10 = .ok (.bipush 8, 2) := by decide +kernel
theorem dX8_packed_12 : decode cX8_packed 12 = .ok (.if_icmp .ge 44, 3) := by decide +kernel
theorem dX8_packed_15 : decode cX8_packed 15 = .ok (.aload_n 0, 1) := by decide +kernel
theorem dX8_packed_16 : decode cX8_packed 16 = .ok (.getfield 18, 3) := by decide +kernel
theorem dX8_packed_19 : decode cX8_packed 19 = .ok (.iload_n 2, 1) := by decide +kernel
theorem dX8_packed_20 : decode cX8_packed 20 = .ok (.iaload, 1) := by decide +kernel
theorem dX8_packed_21 : decode cX8_packed 21 = .ok (.iconst (-1), 1) := by decide +kernel
theorem dX8_packed_22 : decode cX8_packed 22 = .ok (.if_icmp .eq 28, 3) := by decide +kernel
theorem dX8_packed_25 : decode cX8_packed 25 = .ok (.iload_n 1, 1) := by decide +kernel
theorem dX8_packed_26 : decode cX8_packed 26 = .ok (.aload_n 0, 1) := by decide +kernel
theorem dX8_packed_27 : decode cX8_packed 27 = .ok (.getfield 18, 3) := by decide +kernel
theorem dX8_packed_30 : decode cX8_packed 30 = .ok (.iload_n 2, 1) := by decide +kernel
theorem dX8_packed_31 : decode cX8_packed 31 = .ok (.iaload, 1) := by decide +kernel
theorem dX8_packed_32 : decode cX8_packed 32 = .ok (.iconst 3, 1) := by decide +kernel
theorem dX8_packed_33 : decode cX8_packed 33 = .ok (.iload_n 2, 1) := by decide +kernel
theorem dX8_packed_34 : decode cX8_packed 34 = .ok (.imul, 1) := by decide +kernel
theorem dX8_packed_35 : decode cX8_packed 35 = .ok (.ishl, 1) := by decide +kernel
theorem dX8_packed_36 : decode cX8_packed 36 = .ok (.ior, 1) := by decide +kernel
theorem dX8_packed_37 : decode cX8_packed 37 = .ok (.istore_n 1, 1) := by decide +kernel
theorem dX8_packed_38 : decode cX8_packed 38 = .ok (.aload_n 0, 1) := by decide +kernel
theorem dX8_packed_39 : decode cX8_packed 39 = .ok (.dup, 1) := by decide +kernel
theorem dX8_packed_40 : decode cX8_packed 40 = .ok (.getfield 80, 3) := by decide +kernel
theorem dX8_packed_43 : decode cX8_packed 43 = .ok (.iconst 1, 1) := by decide +kernel
theorem dX8_packed_44 : decode cX8_packed 44 = .ok (.iload_n 2, 1) := by decide +kernel
theorem dX8_packed_45 : decode cX8_packed 45 = .ok (.ishl, 1) := by decide +kernel
theorem dX8_packed_46 : decode cX8_packed 46 = .ok (.ior, 1) := by decide +kernel
theorem dX8_packed_47 : decode cX8_packed 47 = .ok (.putfield 80, 3) := by decide +kernel
theorem dX8_packed_50 : decode cX8_packed 50 = .ok (.iinc 2 1, 3) := by decide +kernel
theorem dX8_packed_53 : decode cX8_packed 53 = .ok (.goto (-44), 3) := by decide +kernel
theorem dX8_packed_56 : decode cX8_packed 56 = .ok (.iload_n 1, 1) := by decide +kernel
theorem dX8_packed_57 : decode cX8_packed 57 = .ok (.ireturn, 1) := by decide +kernel
set_option maxHeartbeats 4000000 in
set_option maxRecDepth 10000 in
theorem vX8_packed_0 {l : Launch} {M : sl_M} {Q : sl_R} (H : sl_RM M → (∀ M1, M1 = sl_wr M 8 0 6 0 → sl_At l mX8_packed 9 [(0, vR 8 0), (1, vI 0), (2, vI 0)] [] M1 Q)) : sl_At l mX8_packed 0 [(0, vR 8 0)] [] M Q := by
  refine sl_At.in (fun hM hls => ?_)
  have H := H hM
  refine r_iconst dX8_packed_0 ?_
  refine r_istore_n (ls' := [(1, vI 0), (0, vR 8 0)]) ⟨by decide, by decide⟩ rfl (by decide) rfl dX8_packed_1 ?_
  refine r_aload_n (k := 1) rfl rfl dX8_packed_2 ?_
  refine r_iconst dX8_packed_3 ?_
  refine r_pI (k := 6) (kz := 6) rfl ckX8 rfl rfl (by decide) rfl rfl rfl rfl fl_X8_80 ⟨by decide, by decide⟩ dX8_packed_4 ?_
  refine r_mm (fun M1 e1 => ?_)
  have H := H M1 e1
  have hM1 : sl_RM M1 := by rw [e1]; exact sl_wr_RM hM ⟨by decide, by decide⟩
  refine r_iconst dX8_packed_7 ?_
  refine r_istore_n (ls' := [(2, vI 0), (1, vI 0), (0, vR 8 0)]) ⟨by decide, by decide⟩ rfl (by decide) rfl dX8_packed_8 ?_
  exact sl_At.sub [2, 1, 0] rfl H
set_option maxHeartbeats 4000000 in
set_option maxRecDepth 10000 in
theorem vX8_packed_9 {l : Launch} {M : sl_M} {Q : sl_R} {x1 x2 : Int} (H : sl_RM M → sl_rg x1 → sl_rg x2 → ((8 ≤ x2) → Q (some (vI x1)) M) ∧ ((¬ (8 ≤ x2)) → (0 ≤ x2 ∧ x2 < 8) ∧ ((M 8 2 x2 = (-1)) → (sl_rg (x2 + 1)) ∧ sl_At l mX8_packed 9 [(0, vR 8 0), (1, vI x1), (2, vI (x2 + 1))] [] M Q) ∧ ((¬ (M 8 2 x2 = (-1))) → (∀ y5 : Int, y5 = ior x1 (ishl (M 8 2 x2) (3 * x2)) → (∀ M6, M6 = sl_wr M 8 0 6 (ior (M 8 0 6) (ishl 1 x2)) → (sl_rg (x2 + 1)) ∧ sl_At l mX8_packed 9 [(0, vR 8 0), (1, vI y5), (2, vI (x2 + 1))] [] M6 Q))))) : sl_At l mX8_packed 9 [(0, vR 8 0), (1, vI x1), (2, vI x2)] [] M Q := by
  refine sl_At.in (fun hM hls => ?_)
  have g1 : sl_rg x1 := hls _ (List.mem_of_getElem? (i := 1) rfl)
  have g2 : sl_rg x2 := hls _ (List.mem_of_getElem? (i := 2) rfl)
  have H := H hM g1 g2
  refine r_iload_n (k := 2) rfl rfl dX8_packed_9 ?_
  refine r_bipush dX8_packed_10 (by decide) ?_
  refine r_icmp_ge (tgt := 56) g2 ⟨by decide, by decide⟩ dX8_packed_12 (by decide) (fun h1 => ?_) (fun h1 => ?_)
  · have H := H.1 h1
    refine r_iload_n (k := 1) rfl rfl dX8_packed_56 ?_
    refine r_iret rfl g1 dX8_packed_57 ?_
    exact H
  · have H := H.2 h1
    refine r_aload_n (k := 0) rfl rfl dX8_packed_15 ?_
    refine r_getR (k := 1) (o' := 8) (i' := 2) ckX8 rfl rfl (by decide) rfl rfl rfl fl_X8_18 dX8_packed_16 ?_
    refine r_iload_n (k := 2) rfl rfl dX8_packed_19 ?_
    obtain ⟨c2, H⟩ := H
    refine r_iald rfl rfl rfl c2 dX8_packed_20 ?_
    refine r_iconst dX8_packed_21 ?_
    refine r_icmp_eq (tgt := 50) (hM _ _ _) ⟨by decide, by decide⟩ dX8_packed_22 (by decide) (fun h3 => ?_) (fun h3 => ?_)
    · have H := H.1 h3
      obtain ⟨c4, H⟩ := H
      refine r_iinc (k := 2) (ls' := [(2, vI (x2 + 1)), (0, vR 8 0), (1, vI x1)]) rfl c4 (by decide) rfl dX8_packed_50 ?_
      refine r_goto (tgt := 9) dX8_packed_53 (by decide) ?_
      exact sl_At.sub [1, 2, 0] rfl H
    · have H := H.2 h3
      refine r_iload_n (k := 1) rfl rfl dX8_packed_25 ?_
      refine r_aload_n (k := 0) rfl rfl dX8_packed_26 ?_
      refine r_getR (k := 1) (o' := 8) (i' := 2) ckX8 rfl rfl (by decide) rfl rfl rfl fl_X8_18 dX8_packed_27 ?_
      refine r_iload_n (k := 2) rfl rfl dX8_packed_30 ?_
      refine r_iald rfl rfl rfl c2 dX8_packed_31 ?_
      refine r_iconst dX8_packed_32 ?_
      refine r_iload_n (k := 2) rfl rfl dX8_packed_33 ?_
      refine r_imul dX8_packed_34 ?_
      refine r_ishl dX8_packed_35 ?_
      refine r_ior dX8_packed_36 ?_
      refine r_nm (fun y5 fy5 => ?_)
      have H := H y5 fy5
      have gy5 : sl_rg y5 := by rw [fy5]; exact (rg_ior _ _)
      refine r_istore_n (ls' := [(1, vI y5), (0, vR 8 0), (2, vI x2)]) gy5 rfl (by decide) rfl dX8_packed_37 ?_
      refine r_aload_n (k := 1) rfl rfl dX8_packed_38 ?_
      refine r_dup rfl dX8_packed_39 ?_
      refine r_gI (k := 6) (kz := 6) rfl ckX8 rfl rfl (by decide) rfl rfl fl_X8_80 dX8_packed_40 ?_
      refine r_iconst dX8_packed_43 ?_
      refine r_iload_n (k := 2) rfl rfl dX8_packed_44 ?_
      refine r_ishl dX8_packed_45 ?_
      refine r_ior dX8_packed_46 ?_
      refine r_pI (k := 6) (kz := 6) rfl ckX8 rfl rfl (by decide) rfl rfl rfl rfl fl_X8_80 (rg_ior _ _) dX8_packed_47 ?_
      refine r_mm (fun M6 e6 => ?_)
      have H := H M6 e6
      have hM6 : sl_RM M6 := by rw [e6]; exact sl_wr_RM hM (rg_ior _ _)
      obtain ⟨c7, H⟩ := H
      refine r_iinc (k := 2) (ls' := [(2, vI (x2 + 1)), (1, vI y5), (0, vR 8 0)]) rfl c7 (by decide) rfl dX8_packed_50 ?_
      refine r_goto (tgt := 9) dX8_packed_53 (by decide) ?_
      exact sl_At.sub [2, 1, 0] rfl H
theorem eX8_packed {l : Launch} {M : sl_M} {Q : sl_R}  (k : sl_At l mX8_packed 0 [(0, vR 8 0)] [] M Q) : sl_Runs l mX8_packed [vR 8 0] M Q := sl_Runs.of (ls := [(0, vR 8 0)]) rfl rfl (fun _ => rfl) (fun _ => Nat.le_of_ble_eq_true rfl) rfl (k)
